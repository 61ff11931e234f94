/-! ===== go: both halves ===== -/
theorem OkG_of {T : Tn} {i : Nat} {r : Rs} (h : OkRs T i r) (e : r.1 = true) : OkG T (200 * i) r := ⟨e, (h e).1, (h e).2.1, (h e).2.2.1, (h e).2.2.2⟩
section CALLS
variable {b L : Nat} {xs : Nat → Int32} {X i c : Nat} {s : Sv} {μ : Mm}
theorem c_go {n : Nat} (hi : i < 1000) (h : IC X i c s μ) (e : (s.2.2.2.2.2.2 0).1 = true) (hn : n ≤ 200) : ∃ μ1, f_X10_go X (nI n) μ = some (nI ((s.2.2.2.2.2.2 0).2.2.2.1 + n), μ1) ∧ Cr1 (X + 13) s.1 (rdays s.1 (s.2.2.2.2.2.2 0) n) μ1 := by
  have h1 := h.1.1
  obtain ⟨ok, ht, hct, htu, hsp, h15⟩ := h.2.1
  have hrn := h.2.2.2.2.2.1
  have hok := OkG_of (hrn.1 0) e
  have hy1 := ok.1.2.2.2.2.2.1
  have hy2 := ok.1.2.2.2.2.2.2.1
  have hc := cb_c h.1
  obtain ⟨c2, c3, c4, c5⟩ := hrn.2.1.2 e
  obtain ⟨g1, g2⟩ := sp_tr h (s.2.2.2.2.2.2 0).2.1 hok.2.1
  have hyr : (if (1 : Int32) < nI (s.1 0 5) then nI (s.1 0 5) else (1 : Int32)) = nI (s.1 0 5) := by
    by_cases q : 1 < s.1 0 5
    · rw [if_pos (show (1 : Int32) < nI (s.1 0 5) from nI_lt q (by omega))]
    · rw [if_neg (show ¬ (1 : Int32) < nI (s.1 0 5) from nI_nlt (a := 1) (by omega) (by omega)), show s.1 0 5 = 1 by omega]; rfl
  have key := whl_i (body := f_X3_pass_L21 (X + 13) (nI n) c (X + 58) (nI (s.1 0 5))) n (fun j (st : Int32 × Mm) => st.1 = nI j ∧ Cg X c s.1 (rdays s.1 (s.2.2.2.2.2.2 0) j) st.2) (Q := fun ν => Cg X c s.1 (rdays s.1 (s.2.2.2.2.2.2 0) n) ν) (s0 := ((0 : Int32), m_tr X (dr s.1 (s.2.2.2.2.2.2 0).2.1) μ)) ⟨rfl, g2, tuP_x (fun q _ _ => m_tr_o (by omega) (by omega)) htu, cr1_x (m_tr_o (by omega) (by omega)) (m_tr_o (by omega) (by omega)) hrn.2.1⟩ ?_ ?_
  · obtain ⟨ν, w1, w2⟩ := key
    have hr4 := (w2.2.2.2 (rdays_ok ok hok n).1).2.2.1
    rw [rdays_ps] at hr4
    refine ⟨ν, ?_, w2.2.2⟩
    unfold f_X10_go f_X3_pass
    rw [if_pos (by rw [mk_0 h1]), show (200 : Int32) = nI 200 from rfl, two_ends2 (by decide), if_pos (inR_nI (by omega) (by decide)), rp_0_6 h1, ob, rf_13 h1, ob, hrn.2.1.1, e, if_neg (by decide), ob, cb_p h.1, ob, rp_0_3 h1, ob, if_pos (by rw [mk_13 h1]), ct_yr (cb_w h.1) hct, ob, hyr, ob, rf_13 h1, ob, c3, g1, ob, w1, ob, ob]
    have hsh := w2.1.1.1
    rw [rp_0_6 hsh, ob, rf_13 hsh, ob, hr4]
  · rintro j ⟨s1, ν⟩ hj ⟨e1, e2⟩
    replace e1 : s1 = nI j := e1
    replace e2 : Cg X c s.1 (rdays s.1 (s.2.2.2.2.2.2 0) j) ν := e2
    subst e1
    obtain ⟨ν', w1, w2⟩ := c_day1 (l1 := nI n) (j := j) ok (rdays_ok ok hok j) (by omega) e2 (nI_lt hj (by omega)) (by omega)
    exact ⟨_, w1, rfl, w2⟩
  · rintro ⟨s1, ν⟩ ⟨e1, e2⟩
    replace e1 : s1 = nI n := e1
    subst e1
    refine ⟨ν, ?_, e2⟩
    simp only [f_X3_pass_L21]
    rw [if_pos (nI_le (Nat.le_refl _) (by omega))]
/-! the reference -/
theorem kn_w {X k : Nat} {κ : Nat → Nat → Bool} {o a : Nat → Int32} {v : Int32} {μ : Mm} : ms_I (m_kn X (κ, o) a μ) (X + 90) k v = m_kn X (κ, u1 o k v) a μ := by
  unfold m_kn
  rw [sA_I]
/-- what the reference's row of its own holds in a run -/
def Og (r : Rs) (o : Nat → Int32) (o0 : Nat → Int32) : Prop := o 65 = nI r.2.1 ∧ o 66 = nI r.2.2.2.1 ∧ ∀ k, (k < 38 ∨ 42 < k) → k ≠ 65 → k ≠ 66 → o k = o0 k
theorem k_nx {T : Tn} {r : Rs} {o : Nat → Int32} (ok : OkT T) (od : OkD (T 0 0) (dr T r.2.1)) (hz : ∀ p f, T 0 1 ≤ f → r.2.2.2.2 p f = false) : (k_ngt T (dr T r.2.1) (Nat.testBit 7) (dq T (r.2.2.2.1 % T 0 5)) (r.2.2.2.1 % T 0 5) (k_day T (dr T r.2.1) (Nat.testBit 7) (dq T (r.2.2.2.1 % T 0 5)) (r.2.2.2.1 % T 0 5) (r.2.2.2.2, o))).1 = (rday T r).2.2.2.2 := by
  funext p f
  show _ = (decide (f < T 0 1) && nxt T (dr T r.2.1) (r.2.2.2.1 % T 0 5) f (fun p => r.2.2.2.2 p f) p)
  by_cases hf : f < T 0 1
  · rw [decide_eq_true hf, Bool.true_and]
    have e1 := congrFun (k_ngt_c (w := Nat.testBit 7) (u := dq T (r.2.2.2.1 % T 0 5)) (day := r.2.2.2.1 % T 0 5) (f := f) (s := k_day T (dr T r.2.1) (Nat.testBit 7) (dq T (r.2.2.2.1 % T 0 5)) (r.2.2.2.1 % T 0 5) (r.2.2.2.2, o)) od) p
    rw [k_day_c ok hf] at e1
    exact e1
  · rw [decide_eq_false hf, Bool.false_and]
    exact k_ngt_z (k_day_z (by omega) (fun p => hz p f (by omega))) p
theorem l_draw {X len sd : Nat} {ν : Mm} (h : Sh X ν) (hs : mm_L ν (X + 90) 67 = lN sd) (hsd : sd < 2 ^ 31) (hl : 0 < len) (hl2 : len < 2 ^ 30) : f_X11_draw (X + 90) (nI len) ν = some (nI (sdn sd / 65536 % len), ms_L ν (X + 90) 67 (lN (sdn sd))) := by
  have hlt := sdn_lt sd
  have e1 : ((1103515245 : Int64) * lN sd) + (12345 : Int64) = lN (1103515245 * sd + 12345) := by
    have a1 : (1103515245 : Int64) * lN sd = lN (1103515245 * sd) := (Int64.ofNat_mul 1103515245 sd).symm
    have a2 : lN (1103515245 * sd) + (12345 : Int64) = lN (1103515245 * sd + 12345) := (Int64.ofNat_add (1103515245 * sd) 12345).symm
    rw [a1, a2]
  have e2 : lN (1103515245 * sd + 12345) - lN (1103515245 * sd + 12345) / (2147483648 : Int64) * (2147483648 : Int64) = lN (sdn sd) := by
    have := pk_lRem (a := 1103515245 * sd + 12345) (b := 2147483648) (by omega) (by decide) (by decide)
    exact this
  have hS : ∀ v, Sh X (ms_L ν (X + 90) 67 v) := fun _ => h
  unfold f_X11_draw
  have e3 : lN (sdn sd) / (65536 : Int64) = lN (sdn sd / 65536) := pk_lDiv (a := sdn sd) (b := 65536) (by omega) (by decide) (by decide)
  have hq : sdn sd / 65536 < 2 ^ 31 := Nat.lt_of_le_of_lt (Nat.div_le_self _ _) hlt
  have e4 : ¬ lN len = 0 := by
    intro q
    have := (pk_lEQ (a := len) (b := 0) (by omega) (by decide)).mp q
    omega
  rw [if_pos (by rw [mk_90 h]), rl_90 h, ob, hs, e1, e2, wl_90 h, ob, rl_90 (hS _), ob, nI_i64 (by omega), if_neg e4, rL, if_pos ⟨rfl, rfl⟩, e3, pk_lRem (by omega) hl (by omega), lN_i32]
theorem sL_u (μ : Mm) (a k : Nat) (v w : Int64) : ms_L (ms_L μ a k v) a k w = ms_L μ a k w := by
  rw [sL_B μ a k v, sB_L, u1_u1, ← sL_B]
theorem r_day {B : Nat} {r : Rs} {κ : Nat → Nat → Bool} {o a : Nat → Int32} {ν : Mm} (hν : IR X s ν) (ok : OkT s.1) (hr : OkG s.1 B r) (hB : B < 2 ^ 30) (hκ : κ = r.2.2.2.2) (ho : Og r o (mm_I ν (X + 90))) :
    ∃ o' a', f_X11_runDay (X + 90) (m_kn X (κ, o) a (ms_L ν (X + 90) 67 (lN r.2.2.1))) = some (m_kn X ((rday s.1 r).2.2.2.2, o') a' (ms_L ν (X + 90) 67 (lN (rday s.1 r).2.2.1))) ∧ Og (rday s.1 r) o' (mm_I ν (X + 90)) := by
  subst hκ
  obtain ⟨o1, o2, o3, o4, o5⟩ := hr
  obtain ⟨p1, p2, p3⟩ := ho
  have od := dr_ok ok o2
  have hy1 := ok.1.2.2.2.2.2.1
  have hy2 := ok.1.2.2.2.2.2.2.1
  have hlen := lenE ok
  have hlE := EN_len ok
  have hday : r.2.2.2.1 % s.1 0 5 < 28 := Nat.lt_of_lt_of_le (Nat.mod_lt _ hy1) hy2
  have hsh : Sh X (ms_L ν (X + 90) 67 (lN r.2.2.1)) := hν.1
  have hm : MTn (X + 90) 0 s.1 (ms_L ν (X + 90) 67 (lN r.2.2.1)) := hν.2.1.1
  have hLv : mm_L (ms_L ν (X + 90) 67 (lN r.2.2.1)) (X + 90) 67 = lN r.2.2.1 := by rw [rL, if_pos ⟨rfl, rfl⟩]
  have hLr : ∀ k, k < (EN s.1).length → mm_L (ms_L ν (X + 90) 67 (lN r.2.2.1)) (X + 110) k = lN (rwT s.1 k) := fun k hk => by rw [lL, if_neg (by omega)]; exact hν.2.1.2.2.2.2.2 k hk
  have hLL : ∀ v, ms_L (ms_L ν (X + 90) 67 (lN r.2.2.1)) (X + 90) 67 v = ms_L ν (X + 90) 67 v := fun v => sL_u _ _ _ _ _
  generalize ms_L ν (X + 90) 67 (lN r.2.2.1) = π at hsh hm hLv hLr hLL ⊢
  have o37 : o 37 = nI (bm (fun _ => false) 8) := by rw [p3 37 (by omega) (by omega) (by omega), nz]; exact hν.2.1.2.2.2.2.1
  have hrow : ∀ (κ' : Nat → Nat → Bool) (o' a' : Nat → Int32), o' 65 = nI r.2.1 → ga_L (X + 110) (o' 65) (m_kn X (κ', o') a' π) = some (lN (rwT s.1 r.2.1)) := fun κ' o' a' h => by
    rw [h, ra_110 (kn_s hsh) (by omega)]
    exact congrArg some (hLr _ o2)
  have hD := e_byDayR (X := X) (μ := π) (a := a) (v := 7) (us := fun _ => false) (s := (r.2.2.2.2, o)) hsh hm ok od (dr_R ok o2) o37 hday (by decide)
  have hN := e_byNightR (X := X) (μ := π) (a := a) (v := 7) (us := fun _ => false) (s := k_day s.1 (dr s.1 r.2.1) (Nat.testBit 7) (dq s.1 (r.2.2.2.1 % s.1 0 5)) (r.2.2.2.1 % s.1 0 5) (r.2.2.2.2, o)) hsh hm ok od (dr_R ok o2) (by rw [k_day_o (by omega)]; exact o37) hday (by decide)
  have hkx := k_nx (o := o) ok od (fun p f hf => o5 p f (Or.inr hf))
  have hko : ∀ k, (k < 40 ∨ 42 < k) → (k_ngt s.1 (dr s.1 r.2.1) (Nat.testBit 7) (dq s.1 (r.2.2.2.1 % s.1 0 5)) (r.2.2.2.1 % s.1 0 5) (k_day s.1 (dr s.1 r.2.1) (Nat.testBit 7) (dq s.1 (r.2.2.2.1 % s.1 0 5)) (r.2.2.2.1 % s.1 0 5) (r.2.2.2.2, o))).2 k = o k := fun k hk => by rw [k_ngt_o hk, k_day_o hk]
  have hd65 : (k_day s.1 (dr s.1 r.2.1) (Nat.testBit 7) (dq s.1 (r.2.2.2.1 % s.1 0 5)) (r.2.2.2.1 % s.1 0 5) (r.2.2.2.2, o)).2 65 = nI r.2.1 := by rw [k_day_o (by omega)]; exact p1
  unfold f_X11_runDay
  rw [if_pos (by rw [mk_90 (kn_s hsh)]), rf_90 (kn_s hsh), ob, rp_90_12 (kn_s hsh), ob, mr_n5 (kn_s hsh) (kn_m hm), ob, kn_90]
  show ∃ o' a', (if nI (s.1 0 5) = 0 then none else (some (o 66 - o 66 / nI (s.1 0 5) * nI (s.1 0 5))).bind _) = _ ∧ _
  rw [p2, if_neg (nI_ne0 hy1 (by omega)), pk_rem (by omega) hy1 (by omega), ob, rp_90_34 (kn_s hsh), ob, rf_90 (kn_s hsh), ob, kn_90, hrow _ _ _ p1, ob, show (7 : Int32) = nI 7 from rfl, hD, ob, rp_90_34 (kn_s hsh), ob, rf_90 (kn_s hsh), ob, kn_90, hd65]
  have hrow2 := hrow (k_day s.1 (dr s.1 r.2.1) (Nat.testBit 7) (dq s.1 (r.2.2.2.1 % s.1 0 5)) (r.2.2.2.1 % s.1 0 5) (r.2.2.2.2, o)).1 (k_day s.1 (dr s.1 r.2.1) (Nat.testBit 7) (dq s.1 (r.2.2.2.1 % s.1 0 5)) (r.2.2.2.1 % s.1 0 5) (r.2.2.2.2, o)).2 a hd65
  rw [hd65] at hrow2
  rw [hrow2, ob, hN, ob]
  generalize k_ah 7 (k_day s.1 (dr s.1 r.2.1) (Nat.testBit 7) (dq s.1 (r.2.2.2.1 % s.1 0 5)) (r.2.2.2.1 % s.1 0 5) (r.2.2.2.2, o)) a = a2
  have hpair : k_ngt s.1 (dr s.1 r.2.1) (Nat.testBit 7) (dq s.1 (r.2.2.2.1 % s.1 0 5)) (r.2.2.2.1 % s.1 0 5) (k_day s.1 (dr s.1 r.2.1) (Nat.testBit 7) (dq s.1 (r.2.2.2.1 % s.1 0 5)) (r.2.2.2.1 % s.1 0 5) (r.2.2.2.2, o)) = ((rday s.1 r).2.2.2.2, (k_ngt s.1 (dr s.1 r.2.1) (Nat.testBit 7) (dq s.1 (r.2.2.2.1 % s.1 0 5)) (r.2.2.2.1 % s.1 0 5) (k_day s.1 (dr s.1 r.2.1) (Nat.testBit 7) (dq s.1 (r.2.2.2.1 % s.1 0 5)) (r.2.2.2.1 % s.1 0 5) (r.2.2.2.2, o))).2) := by rw [← hkx]
  obtain ⟨o2', ho2⟩ : ∃ o2', (k_ngt s.1 (dr s.1 r.2.1) (Nat.testBit 7) (dq s.1 (r.2.2.2.1 % s.1 0 5)) (r.2.2.2.1 % s.1 0 5) (k_day s.1 (dr s.1 r.2.1) (Nat.testBit 7) (dq s.1 (r.2.2.2.1 % s.1 0 5)) (r.2.2.2.1 % s.1 0 5) (r.2.2.2.2, o))).2 = o2' := ⟨_, rfl⟩
  rw [ho2] at hpair hko
  rw [hpair, rf_90 (kn_s hsh), ob, kn_90]
  have h66 : o2' 66 = nI r.2.2.2.1 := (hko 66 (by omega)).trans p2
  show ∃ o' a', (pf_I 12 66 (X + 90) (o2' 66 + 1) _).bind _ = _ ∧ _
  rw [h66, nI_1, wf_90 (kn_s hsh), ob, kn_w, rp_90_12 (kn_s hsh), ob, mr_n5 (kn_s hsh) (kn_m hm), ob, nI_1]
  have hOg : ∀ k, (k < 38 ∨ 42 < k) → k ≠ 65 → k ≠ 66 → u1 o2' 66 (nI (r.2.2.2.1 + 1)) k = mm_I ν (X + 90) k := fun k hk h5 h6 => by rw [u1_n _ _ h6, hko k (by omega)]; exact p3 k hk h5 h6
  have h65' : u1 o2' 66 (nI (r.2.2.2.1 + 1)) 65 = nI r.2.1 := by rw [u1_n _ _ (by omega), hko 65 (by omega)]; exact p1
  have h66' : u1 o2' 66 (nI (r.2.2.2.1 + 1)) 66 = nI (r.2.2.2.1 + 1) := u1_s _ _ _
  generalize u1 o2' 66 (nI (r.2.2.2.1 + 1)) = o3' at hOg h65' h66' ⊢
  by_cases ed : r.2.2.2.1 % s.1 0 5 + 1 = s.1 0 5
  · have er1 : (rday s.1 r).2.1 = sdn r.2.2.1 / 65536 % (EN s.1).length := if_pos ed
    have er2 : (rday s.1 r).2.2.1 = sdn r.2.2.1 := if_pos ed
    rw [if_pos (by rw [ed]), rf_90 (kn_s hsh), ob, kn_90]
    have h32 : o3' 32 = nI (EN s.1).length := (hOg 32 (by omega) (by omega) (by omega)).trans hν.2.1.2.2.1
    show ∃ o' a', (f_X11_draw (X + 90) (o3' 32) _).bind _ = _ ∧ _
    rw [h32, l_draw (kn_s hsh) hLv o3 (by omega) hlen, ob]
    have e9 : ∀ v : Int64, ms_L (m_kn X ((rday s.1 r).2.2.2.2, o3') a2 π) (X + 90) 67 v = m_kn X ((rday s.1 r).2.2.2.2, o3') a2 (ms_L π (X + 90) 67 v) := fun _ => rfl
    rw [e9, hLL]
    have hsh9 : Sh X (m_kn X ((rday s.1 r).2.2.2.2, o3') a2 (ms_L ν (X + 90) 67 (lN (sdn r.2.2.1)))) := hν.1
    rw [wf_90 hsh9, ob, kn_w, er2]
    refine ⟨_, a2, rfl, ?_, ?_, fun k h1 h2 h3 => ?_⟩
    · rw [u1_s, er1]
    · rw [u1_n _ _ (by omega)]; exact h66'
    · rw [u1_n _ _ h2]; exact hOg k h1 h2 h3
  · have er1 : (rday s.1 r).2.1 = r.2.1 := if_neg ed
    have er2 : (rday s.1 r).2.2.1 = r.2.2.1 := if_neg ed
    have hπ := hLL (lN r.2.2.1)
    have hself : ms_L π (X + 90) 67 (lN r.2.2.1) = π := by
      rw [sL_B, ← hLv]
      have : u1 (mm_L π (X + 90)) 67 (mm_L π (X + 90) 67) = mm_L π (X + 90) := by
        funext k
        by_cases ek : k = 67
        · rw [ek, u1_s]
        · rw [u1_n _ _ ek]
      rw [this, sB_id]
    rw [hself] at hπ
    rw [if_neg (by rw [nI_eq_i (by omega) (by omega)]; exact ed), er2, ← hπ]
    exact ⟨o3', a2, rfl, by rw [er1]; exact h65', h66', hOg⟩
end CALLS
