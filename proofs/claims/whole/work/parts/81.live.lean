/-! ===== the reference lives; calls on what is known ===== -/
theorem e_live {X v day : Nat} {T : Tn} {d : Nat → Nat} {row : Int64} {us : Nat → Bool} {μ : Mm} (h : Sh X μ) (hm : MTn (X + 90) 0 T μ) (ok : OkT T) (od : OkD (T 0 0) d) (hr : RowR row (T 0 0) d) (hu : mm_I μ (X + 90) 37 = nI (bm us 8)) (hd : day < 28) (hv : v < 8) (w : Bool) : ∃ a, f_X11_live (X + 90) row (nI day) (nI v) (nI w.toNat) μ = some (m_kn X (if w then k_run T d v.testBit us (k_0, o_fg (mm_I μ (X + 90))) (day + 1) else k_day T d v.testBit (fun q => dl T q day || us q) day (k_run T d v.testBit us (k_0, o_fg (mm_I μ (X + 90))) day)) a μ) := by
  have hfg : (o_fg (mm_I μ (X + 90))) 37 = nI (bm us 8) := by unfold o_fg; rw [u1_n _ _ (by omega), u1_n _ _ (by omega), u1_n _ _ (by omega)]; exact hu
  have h37 : ∀ n, (k_run T d v.testBit us (k_0, o_fg (mm_I μ (X + 90))) n).2 37 = nI (bm us 8) := fun n => by rw [k_run_o (by omega)]; exact hfg
  unfold f_X11_live
  rw [if_pos (by rw [mk_90 h]), e_forget h, ob]
  have key := whl_i (body := f_X11_live_L7 (X + 90) row (nI day) (nI v) (nI w.toNat)) (day + 1) (fun j (st : Int32 × Mm) => st.1 = nI j ∧ ∃ a, st.2 = m_kn X (if j = day + 1 ∧ w = false then k_day T d v.testBit (fun q => dl T q day || us q) day (k_run T d v.testBit us (k_0, o_fg (mm_I μ (X + 90))) day) else k_run T d v.testBit us (k_0, o_fg (mm_I μ (X + 90))) j) a μ) (Q := fun ν => ∃ a, ν = m_kn X (if w then k_run T d v.testBit us (k_0, o_fg (mm_I μ (X + 90))) (day + 1) else k_day T d v.testBit (fun q => dl T q day || us q) day (k_run T d v.testBit us (k_0, o_fg (mm_I μ (X + 90))) day)) a μ) (s0 := ((0 : Int32), m_kn X (k_0, o_fg (mm_I μ (X + 90))) (mm_I μ (X + 112)) μ)) ⟨rfl, _, by rw [if_neg (by omega)]; rfl⟩ ?_ ?_
  · obtain ⟨ν, h1, a, h2⟩ := key
    exact ⟨a, by rw [h1, ob, h2]⟩
  · rintro j ⟨s1, s2⟩ hj ⟨e1, a, e2⟩
    replace e1 : s1 = nI j := e1
    replace e2 : s2 = _ := e2
    rw [if_neg (by omega)] at e2
    subst e1; subst e2
    simp only [f_X11_live_L7, f_X11_live_J33, f_X11_live_J42]
    rw [if_neg (by rw [nI_lt_i (by omega) (by omega)]; omega), e_byDayR h hm ok od hr (h37 j) (by omega) hv, ob]
    have hn := fun a => e_byNightR (a := a) (day := j) (v := v) (s := k_day T d v.testBit (fun q => dl T q j || us q) j (k_run T d v.testBit us (k_0, o_fg (mm_I μ (X + 90))) j)) h hm ok od hr (by rw [k_day_o (by omega)]; exact h37 j) (by omega) hv
    have fin : ∀ a, (f_X11_byNight (X + 90) row (nI j) (nI v) (m_kn X (k_day T d v.testBit (fun q => dl T q j || us q) j (k_run T d v.testBit us (k_0, o_fg (mm_I μ (X + 90))) j)) a μ)).bind (fun x39 => (some (nI j + (1 : Int32))).bind fun v42 => some (Sum.inl (v42, x39))) = (some (Sum.inl (nI (j + 1), m_kn X (k_run T d v.testBit us (k_0, o_fg (mm_I μ (X + 90))) (j + 1)) (k_ah v (k_day T d v.testBit (fun q => dl T q j || us q) j (k_run T d v.testBit us (k_0, o_fg (mm_I μ (X + 90))) j)) a) μ)) : Option ((Int32 × Mm) ⊕ Mm)) := fun a => by
      rw [hn a, ob, ob, nI_1]
      rfl
    by_cases e : j < day
    · rw [if_pos (nI_lt e (by omega)), fin]
      exact ⟨_, rfl, rfl, _, by rw [if_neg (by omega)]⟩
    · rw [if_neg (nI_nlt (by omega) (by omega))]
      have ej : j = day := by omega
      subst ej
      cases w with
      | true =>
        rw [if_neg (by decide), fin]
        exact ⟨_, rfl, rfl, _, by rw [if_neg (fun q => by cases q.2)]⟩
      | false =>
        rw [if_pos (show nI false.toNat = 0 from rfl), ob, nI_1]
        exact ⟨_, rfl, rfl, _, by rw [if_pos ⟨rfl, rfl⟩]⟩
  · rintro ⟨s1, s2⟩ ⟨e1, a, e2⟩
    replace e1 : s1 = nI (day + 1) := e1
    replace e2 : s2 = _ := e2
    subst e1; subst e2
    refine ⟨_, ?_, a, rfl⟩
    simp only [f_X11_live_L7]
    rw [if_pos (nI_lt (by omega) (by omega))]
    cases w with
    | true => rw [if_neg (fun q => by cases q.2)]; rfl
    | false => rw [if_pos (by simp)]; rfl
/-- facts that aren't told are known to nobody -/
theorem k_day_z {T : Tn} {d : Nat → Nat} {w u : Nat → Bool} {day f : Nat} {s : Ks} (hf : T 0 1 ≤ f) (hz : ∀ p, s.1 p f = false) : ∀ p, (k_day T d w u day s).1 p f = false := by
  have e0 : (fun p => s.1 p f) = fun _ => false := funext hz
  have e1 : (fun p => (k_own T day s (T 0 1)).1 p f) = fun _ => false := by rw [k_own_c, if_neg (by omega), e0]
  have e2 : (fun p => (if w 2 = true then k_naps T d u day (k_own T day s (T 0 1)) (T 0 3) else k_own T day s (T 0 1)).1 p f) = fun _ => false := by
    split
    · rw [k_naps_c _ _ _ _ _ _ _ (Nat.le_refl _), e1, c_naps_f, ite_self]
    · exact e1
  intro p
  have e3 : (fun p => (k_day T d w u day s).1 p f) = fun _ => false := by
    unfold k_day
    dsimp only
    generalize (if w 2 = true then k_naps T d u day (k_own T day s (T 0 1)) (T 0 3) else k_own T day s (T 0 1)) = s2 at e2
    split
    · rw [k_talks_c _ _ _ _ _ (Nat.le_refl _), e2, c_tr_f, ite_self]
    · exact e2
  exact congrFun e3 p
theorem k_ngt_z {T : Tn} {d : Nat → Nat} {w u : Nat → Bool} {day f : Nat} {s : Ks} (hz : ∀ p, s.1 p f = false) : ∀ p, (k_ngt T d w u day s).1 p f = false := by
  intro p
  unfold k_ngt
  split
  · rw [k_nit_c, hz p, hz (d p)]; simp
  · exact hz p
theorem k_run_z {T : Tn} {d : Nat → Nat} {w us : Nat → Bool} {o : Nat → Int32} {f : Nat} (hf : T 0 1 ≤ f) : ∀ n p, (k_run T d w us (k_0, o) n).1 p f = false := by
  intro n
  induction n with
  | zero => intro p; rfl
  | succ n ih =>
    unfold k_run
    exact k_ngt_z (k_day_z hf ih)
/-- who knows what behind n days, and ahead of the night of the next one -/
theorem k_run_1 {T : Tn} {d : Nat → Nat} {w us : Nat → Bool} {o : Nat → Int32} (ok : OkT T) (od : OkD (T 0 0) d) (n p f : Nat) : (k_run T d w us (k_0, o) n).1 p f = (decide (f < T 0 1) && c_beh T d w us f n p) := by
  by_cases hf : f < T 0 1
  · rw [decide_eq_true hf, Bool.true_and]
    exact congrFun (k_run_c ok od hf n) p
  · rw [decide_eq_false hf, Bool.false_and]
    exact k_run_z (by omega) n p
theorem k_ahd_1 {T : Tn} {d : Nat → Nat} {w us : Nat → Bool} {o : Nat → Int32} (ok : OkT T) (od : OkD (T 0 0) d) (n p f : Nat) : (k_day T d w (fun q => dl T q n || us q) n (k_run T d w us (k_0, o) n)).1 p f = (decide (f < T 0 1) && c_ahd T d w us f n p) := by
  by_cases hf : f < T 0 1
  · rw [decide_eq_true hf, Bool.true_and]
    have := congrFun (k_day_c (d := d) (w := w) (u := fun q => dl T q n || us q) (day := n) (s := k_run T d w us (k_0, o) n) ok hf) p
    rw [k_run_c ok od hf] at this
    exact this
  · rw [decide_eq_false hf, Bool.false_and]
    exact k_day_z (by omega) (k_run_z (by omega) n) p
theorem nz : nI (bm (fun _ => false) 8) = 0 := by rw [← bm_0]; rfl
/-- lives leave the reference as it was -/
theorem IR_kn {X : Nat} {s : Sv} {μ : Mm} {κ : Ks} {a : Nat → Int32} (h : IR X s μ) (ho : ∀ k, k < 38 ∨ 42 < k → κ.2 k = mm_I μ (X + 90) k) : IR X s (m_kn X κ a μ) ∧ ChM X μ (m_kn X κ a μ) := by
  constructor
  · refine IR_scr h.1 (fun k hk => ?_) (by rfl) (fun q h1 h2 h3 => kn_o h3 (by unfold scM at h2; omega) (by unfold scM at h2; omega)) (fun _ _ _ _ => by rfl) h
    rw [kn_90]
    exact ho k (by unfold fdM at hk; omega)
  · exact ⟨fun q hq => kn_o (by unfold inM at hq; omega) (by unfold inM at hq; omega) (by unfold inM at hq; omega), fun _ _ => rfl, rfl, rfl⟩
theorem fg_o {o : Nat → Int32} {k : Nat} (h : k < 40 ∨ 42 < k) : o_fg o k = o k := by
  unfold o_fg
  rw [u1_n _ _ (by omega), u1_n _ _ (by omega), u1_n _ _ (by omega)]
/-- the class's spread stands: its town and its turning -/
def Sp (X c : Nat) (T : Tn) (d : Nat → Nat) (μ : Mm) : Prop := Cb X c μ ∧ CTn c T μ ∧ SpT X c T μ ∧ SpD X d μ
theorem sp_tr {X c i : Nat} {s : Sv} {μ : Mm} (h : IC X i c s μ) (t : Nat) (ht : t < (EN s.1).length) : f_X4_setTurning (X + 58) (nI (cr s.1 (rwT s.1 t))) μ = some (m_tr X (dr s.1 t) μ) ∧ Sp X c s.1 (dr s.1 t) (m_tr X (dr s.1 t) μ) := by
  obtain ⟨ok, -, hct, -, hsp, -⟩ := h.2.1
  have hc := cb_c h.1
  have hi : ∀ q, q ≠ X + 62 → q ≠ X + 63 → mm_I (m_tr X (dr s.1 t) μ) q = mm_I μ q := fun q h1 h2 => by unfold m_tr; rw [rA, if_neg h1, rA, if_neg h2]
  refine ⟨e_setTurning h.1.1 (cr_lt _ _) ok.1.1 (fun p hp => dr_nb hp) (dr_ok ok ht), h.1, ctn_x (fun q _ _ => hi q (by omega) (by omega)) hct, spT_x (by rfl) (fun q _ => hi q (by omega) (by omega)) hsp, ?_, ?_⟩
  · intro p hp
    unfold m_tr
    rw [rA, if_pos rfl, if_pos hp]
  · intro q hq
    unfold m_tr
    rw [rA, if_neg (by omega), rA, if_pos rfl, if_pos hq]
theorem sp_sf {X c f v : Nat} {T : Tn} {d : Nat → Nat} {us : Nat → Bool} {μ : Mm} (ok : OkT T) (h : Sp X c T d μ) (hf : f < T 0 1) (hv : v < 8) : f_X4_setFact (X + 58) (nI f) (nI v) (nI (bm us 8)) μ = some (m_sf X T f v.testBit us μ) ∧ Sp X c T d (m_sf X T f v.testBit us μ) ∧ SpF X T f v.testBit us (m_sf X T f v.testBit us μ) := by
  obtain ⟨h1, h2, h3, h4⟩ := h
  have hc := cb_c h1
  have hi : ∀ q, q ≠ X + 58 → mm_I (m_sf X T f v.testBit us μ) q = mm_I μ q := fun q hq => m_sf_o X T f v.testBit us μ hq
  exact ⟨e_setFact h1.1 (cb_w h1) (by omega) h2 ok h3 hf hv, ⟨h1, ctn_x (fun q _ _ => hi q (by omega)) h2, spT_x (by rfl) (fun q _ => hi q (by omega)) h3, spD_x (hi _ (by omega)) (hi _ (by omega)) h4⟩, m_sf_F _ _ _ _ _ _⟩
/-- paths -/
theorem rch_1 {P : Nat → Nat → Option Nat} {a k c q : Nat} {ks : List Nat} (h : P a k = some c) (hk : k ≠ 999) (hr : rch P a (k :: ks) q) : rch P c ks q := by
  obtain ⟨e, h1, h2⟩ := hr
  rcases h1 with h1 | h1
  · rw [h] at h1; cases h1; exact h2
  · exact absurd h1.1 hk
theorem fr_sp {X q : Nat} {μ : Mm} (h : Sh X μ) (h1 : q ≠ X + 58) (h2 : q ≠ X + 62) (h3 : q ≠ X + 63) : ∀ p ∈ ([[3], [3, 3], [3, 4]] : List (List Nat)), ¬ rch (mm_P μ) X p q := by
  intro p hp hr
  simp only [List.mem_cons, List.not_mem_nil, or_false] at hp
  rcases hp with rfl | rfl | rfl
  · have e : X + 58 = q := rch_1 (mp_0_3 h) (by decide) hr
    exact h1 e.symm
  · have e : X + 62 = q := rch_1 (mp_58_3 h) (by decide) (rch_1 (mp_0_3 h) (by decide) hr)
    exact h2 e.symm
  · have e : X + 63 = q := rch_1 (mp_58_4 h) (by decide) (rch_1 (mp_0_3 h) (by decide) hr)
    exact h3 e.symm
theorem IC_sp {X i c : Nat} {s : Sv} {μ μ' : Mm} (h : IC X i c s μ) (hP : mm_P μ' = mm_P μ) (ht : tl μ' = tl μ) (hI : ∀ q, q ≠ X + 58 → q ≠ X + 62 → q ≠ X + 63 → mm_I μ' q = mm_I μ q) (hL : ∀ q, mm_L μ' q = mm_L μ q) : IC X (i + 1) c s μ' ∧ ChC X μ μ' :=
  ⟨IC_up (IC_scr hP ht (fun q h1 _ _ => hI q (by unfold scr at h1; omega) (by unfold scr at h1; omega) (by unfold scr at h1; omega)) (by rw [hI X (by omega) (by omega) (by omega)]) (fun q _ _ _ => hL q) h), fun q hq => hI q (by unfold inM at hq; omega) (by unfold inM at hq; omega) (by unfold inM at hq; omega), fun q _ => hL q, fun q hq => ⟨hI q (by omega) (by omega) (by omega), by rw [tl_K ht]⟩⟩
theorem cntb_le (b : Nat → Bool) (n : Nat) : cntb b n ≤ n := by
  induction n with
  | zero => exact Nat.le_refl _
  | succ n ih =>
    show cntb b n + (b n).toNat ≤ n + 1
    have : (b n).toNat ≤ 1 := by cases b n <;> decide
    omega
theorem cntb_all {b : Nat → Bool} : ∀ {n : Nat}, cntb b n = n ↔ ∀ p, p < n → b p = true := by
  intro n
  induction n with
  | zero => exact ⟨fun _ p hp => by omega, fun _ => rfl⟩
  | succ n ih =>
    show cntb b n + (b n).toNat = n + 1 ↔ _
    have h1 := cntb_le b n
    constructor
    · intro h p hp
      have h2 : (b n).toNat ≤ 1 := by cases b n <;> decide
      have h3 : b n = true := by
        cases e : b n with
        | true => rfl
        | false => rw [e] at h; have : Bool.toNat false = 0 := rfl; omega
      by_cases e : p = n
      · rw [e]; exact h3
      · exact ih.mp (by rw [h3] at h; have : Bool.toNat true = 1 := rfl; omega) p (by omega)
    · intro h
      rw [ih.mpr (fun p hp => h p (by omega)), h n (by omega)]; rfl
theorem cntb_x {b b' : Nat → Bool} {n : Nat} (h : ∀ k, k < n → b k = b' k) : cntb b n = cntb b' n := by
  induction n with
  | zero => rfl
  | succ n ih => show cntb b n + _ = cntb b' n + _; rw [ih (fun k hk => h k (by omega)), h n (by omega)]
theorem e_manyKnow {X f : Nat} {T : Tn} {κ : Nat → Nat → Bool} {μ : Mm} (h : Sh X μ) (hm : MTn (X + 90) 0 T μ) (ok : OkT T) (hk : ∀ p, p < 8 → mm_I μ (X + 111) p = nI (bm (κ p) 12)) (hf : f < 12) : f_X11_manyKnow (X + 90) (nI f) μ = some (nI (cntb (fun p => κ p f) (T 0 0))) := by
  have hn := ok.1.1
  unfold f_X11_manyKnow
  rw [if_pos (by rw [mk_90 h])]
  refine whl_b (T 0 0) (fun i => (nI (cntb (fun p => κ p f) i), nI i)) rfl (fun i hi => ?_) ?_
  · simp only [f_X11_manyKnow_L4, rp_90_12 h, rp_90_35 h, mr_n0 h hm, ob, ra_111 h (by omega : i < 8), hk i (by omega), bmb hf (by decide : 12 ≤ 31), nI_add, nI_1]
    rw [if_neg (by rw [nI_le_i (by omega) (by omega)]; omega)]
    rfl
  · simp only [f_X11_manyKnow_L4, rp_90_12 h, mr_n0 h hm, ob]
    rw [if_pos (nI_le (Nat.le_refl _) (by omega))]
section CALLS
variable {b L : Nat} {xs : Nat → Int32} {X i c : Nat} {s : Sv} {μ : Mm}
theorem shl_b {g : Bool} {f : Nat} (hf : f < 31) : nI g.toNat <<< (nI f &&& 31) = nI (if g then 2 ^ f else 0) := by
  rw [b_shl (by omega) (bsh_lt (by omega))]
  cases g <;> simp
theorem bm_add {g : Nat → Bool} {f n : Nat} (hf : f < n) : bm (fun x => decide (x < f) && g x) n ||| (if g f then 2 ^ f else 0) = bm (fun x => decide (x < f + 1) && g x) n := by
  apply bm_of
  · refine Nat.or_lt_two_pow (bm_lt _ n) ?_
    split
    · exact Nat.pow_lt_pow_right (by decide) hf
    · exact Nat.two_pow_pos n
  · intro x hx
    rw [Nat.testBit_or, bm_t, decide_eq_true hx]
    by_cases ex : x = f
    · subst ex
      cases g x <;> simp
    · have : (if g f then 2 ^ f else 0).testBit x = false := by
        split
        · rw [Nat.testBit_two_pow]; simp; omega
        · exact Nat.zero_testBit x
      rw [this]
      have e2 : decide (x < f + 1) = decide (x < f) := by
        by_cases h : x < f
        · rw [decide_eq_true h, decide_eq_true (by omega)]
        · rw [decide_eq_false h, decide_eq_false (by omega)]
      rw [e2]; simp
theorem c_knows {p day v : Nat} (h : IC X i c s μ) (hp : p < s.1 0 0) (hd : day < 28) (hv : v < 8) : ∃ μ1, f_X10_knows X (nI p) (nI day) (nI v) μ = some (nI (bm (fun f => decide (f < s.1 0 1) && c_beh s.1 (dr s.1 s.2.1) v.testBit (fun _ => false) f (day + 1) p) 12), μ1) := by
  have h1 := h.1.1
  obtain ⟨ok, ht, hct, -, hsp, h15⟩ := h.2.1
  have od := dr_ok ok ht
  have hn := ok.1.1
  have hn1 := ok.1.2.1
  obtain ⟨g1, g2⟩ := sp_tr h s.2.1 ht
  unfold f_X10_knows
  rw [if_pos (by rw [mk_0 h1]), cb_p h.1, ob, e_isPerson' (cb_w h.1) hct ok, ob, bz_if, if_pos (inR_nI hp (by omega)), c_isDay, ob, bz_if, if_pos (inR_nI hd (by decide)), c_areWays, ob, bz_if, if_pos (inR_nI hv (by decide)), rp_0_3 h1, ob, rf_0 h1, ob, h15, g1, ob]
  have key := whl_i (body := f_X10_knows_L45 X (nI p) (nI day) (nI v)) (s.1 0 1) (fun j (st : Int32 × Int32 × Mm) => st.1 = nI (bm (fun f => decide (f < j) && c_beh s.1 (dr s.1 s.2.1) v.testBit (fun _ => false) f (day + 1) p) 12) ∧ st.2.1 = nI j ∧ Sp X c s.1 (dr s.1 s.2.1) st.2.2) (Q := fun r => r.1 = nI (bm (fun f => decide (f < s.1 0 1) && c_beh s.1 (dr s.1 s.2.1) v.testBit (fun _ => false) f (day + 1) p) 12)) (s0 := ((0 : Int32), (0 : Int32), m_tr X (dr s.1 s.2.1) μ)) ⟨by
      have : (fun f => decide (f < 0) && c_beh s.1 (dr s.1 s.2.1) v.testBit (fun _ => false) f (day + 1) p) = fun _ => false := by funext f; simp
      rw [this, ← bm_0]; rfl, rfl, g2⟩ ?_ ?_
  · obtain ⟨r, k1, k2⟩ := key
    exact ⟨r.2, by rw [k1, ob, k2]⟩
  · rintro j ⟨s1, s2, ν⟩ hj ⟨e1, e2, hS⟩
    replace e1 : s1 = _ := e1
    replace e2 : s2 = nI j := e2
    replace hS : Sp X c s.1 (dr s.1 s.2.1) ν := hS
    subst e1; subst e2
    obtain ⟨k1, k2, k3⟩ := sp_sf (us := fun _ => false) ok hS hj hv
    rw [nz] at k1
    have hb := hS.1.1
    refine ⟨(nI (bm (fun f => decide (f < j + 1) && c_beh s.1 (dr s.1 s.2.1) v.testBit (fun _ => false) f (day + 1) p) 12), nI (j + 1), m_sf X s.1 j v.testBit (fun _ => false) ν), ?_, rfl, rfl, k2⟩
    · simp only [f_X10_knows_L45]
      rw [cb_p hS.1, ob, tc_p3 (cb_w hS.1), ob, ct_s4 (cb_w hS.1) hS.2.1, ob, if_neg (by rw [nI_le_i (by omega) (by omega)]; omega), rp_0_3 hb, ob, k1, ob, rp_0_3 k2.1.1, ob, e_behind k2.1.1 ok od k2.2.2.1 k2.2.2.2 k3 hj hd, ob, bmb (by omega) (by decide), shl_b (by omega), nI_or, ob, ob, nI_1, bm_add (by omega)]
  · rintro ⟨s1, s2, ν⟩ ⟨e1, e2, hS⟩
    replace e1 : s1 = _ := e1
    replace e2 : s2 = nI (s.1 0 1) := e2
    replace hS : Sp X c s.1 (dr s.1 s.2.1) ν := hS
    subst e2
    refine ⟨(s1, ν), ?_, e1⟩
    simp only [f_X10_knows_L45]
    rw [cb_p hS.1, ob, tc_p3 (cb_w hS.1), ob, ct_s4 (cb_w hS.1) hS.2.1, ob, if_pos (nI_le (Nat.le_refl _) (by omega))]
theorem k_knows (a1 a2 a3 : Int32) (h0 : mm_K μ b = (19, L) ∧ mm_I μ b = xs ∧ b < X) (h : IC X i c s μ) (hR : IR X s μ) : ∃ r μ1 μ2, f_X10_knows X a1 a2 a3 μ = some (r, μ1) ∧ f_X11_knows (X + 90) a1 a2 a3 μ1 = some (r, μ2) ∧ Inv b L xs X (i + 1) μ2 ∧ (mm_K μ1 b = (19, L) ∧ mm_I μ1 b = xs) := by
  have h1 := h.1.1
  obtain ⟨ok, ht, hct, -, hsp, h15⟩ := h.2.1
  have od := dr_ok ok ht
  have hn := ok.1.1
  by_cases e : inR a1 (s.1 0 0) ∧ inR a2 28 ∧ inR a3 8
  · obtain ⟨e1, e2, e3⟩ := e
    obtain ⟨p, hp, rfl⟩ := inR_ex e1 (by omega)
    obtain ⟨day, hd, rfl⟩ := inR_ex e2 (by decide)
    obtain ⟨v, hv, rfl⟩ := inR_ex e3 (by decide)
    obtain ⟨μ1, hx⟩ := c_knows h hp hd hv
    have hst := IC_sp h (p_X10_knows hx) (t_X10_knows hx) (fun q k1 k2 k3 => i_X10_knows hx (fr_sp h1 k1 k2 k3)) (fun q => j_X10_knows hx)
    refine both h0 hR hx hst.1 hst.2 (fun hν => ?_)
    obtain ⟨a, hl⟩ := e_live (us := fun _ => false) hν.1 hν.2.1.1 ok od (dr_R ok ht) (by rw [nz]; exact hν.2.1.2.2.2.2.1) hd hv true
    replace hl : f_X11_live (X + 90) (lN (rwT s.1 s.2.1)) (nI day) (nI v) 1 μ1 = some (m_kn X (k_run s.1 (dr s.1 s.2.1) v.testBit (fun _ => false) (k_0, o_fg (mm_I μ1 (X + 90))) (day + 1)) a μ1) := hl
    have hkn := IR_kn (κ := k_run s.1 (dr s.1 s.2.1) v.testBit (fun _ => false) (k_0, o_fg (mm_I μ1 (X + 90))) (day + 1)) (a := a) hν (fun k hk => by rw [k_run_o (by omega)]; exact fg_o (by omega))
    refine ⟨_, ?_, hkn⟩
    unfold f_X11_knows
    rw [if_pos (by rw [mk_90 hν.1]), r_isPerson hν.1 hν.2.1.1 ok, ob, bz_if, if_pos e1, r_isDay, ob, bz_if, if_pos e2, r_areWays, ob, bz_if, if_pos e3, rp_90_34 hν.1, ob, rf_90 hν.1, ob, hν.2.1.2.2.2.1, r_row hν.1 hν.2.1 ok ht, ob, hl, ob, rp_90_35 (kn_s hν.1), ob, ra_111 (kn_s hν.1) (by omega), ob, kn_k (by omega)]
    congr 3
    apply bm_x
    intro f hf
    rw [k_run_1 ok od]
  · refine both h0 hR (r := -2) (μ1 := μ) ?_ (IC_up h) (ChC_r _ _) (fun hν => ⟨_, ?_, hν, ChM_r _ _⟩)
    · unfold f_X10_knows
      rw [if_pos (by rw [mk_0 h1]), cb_p h.1, ob, e_isPerson' (cb_w h.1) hct ok, ob, bz_if, c_isDay, ob, bz_if, c_areWays, ob, bz_if]
      by_cases e1 : inR a1 (s.1 0 0)
      · rw [if_pos e1]
        by_cases e2 : inR a2 28
        · rw [if_pos e2, if_neg (fun e3 => e ⟨e1, e2, e3⟩)]
        · rw [if_neg e2]
      · rw [if_neg e1]
    · unfold f_X11_knows
      rw [if_pos (by rw [mk_90 hν.1]), r_isPerson hν.1 hν.2.1.1 ok, ob, bz_if, r_isDay, ob, bz_if, r_areWays, ob, bz_if]
      by_cases e1 : inR a1 (s.1 0 0)
      · rw [if_pos e1]
        by_cases e2 : inR a2 28
        · rw [if_pos e2, if_neg (fun e3 => e ⟨e1, e2, e3⟩)]
        · rw [if_neg e2]
      · rw [if_neg e1]
theorem k_all (a1 a2 : Int32) (h0 : mm_K μ b = (19, L) ∧ mm_I μ b = xs ∧ b < X) (h : IC X i c s μ) (hR : IR X s μ) : ∃ r μ1 μ2, f_X10_all X a1 a2 μ = some (r, μ1) ∧ f_X11_all (X + 90) a1 a2 μ1 = some (r, μ2) ∧ Inv b L xs X (i + 1) μ2 ∧ (mm_K μ1 b = (19, L) ∧ mm_I μ1 b = xs) := by
  have h1 := h.1.1
  obtain ⟨ok, ht, hct, -, hsp, h15⟩ := h.2.1
  have od := dr_ok ok ht
  have hn := ok.1.1
  have hn1 := ok.1.2.1
  by_cases e : inR a1 (s.1 0 1) ∧ inR a2 8
  · obtain ⟨e1, e3⟩ := e
    obtain ⟨f, hf, rfl⟩ := inR_ex e1 (by omega)
    obtain ⟨v, hv, rfl⟩ := inR_ex e3 (by decide)
    obtain ⟨g1, g2⟩ := sp_tr h s.2.1 ht
    obtain ⟨k1, k2, k3⟩ := sp_sf (us := fun _ => false) ok g2 hf hv
    rw [nz] at k1
    have hx : f_X10_all X (nI f) (nI v) μ = some (oI (c_all s.1 (dr s.1 s.2.1) v.testBit f), m_sf X s.1 f v.testBit (fun _ => false) (m_tr X (dr s.1 s.2.1) μ)) := by
      unfold f_X10_all
      rw [if_pos (by rw [mk_0 h1]), cb_p h.1, ob, e_isFact' (cb_w h.1) hct ok, ob, bz_if, if_pos e1, c_areWays, ob, bz_if, if_pos e3, rp_0_3 h1, ob, rf_0 h1, ob, h15, g1, ob, rp_0_3 g2.1.1, ob, k1, ob, rp_0_3 k2.1.1, ob, e_firstAll k2.1.1 (cb_w k2.1) k2.2.1 ok od k2.2.2.1 k2.2.2.2 k3 hf, ob]
    have hst := IC_sp h (p_X10_all hx) (t_X10_all hx) (fun q k1 k2 k3 => i_X10_all hx (fr_sp h1 k1 k2 k3)) (fun q => j_X10_all hx)
    refine both h0 hR hx hst.1 hst.2 (fun hν => ?_)
    generalize m_sf X s.1 f v.testBit (fun _ => false) (m_tr X (dr s.1 s.2.1) μ) = ν at hν
    have hu : mm_I ν (X + 90) 37 = nI (bm (fun _ => false) 8) := by rw [nz]; exact hν.2.1.2.2.2.2.1
    have h37 : ∀ n, (k_run s.1 (dr s.1 s.2.1) v.testBit (fun _ => false) (k_0, o_fg (mm_I ν (X + 90))) n).2 37 = nI (bm (fun _ => false) 8) := fun n => by rw [k_run_o (by omega)]; exact (fg_o (by omega)).trans hu
    have hro : ∀ (a : Nat → Int32) n, IR X s (m_kn X (k_run s.1 (dr s.1 s.2.1) v.testBit (fun _ => false) (k_0, o_fg (mm_I ν (X + 90))) n) a ν) ∧ ChM X ν (m_kn X (k_run s.1 (dr s.1 s.2.1) v.testBit (fun _ => false) (k_0, o_fg (mm_I ν (X + 90))) n) a ν) := fun a n => IR_kn hν (fun k hk => by rw [k_run_o (by omega)]; exact fg_o (by omega))
    have key := whl_e (body := f_X11_all_L24 (X + 90) (nI f) (nI v)) 28 (fun j (st : Int32 × Mm) => (st.1 = nI j ∧ ∀ l, l < j → allb (s.1 0 0) (c_beh s.1 (dr s.1 s.2.1) v.testBit (fun _ => false) f (l + 1)) = false) ∧ ∃ a, st.2 = m_kn X (k_run s.1 (dr s.1 s.2.1) v.testBit (fun _ => false) (k_0, o_fg (mm_I ν (X + 90))) j) a ν) (Q := fun r => ∃ π, sm (fun (q : Int32 × Mm) => q) (fun (q : Mm) => ((-1 : Int32), q)) r = (oI (c_all s.1 (dr s.1 s.2.1) v.testBit f), π) ∧ IR X s π ∧ ChM X ν π) (s0 := ((0 : Int32), m_kn X (k_0, o_fg (mm_I ν (X + 90))) (mm_I ν (X + 112)) ν)) ⟨⟨rfl, fun l hl => by omega⟩, _, rfl⟩ ?_ ?_
    · obtain ⟨r, q1, π, q2, q3⟩ := key
      refine ⟨π, ?_, q3⟩
      unfold f_X11_all
      rw [if_pos (by rw [mk_90 hν.1]), r_isFact hν.1 hν.2.1.1 ok, ob, bz_if, if_pos e1, r_areWays, ob, bz_if, if_pos e3, e_forget hν.1, ob, q1, ob, ← q2]
      cases r <;> rfl
    · rintro j ⟨s1, s2⟩ hj ⟨⟨q1, q2⟩, a, q3⟩
      replace q1 : s1 = nI j := q1
      replace q3 : s2 = _ := q3
      subst q1; subst q3
      have hM := kn_m (s := k_run s.1 (dr s.1 s.2.1) v.testBit (fun _ => false) (k_0, o_fg (mm_I ν (X + 90))) j) (a := a) hν.2.1.1
      have hI := (hro a j).1
      simp only [f_X11_all_L24]
      have e28 : (28 : Int32) = nI 28 := rfl
      have hD := e_byDayR (X := X) (μ := ν) (a := a) (day := j) (v := v) (us := fun _ => false) hν.1 hν.2.1.1 ok od (dr_R ok ht) (h37 j) hj hv
      rw [if_neg (by rw [e28, nI_le_i (by omega) (by omega)]; omega), rp_90_34 hI.1, ob, rf_90 hI.1, ob, hI.2.1.2.2.2.1, r_row hI.1 hI.2.1 ok ht, ob, hD, ob]
      have hI2 := IR_kn (κ := k_day s.1 (dr s.1 s.2.1) v.testBit (fun q => dl s.1 q j || (fun _ => false) q) j (k_run s.1 (dr s.1 s.2.1) v.testBit (fun _ => false) (k_0, o_fg (mm_I ν (X + 90))) j)) (a := a) hν (fun k hk => by rw [k_day_o (by omega), k_run_o (by omega)]; exact fg_o (by omega))
      have hI2 := hI2.1
      have hN := e_byNightR (X := X) (μ := ν) (a := a) (day := j) (v := v) (us := fun _ => false) (s := k_day s.1 (dr s.1 s.2.1) v.testBit (fun q => dl s.1 q j || (fun _ => false) q) j (k_run s.1 (dr s.1 s.2.1) v.testBit (fun _ => false) (k_0, o_fg (mm_I ν (X + 90))) j)) hν.1 hν.2.1.1 ok od (dr_R ok ht) (by rw [k_day_o (by omega)]; exact h37 j) hj hv
      rw [rp_90_34 hI2.1, ob, rf_90 hI2.1, ob, hI2.2.1.2.2.2.1, r_row hI2.1 hI2.2.1 ok ht, ob, hN, ob]
      have hI3 := hro (k_ah v (k_day s.1 (dr s.1 s.2.1) v.testBit (fun q => dl s.1 q j || (fun _ => false) q) j (k_run s.1 (dr s.1 s.2.1) v.testBit (fun _ => false) (k_0, o_fg (mm_I ν (X + 90))) j)) a) (j + 1)
      have hkk : ∀ p, p < 8 → mm_I (m_kn X (k_run s.1 (dr s.1 s.2.1) v.testBit (fun _ => false) (k_0, o_fg (mm_I ν (X + 90))) (j + 1)) (k_ah v (k_day s.1 (dr s.1 s.2.1) v.testBit (fun q => dl s.1 q j || (fun _ => false) q) j (k_run s.1 (dr s.1 s.2.1) v.testBit (fun _ => false) (k_0, o_fg (mm_I ν (X + 90))) j)) a) ν) (X + 111) p = _ := fun p hp => kn_k hp
      have hmk := e_manyKnow hI3.1.1 hI3.1.2.1.1 ok hkk (by omega : f < 12)
      generalize hπ : m_kn X (k_run s.1 (dr s.1 s.2.1) v.testBit (fun _ => false) (k_0, o_fg (mm_I ν (X + 90))) (j + 1)) (k_ah v (k_day s.1 (dr s.1 s.2.1) v.testBit (fun q => dl s.1 q j || (fun _ => false) q) j (k_run s.1 (dr s.1 s.2.1) v.testBit (fun _ => false) (k_0, o_fg (mm_I ν (X + 90))) j)) a) ν = π at hI3 hmk
      have hπ' : m_kn X (k_ngt s.1 (dr s.1 s.2.1) v.testBit (fun q => dl s.1 q j || (fun _ => false) q) j (k_day s.1 (dr s.1 s.2.1) v.testBit (fun q => dl s.1 q j || (fun _ => false) q) j (k_run s.1 (dr s.1 s.2.1) v.testBit (fun _ => false) (k_0, o_fg (mm_I ν (X + 90))) j))) (k_ah v (k_day s.1 (dr s.1 s.2.1) v.testBit (fun q => dl s.1 q j || (fun _ => false) q) j (k_run s.1 (dr s.1 s.2.1) v.testBit (fun _ => false) (k_0, o_fg (mm_I ν (X + 90))) j)) a) ν = π := hπ
      rw [hπ', hmk, ob, rp_90_12 hI3.1.1, ob, mr_n0 hI3.1.1 hI3.1.2.1.1, ob]
      have hcb : (nI (cntb (fun p => (k_run s.1 (dr s.1 s.2.1) v.testBit (fun _ => false) (k_0, o_fg (mm_I ν (X + 90))) (j + 1)).1 p f) (s.1 0 0)) = nI (s.1 0 0)) = (allb (s.1 0 0) (c_beh s.1 (dr s.1 s.2.1) v.testBit (fun _ => false) f (j + 1)) = true) := by
        have hle := cntb_le (fun p => (k_run s.1 (dr s.1 s.2.1) v.testBit (fun _ => false) (k_0, o_fg (mm_I ν (X + 90))) (j + 1)).1 p f) (s.1 0 0)
        rw [nI_eq_i (by omega) (by omega)]
        apply propext
        rw [cntb_all, allb_t]
        have hc := k_run_c (w := v.testBit) (us := fun _ => false) (o := o_fg (mm_I ν (X + 90))) ok od hf (j + 1)
        constructor
        · intro q p hp; rw [← congrFun hc p]; exact q p hp
        · intro q p hp; exact (congrFun hc p).trans (q p hp)
      simp only [hcb]
      by_cases ea : allb (s.1 0 0) (c_beh s.1 (dr s.1 s.2.1) v.testBit (fun _ => false) f (j + 1)) = true
      · right
        rw [if_pos ea]
        refine ⟨_, rfl, π, ?_, hI3⟩
        have : c_all s.1 (dr s.1 s.2.1) v.testBit f = some j := ff_some.mpr ⟨hj, ea, q2⟩
        rw [this]; rfl
      · left
        rw [if_neg ea, ob, nI_1]
        refine ⟨_, rfl, ⟨rfl, fun l hl => ?_⟩, _, hπ.symm⟩
        by_cases el : l = j
        · rw [el]; simpa using ea
        · exact q2 l (by omega)
    · rintro ⟨s1, s2⟩ ⟨⟨q1, q2⟩, a, q3⟩
      replace q1 : s1 = nI 28 := q1
      replace q3 : s2 = _ := q3
      subst q1
      refine ⟨.inr s2, ?_, s2, ?_, by rw [q3]; exact hro a 28⟩
      · simp only [f_X11_all_L24]
        rw [if_pos (by decide)]
      · have : c_all s.1 (dr s.1 s.2.1) v.testBit f = none := ff_none.mpr q2
        rw [this]; rfl
  · refine both h0 hR (r := -2) (μ1 := μ) ?_ (IC_up h) (ChC_r _ _) (fun hν => ⟨_, ?_, hν, ChM_r _ _⟩)
    · unfold f_X10_all
      rw [if_pos (by rw [mk_0 h1]), cb_p h.1, ob, e_isFact' (cb_w h.1) hct ok, ob, bz_if, c_areWays, ob, bz_if]
      by_cases e1 : inR a1 (s.1 0 1)
      · rw [if_pos e1, if_neg (fun e3 => e ⟨e1, e3⟩)]
      · rw [if_neg e1]
    · unfold f_X11_all
      rw [if_pos (by rw [mk_90 hν.1]), r_isFact hν.1 hν.2.1.1 ok, ob, bz_if, r_areWays, ob, bz_if]
      by_cases e1 : inR a1 (s.1 0 1)
      · rw [if_pos e1, if_neg (fun e3 => e ⟨e1, e3⟩)]
      · rw [if_neg e1]
end CALLS
