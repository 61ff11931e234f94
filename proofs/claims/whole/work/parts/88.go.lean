/-! ===== go ===== -/
def sdn (sd : Nat) : Nat := (1103515245 * sd + 12345) % 2 ^ 31
abbrev dq (T : Tn) (day : Nat) : Nat → Bool := fun q => dl T q day || (fun (_ : Nat) => false) q
/-- one fact's knowers a day later -/
def nxt (T : Tn) (d : Nat → Nat) (day f : Nat) (κ : Nat → Bool) : Nat → Bool := c_ngt T d (Nat.testBit 7) (dq T day) f (c_day T d (Nat.testBit 7) (dq T day) f day κ)
def rday (T : Tn) (r : Rs) : Rs := (true, if r.2.2.2.1 % T 0 5 + 1 = T 0 5 then sdn r.2.2.1 / 65536 % (EN T).length else r.2.1, if r.2.2.2.1 % T 0 5 + 1 = T 0 5 then sdn r.2.2.1 else r.2.2.1, r.2.2.2.1 + 1, fun p f => decide (f < T 0 1) && nxt T (dr T r.2.1) (r.2.2.2.1 % T 0 5) f (fun p => r.2.2.2.2 p f) p)
def rdays (T : Tn) (r : Rs) : Nat → Rs
  | 0 => r
  | n + 1 => rday T (rdays T r n)
def OkG (T : Tn) (B : Nat) (r : Rs) : Prop := r.1 = true ∧ r.2.1 < (EN T).length ∧ r.2.2.1 < 2 ^ 31 ∧ r.2.2.2.1 ≤ B ∧ ∀ p f, T 0 0 ≤ p ∨ T 0 1 ≤ f → r.2.2.2.2 p f = false
theorem sdn_lt (sd : Nat) : sdn sd < 2 ^ 31 := Nat.mod_lt _ (by decide)
theorem rday_ok {T : Tn} {B : Nat} {r : Rs} (ok : OkT T) (h : OkG T B r) : OkG T (B + 1) (rday T r) := by
  obtain ⟨h1, h2, h3, h4, h5⟩ := h
  have od := dr_ok ok h2
  have hlen : 0 < (EN T).length := by omega
  refine ⟨rfl, ?_, ?_, ?_, ?_⟩
  · show (if _ then _ else _) < _
    split
    · exact Nat.mod_lt _ hlen
    · exact h2
  · show (if _ then _ else _) < _
    split
    · exact sdn_lt _
    · exact h3
  · show _ + 1 ≤ _
    omega
  · intro p f hpf
    show (decide (f < T 0 1) && _) = false
    by_cases hf : f < T 0 1
    · rw [decide_eq_true hf, Bool.true_and]
      have hp : T 0 0 ≤ p := by omega
      exact c_ngt_n od (c_day_n ok hf (fun p hp => h5 p f (Or.inl hp))) p hp
    · rw [decide_eq_false hf]; rfl
theorem rdays_ok {T : Tn} {B : Nat} {r : Rs} (ok : OkT T) (h : OkG T B r) : ∀ n, OkG T (B + n) (rdays T r n) := by
  intro n
  induction n with
  | zero => exact h
  | succ n ih => exact rday_ok ok ih
theorem rdays_ps {T : Tn} {r : Rs} : ∀ n, (rdays T r n).2.2.2.1 = r.2.2.2.1 + n := by
  intro n
  induction n with
  | zero => rfl
  | succ n ih => show (rdays T r n).2.2.2.1 + 1 = _; rw [ih]; rfl
/-! the class -/
theorem sp_x {X c : Nat} {T : Tn} {d : Nat → Nat} {μ μ' : Mm} (hP : mm_P μ' = mm_P μ) (ht : tl μ' = tl μ) (hI : ∀ q, q ≠ X + 13 → q ≠ X + 14 → mm_I μ' q = mm_I μ q) (h : Sp X c T d μ) : Sp X c T d μ' := by
  obtain ⟨h1, h2, h3, h4⟩ := h
  have hc := cb_c h1
  exact ⟨cb_x hP ht h1, ctn_x (fun q _ _ => hI q (by omega) (by omega)) h2, spT_x hP (fun q _ => hI q (by omega) (by omega)) h3, spD_x (hI _ (by omega) (by omega)) (hI _ (by omega) (by omega)) h4⟩
theorem sp_tr' {X c : Nat} {T : Tn} {d : Nat → Nat} {μ : Mm} (ok : OkT T) (h : Sp X c T d μ) (t : Nat) (ht : t < (EN T).length) : f_X4_setTurning (X + 58) (nI (cr T (rwT T t))) μ = some (m_tr X (dr T t) μ) ∧ Sp X c T (dr T t) (m_tr X (dr T t) μ) := by
  obtain ⟨h1, hct, hsp, -⟩ := h
  have hc := cb_c h1
  have hi : ∀ q, q ≠ X + 62 → q ≠ X + 63 → mm_I (m_tr X (dr T t) μ) q = mm_I μ q := fun q h1 h2 => by unfold m_tr; rw [rA, if_neg h1, rA, if_neg h2]
  refine ⟨e_setTurning h1.1 (cr_lt _ _) ok.1.1 (fun p hp => dr_nb hp) (dr_ok ok ht), h1, ctn_x (fun q _ _ => hi q (by omega) (by omega)) hct, spT_x (by rfl) (fun q _ => hi q (by omega) (by omega)) hsp, ?_, ?_⟩
  · intro p hp
    unfold m_tr
    rw [rA, if_pos rfl, if_pos hp]
  · intro q hq
    unfold m_tr
    rw [rA, if_neg (by omega), rA, if_pos rfl, if_pos hq]
theorem m_tr_o {X q : Nat} {d : Nat → Nat} {μ : Mm} (h1 : q ≠ X + 62) (h2 : q ≠ X + 63) : mm_I (m_tr X d μ) q = mm_I μ q := by
  unfold m_tr
  rw [rA, if_neg h1, rA, if_neg h2]
theorem c_facts {X c day : Nat} {T : Tn} {d : Nat → Nat} {g : Nat → Nat → Bool} {l1 l4 l5 : Int32} {ν : Mm} (ok : OkT T) (od : OkD (T 0 0) d) (hS : Sp X c T d ν) (hg : ∀ f, f < 12 → mm_I ν (X + 14) f = nI (bm (fun p => g p f) 8)) (hd : day < 28) :
    ∃ ν', whl (f_X3_pass_L39 (X + 13) l1 c (X + 58) l4 l5 (nI day)) ((0 : Int32), ν) = some ν' ∧ (Sp X c T d ν' ∧ mm_P ν' = mm_P ν ∧ tl ν' = tl ν) ∧ (∀ q, q ≠ X + 14 → q ≠ X + 58 → mm_I ν' q = mm_I ν q) ∧ (∀ f, f < 12 → mm_I ν' (X + 14) f = nI (bm (fun p => if f < T 0 1 then nxt T d day f (fun p => g p f) p else g p f) 8)) := by
  have hn1 := ok.1.2.1
  have hc := cb_c hS.1
  refine whl_i (T 0 1) (fun j (st : Int32 × Mm) => st.1 = nI j ∧ (Sp X c T d st.2 ∧ mm_P st.2 = mm_P ν ∧ tl st.2 = tl ν) ∧ (∀ q, q ≠ X + 14 → q ≠ X + 58 → mm_I st.2 q = mm_I ν q) ∧ (∀ f, f < 12 → mm_I st.2 (X + 14) f = nI (bm (fun p => if f < j then nxt T d day f (fun p => g p f) p else g p f) 8))) ⟨rfl, ⟨hS, rfl, rfl⟩, fun _ _ _ => rfl, fun f hf => ?_⟩ ?_ ?_
  · exact (hg f hf).trans (congrArg nI (bm_x (fun p hp => by rw [if_neg (by omega)])))
  · rintro j ⟨s1, π⟩ hj ⟨e1, ⟨e2, e3, e4⟩, e5, e6⟩
    replace e1 : s1 = nI j := e1
    replace e2 : Sp X c T d π := e2
    replace e3 : mm_P π = mm_P ν := e3
    replace e4 : tl π = tl ν := e4
    replace e5 : ∀ q, q ≠ X + 14 → q ≠ X + 58 → mm_I π q = mm_I ν q := e5
    replace e6 : ∀ f, f < 12 → mm_I π (X + 14) f = nI (bm (fun p => if f < j then nxt T d day f (fun p => g p f) p else g p f) 8) := e6
    subst e1
    obtain ⟨k1, k2, k3⟩ := sp_sf (v := 7) (us := fun _ => false) ok e2 hj (by decide)
    rw [nz] at k1
    have hsh := k2.1.1
    have r14 : mm_I (m_sf X T j (Nat.testBit 7) (fun _ => false) π) (X + 14) j = nI (bm (fun p => g p j) 8) := by
      rw [m_sf_o _ _ _ _ _ _ (by omega), e6 j (by omega)]
      congr 1
      apply bm_x
      intro p hp
      rw [if_neg (by omega)]
    refine ⟨(nI (j + 1), ms_I (m_sf X T j (Nat.testBit 7) (fun _ => false) π) (X + 14) j (nI (bm (nxt T d day j (fun p => g p j)) 8))), ?_, rfl, ⟨sp_x (by rfl) (by rfl) (fun q g1 g2 => by rw [iI, if_neg g2]) k2, e3, e4⟩, fun q g1 g2 => ?_, fun f hf => ?_⟩
    · simp only [f_X3_pass_L39]
      rw [tc_p3 (cb_w e2.1), ob, ct_s4 (cb_w e2.1) e2.2.1, ob, if_neg (by rw [nI_le_i (by omega) (by omega)]; omega), if_neg (by rw [show (12 : Int32) = nI 12 from rfl, nI_le_i (by omega) (by omega)]; omega), show (7 : Int32) = nI 7 from rfl, k1, ob, rp_13_0 hsh, ob, ra_14 hsh (by omega), ob, r14, e_byDay hsh ok od k2.2.2.1 k2.2.2.2 k3 hj hd, ob, ob, e_byNight hsh ok od k2.2.2.1 k2.2.2.2 k3 hd, ob, wa_14 hsh _ (by omega), ob, ob, nI_1]
      rfl
    · show mm_I (ms_I _ _ _ _) q = _
      rw [iI, if_neg g1, m_sf_o _ _ _ _ _ _ g2]
      exact e5 q g1 g2
    · show mm_I (ms_I _ _ _ _) _ _ = _
      rw [rI]
      by_cases ef : f = j
      · subst ef
        rw [if_pos ⟨rfl, rfl⟩]
        congr 1
        apply bm_x
        intro p hp
        rw [if_pos (by omega)]
      · rw [if_neg (fun q => ef q.2), m_sf_o _ _ _ _ _ _ (by omega), e6 f hf]
        congr 1
        apply bm_x
        intro p hp
        by_cases h2 : f < j
        · rw [if_pos h2, if_pos (by omega)]
        · rw [if_neg h2, if_neg (by omega)]
  · rintro ⟨s1, π⟩ ⟨e1, ⟨e2, e3, e4⟩, e5, e6⟩
    replace e1 : s1 = nI (T 0 1) := e1
    replace e2 : Sp X c T d π := e2
    subst e1
    refine ⟨π, ?_, ⟨e2, e3, e4⟩, e5, e6⟩
    simp only [f_X3_pass_L39]
    rw [tc_p3 (cb_w e2.1), ob, ct_s4 (cb_w e2.1) e2.2.1, ob, if_pos (nI_le (Nat.le_refl _) (by omega))]
theorem nI_and31 (N : Nat) : nI N &&& (2147483647 : Int32) = nI (N % 2 ^ 31) := by
  rw [pk_and (nI N) 31 (by decide)]
  congr 1
  have h : (nI N).toBitVec.toNat = N % 2 ^ 32 := rfl
  rw [h]
  omega
theorem e_drawn {a len sd : Nat} {ν : Mm} (hK : mm_K ν a = (4, 0)) (hs : mm_I ν a 2 = nI sd) (hl : 0 < len) (hl2 : len < 2 ^ 30) : f_X3_drawn a (nI len) ν = some (nI (sdn sd / 65536 % len), ms_I ν a 2 (nI (sdn sd))) := by
  have hK4 : (mm_K ν a).1 = 4 := by rw [hK]
  have hlt := sdn_lt sd
  have e1 : ((1103515245 : Int32) * nI sd) + (12345 : Int32) = nI (1103515245 * sd + 12345) := by
    rw [show (1103515245 : Int32) = nI 1103515245 from rfl, pk_mul, show (12345 : Int32) = nI 12345 from rfl, nI_add]
  unfold f_X3_drawn
  rw [if_pos hK4, e_gfI hK4, ob, hs, e1, nI_and31, e_pfI hK4, ob, if_neg (nI_nle hl (by omega)), e_gfI (by rw [kI]; exact hK4), ob, if_neg (nI_ne0 hl (by omega)), rI, if_pos ⟨rfl, rfl⟩]
  have e2 : ((nI ((1103515245 * sd + 12345) % 2 ^ 31)).toUInt32 >>> ((16 : Int32).toUInt32 &&& Int32.toUInt32 31)).toInt32 = nI (sdn sd / 65536) := by
    have := b_ushr (n := sdn sd) (k := 16) (by decide) (by omega)
    exact this
  have hq : sdn sd / 65536 < 2 ^ 31 := Nat.lt_of_le_of_lt (Nat.div_le_self _ _) hlt
  rw [e2, pk_rem hq hl (by omega)]
  rfl
/-- a run's row and its Turnings -/
def Cg (X c : Nat) (T : Tn) (r : Rs) (ν : Mm) : Prop := Sp X c T (dr T r.2.1) ν ∧ TuP c T ν ∧ Cr1 (X + 13) T r ν
theorem c_day1 {X c B : Nat} {T : Tn} {r : Rs} {l1 : Int32} {j : Nat} {ν : Mm} (ok : OkT T) (hr : OkG T B r) (hB : B < 2 ^ 30) (h : Cg X c T r ν) (hj : nI j < l1) (hj2 : j < 1000) :
    ∃ ν', f_X3_pass_L21 (X + 13) l1 c (X + 58) (nI (T 0 5)) (nI j, ν) = some (.inl (nI (j + 1), ν')) ∧ Cg X c T (rday T r) ν' := by
  obtain ⟨hS, htu, hcr⟩ := h
  obtain ⟨o1, o2, o3, o4, o5⟩ := hr
  have od := dr_ok ok o2
  have hc := cb_c hS.1
  have hy1 := ok.1.2.2.2.2.2.1
  have hy2 := ok.1.2.2.2.2.2.2.1
  have hlen := lenE ok
  obtain ⟨c1, c2⟩ := hcr
  obtain ⟨c2, c3, c4, c5⟩ := c2 o1
  have hday : r.2.2.2.1 % T 0 5 < 28 := Nat.lt_of_lt_of_le (Nat.mod_lt _ hy1) hy2
  obtain ⟨ν1, w1, ⟨w2, w3, w4⟩, w5, w6⟩ := c_facts (l1 := l1) (l4 := nI (T 0 5)) (l5 := nI j) (day := r.2.2.2.1 % T 0 5) (g := r.2.2.2.2) ok od hS c5 hday
  have hsh := w2.1.1
  have f13 : mm_I ν1 (X + 13) = mm_I ν (X + 13) := w5 _ (by omega) (by omega)
  have htu1 : TuP c T ν1 := tuP_x (fun q _ _ => w5 q (by omega) (by omega)) htu
  have hkn : ∀ f, f < 12 → mm_I ν1 (X + 14) f = nI (bm (fun p => (rday T r).2.2.2.2 p f) 8) := fun f hf => by
    rw [w6 f hf]
    congr 1
    apply bm_x
    intro p hp
    show _ = (decide (f < T 0 1) && nxt T (dr T r.2.1) (r.2.2.2.1 % T 0 5) f (fun p => r.2.2.2.2 p f) p)
    by_cases h2 : f < T 0 1
    · rw [if_pos h2, decide_eq_true h2, Bool.true_and]
    · rw [if_neg h2, decide_eq_false h2, o5 p f (Or.inr (by omega))]; rfl
  have e1 : f_X3_pass_L21 (X + 13) l1 c (X + 58) (nI (T 0 5)) (nI j, ν) = f_X3_pass_J103 (X + 13) l1 c (X + 58) (nI (T 0 5)) (nI j) (nI (r.2.2.2.1 % T 0 5)) ν1 := by
    simp only [f_X3_pass_L21]
    rw [if_neg (Int32.not_le.mpr hj), rf_13 hS.1.1, ob, c4, if_neg (nI_ne0 hy1 (by omega)), pk_rem (by omega) hy1 (by omega), ob, w1, ob]
  rw [e1]
  unfold f_X3_pass_J103 f_X3_pass_J152
  rw [rf_13 hsh, ob, f13, c4, nI_1, wf_13 hsh, ob]
  have hS2 : Sp X c T (dr T r.2.1) (ms_I ν1 (X + 13) 4 (nI (r.2.2.2.1 + 1))) := sp_x (by rfl) (by rfl) (fun q g1 _ => by rw [iI, if_neg g1]) w2
  have htu2 : TuP c T (ms_I ν1 (X + 13) 4 (nI (r.2.2.2.1 + 1))) := tuP_x (fun q _ _ => by rw [iI, if_neg (by omega)]) htu1
  have g1 : mm_I (ms_I ν1 (X + 13) 4 (nI (r.2.2.2.1 + 1))) (X + 13) 1 = nI r.1.toNat := by rw [rI, if_neg (by omega), f13, c1]
  have g2 : mm_I (ms_I ν1 (X + 13) 4 (nI (r.2.2.2.1 + 1))) (X + 13) 2 = nI r.2.2.1 := by rw [rI, if_neg (by omega), f13, c2]
  have g3 : mm_I (ms_I ν1 (X + 13) 4 (nI (r.2.2.2.1 + 1))) (X + 13) 3 = nI (cr T (rwT T r.2.1)) := by rw [rI, if_neg (by omega), f13, c3]
  have g4 : mm_I (ms_I ν1 (X + 13) 4 (nI (r.2.2.2.1 + 1))) (X + 13) 4 = nI (r.2.2.2.1 + 1) := by rw [rI, if_pos ⟨rfl, rfl⟩]
  have g5 : ∀ f, f < 12 → mm_I (ms_I ν1 (X + 13) 4 (nI (r.2.2.2.1 + 1))) (X + 14) f = nI (bm (fun p => (rday T r).2.2.2.2 p f) 8) := fun f hf => by rw [iI, if_neg (by omega)]; exact hkn f hf
  generalize ms_I ν1 (X + 13) 4 (nI (r.2.2.2.1 + 1)) = ν2 at hS2 htu2 g1 g2 g3 g4 g5 ⊢
  have hdy : (nI (r.2.2.2.1 % T 0 5) = nI (T 0 5) - 1) = (r.2.2.2.1 % T 0 5 + 1 = T 0 5) := by
    rw [show (1 : Int32) = nI 1 from rfl, pk_sub hy1, nI_eq_i (by omega) (by omega)]
    apply propext
    omega
  simp only [hdy]
  by_cases ed : r.2.2.2.1 % T 0 5 + 1 = T 0 5
  · rw [if_pos ed]
    have hw := cb_w hS2.1
    have hsh2 := hS2.1.1
    have er1 : (rday T r).2.1 = sdn r.2.2.1 / 65536 % (EN T).length := if_pos ed
    have er2 : (rday T r).2.2.1 = sdn r.2.2.1 := if_pos ed
    rw [tc_p8 hw, ob, ob, e_howMany hw htu2, ob, e_drawn (mk_13 hsh2) g2 (by omega) hlen, ob]
    have ht' : sdn r.2.2.1 / 65536 % (EN T).length < (EN T).length := Nat.mod_lt _ (by omega)
    generalize sdn r.2.2.1 / 65536 % (EN T).length = t' at ht' er1 ⊢
    generalize hv : nI (sdn r.2.2.1) = v
    have hw3 : TwS c (mm_K (ms_I ν2 (X + 13) 2 v)) (mm_P (ms_I ν2 (X + 13) 2 v)) := hw
    have htu3 : TuP c T (ms_I ν2 (X + 13) 2 v) := tuP_x (fun q _ _ => by rw [iI, if_neg (by omega)]) htu2
    have hsh3 : Sh X (ms_I ν2 (X + 13) 2 v) := hsh2
    have hrow := e_rowOf hw3 ok htu3 ht'
    rw [← rwT_e ht'] at hrow
    obtain ⟨w, hcw⟩ : ∃ w, nI (cr T (rwT T t')) = w := ⟨_, rfl⟩
    rw [hcw] at hrow
    rw [hrow, ob]
    have hsh4 : Sh X (ms_I (ms_I ν2 (X + 13) 2 v) (X + 13) 3 w) := hsh2
    have r3 : mm_I (ms_I (ms_I ν2 (X + 13) 2 v) (X + 13) 3 w) (X + 13) 3 = w := by rw [rI, if_pos ⟨rfl, rfl⟩]
    rw [wf_13 hsh3, ob, rf_13 hsh4, ob, r3]
    have hS4 : Sp X c T (dr T r.2.1) (ms_I (ms_I ν2 (X + 13) 2 v) (X + 13) 3 w) := sp_x (by rfl) (by rfl) (fun q g1 _ => by rw [iI, if_neg g1, iI, if_neg g1]) hS2
    have htu4 : TuP c T (ms_I (ms_I ν2 (X + 13) 2 v) (X + 13) 3 w) := tuP_x (fun q _ _ => by rw [iI, if_neg (by omega)]) htu3
    have q1 : mm_I (ms_I (ms_I ν2 (X + 13) 2 v) (X + 13) 3 w) (X + 13) 1 = nI r.1.toNat := by rw [rI, if_neg (by omega), rI, if_neg (by omega), g1]
    have q2 : mm_I (ms_I (ms_I ν2 (X + 13) 2 v) (X + 13) 3 w) (X + 13) 2 = v := by rw [rI, if_neg (by omega), rI, if_pos ⟨rfl, rfl⟩]
    have q4 : mm_I (ms_I (ms_I ν2 (X + 13) 2 v) (X + 13) 3 w) (X + 13) 4 = nI (r.2.2.2.1 + 1) := by rw [rI, if_neg (by omega), rI, if_neg (by omega), g4]
    have q5 : ∀ f, f < 12 → mm_I (ms_I (ms_I ν2 (X + 13) 2 v) (X + 13) 3 w) (X + 14) f = nI (bm (fun p => (rday T r).2.2.2.2 p f) 8) := fun f hf => by rw [iI, if_neg (by omega), iI, if_neg (by omega)]; exact g5 f hf
    generalize ms_I (ms_I ν2 (X + 13) 2 v) (X + 13) 3 w = ν4 at hS4 htu4 r3 q1 q2 q4 q5 ⊢
    obtain ⟨z1, z2⟩ := sp_tr' ok hS4 t' ht'
    rw [← hcw, z1, ob, ob, nI_1]
    refine ⟨_, rfl, by rw [er1]; exact z2, tuP_x (fun q _ _ => m_tr_o (by omega) (by omega)) htu4, ?_⟩
    unfold Cr1
    rw [er1, er2, m_tr_o (by omega) (by omega), m_tr_o (by omega) (by omega)]
    exact ⟨by rw [q1, o1]; rfl, fun _ => ⟨by rw [q2, hv], by rw [r3, hcw], q4, q5⟩⟩
  · rw [if_neg ed, ob, nI_1]
    have er1 : (rday T r).2.1 = r.2.1 := if_neg ed
    have er2 : (rday T r).2.2.1 = r.2.2.1 := if_neg ed
    refine ⟨_, rfl, by rw [er1]; exact hS2, htu2, ?_⟩
    unfold Cr1
    rw [er1, er2]
    exact ⟨by rw [g1, o1]; rfl, fun _ => ⟨g2, g3, g4, g5⟩⟩
