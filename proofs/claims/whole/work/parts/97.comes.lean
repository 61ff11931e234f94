/-! ===== comes: whom a word reaches first ===== -/
abbrev Om : Type := Option (Nat × Nat × Int32)
def orE : Om → Om → Om
  | some x, _ => some x
  | none, y => y
theorem orE_a (a b c : Om) : orE (orE a b) c = orE a (orE b c) := by cases a <;> rfl
def bO (b : Bool) (x : Nat × Nat × Int32) : Om := if b then some x else none
def Tk (p f : Nat) (s : Ks) (o : Om) : Prop := s.2 38 = nI p ∧ s.2 39 = nI f ∧ match o with
  | none => s.1 p f = false ∧ s.2 40 = -1 ∧ s.2 41 = -1 ∧ s.2 42 = -1
  | some x => s.1 p f = true ∧ x.1 < 28 ∧ s.2 40 = nI x.1 ∧ s.2 41 = nI x.2.1 ∧ s.2 42 = x.2.2
def St (p f day way : Nat) (fr : Int32) (s s' : Ks) : Prop := ∀ o, Tk p f s o → Tk p f s' (orE o (bO (s'.1 p f) (day, way, fr)))
section ST
variable {p f day way : Nat} {fr : Int32} {s s' s'' : Ks}
theorem St_r : St p f day way fr s s := by
  intro o h
  cases o with
  | none => rw [h.2.2.1]; exact h
  | some x => exact h
theorem St_t (h1 : St p f day way fr s s') (h2 : St p f day way fr s' s'') : St p f day way fr s s'' := by
  intro o h
  have k1 := h1 o h
  have k2 := h2 _ k1
  cases o with
  | some x => exact k2
  | none =>
    cases e : s'.1 p f with
    | false => rw [e] at k2; exact k2
    | true =>
      rw [e] at k2
      have k2 : Tk p f s'' (some (day, way, fr)) := k2
      rw [k2.2.2.1]; exact k2
theorem St_l {q : Nat} {b : Nat → Bool} {fr' : Int32} (hp : p < 8) (hq : q < 8) (hf : f < 12) (hd : day < 28) (hfr : q = p → b f = true → fr' = fr) : St p f day way fr s (k_lrn s q b day way fr') := by
  intro o h
  obtain ⟨h38, h39, h3⟩ := h
  have e38 : (k_lrn s q b day way fr').2 38 = nI p := by rw [k_lrn_o (by omega)]; exact h38
  have e39 : (k_lrn s q b day way fr').2 39 = nI f := by rw [k_lrn_o (by omega)]; exact h39
  cases o with
  | some x =>
    obtain ⟨a1, a2, a3, a4, a5⟩ := h3
    have ec : (k_lrn s q b day way fr').2 = s.2 := if_neg (fun c => by rw [a3] at c; exact nI_m1 a2 c.2.1)
    refine ⟨e38, e39, ?_, a2, ?_, ?_, ?_⟩
    · show (s.1 p f || _) = true
      rw [a1]; rfl
    · rw [ec]; exact a3
    · rw [ec]; exact a4
    · rw [ec]; exact a5
  | none =>
    obtain ⟨a1, a2, a3, a4⟩ := h3
    have e1 : (k_lrn s q b day way fr').1 p f = (p == q && b f) := by
      show (s.1 p f || _) = _
      rw [a1]; rfl
    have hbit : (nI (bm b 12) &&& (nI (bm (s.1 p) 12) ^^^ (-1 : Int32))) >>> (s.2 39 &&& 31) &&& 1 = nI (b f).toNat := by
      rw [h39, b_andn _ _ (by decide), bmb hf (by decide), a1]; simp
    by_cases e : q = p ∧ b f = true
    · obtain ⟨e2, e3⟩ := e
      subst e2
      have ec : (k_lrn s q b day way fr').2 = u1 (u1 (u1 s.2 40 (nI day)) 41 (nI way)) 42 fr' := if_pos ⟨h38.symm, a2, by rw [hbit, e3]; rfl⟩
      have e4 : (k_lrn s q b day way fr').1 q f = true := by rw [e1, e3]; simp
      rw [e4]
      refine ⟨e38, e39, e4, hd, ?_, ?_, ?_⟩
      · rw [ec, u1_n _ _ (by omega), u1_n _ _ (by omega), u1_s]
      · rw [ec, u1_n _ _ (by omega), u1_s]
      · rw [ec, u1_s]; exact hfr rfl e3
    · have ec : (k_lrn s q b day way fr').2 = s.2 := if_neg (fun c => e (by
        have c1 := c.1
        rw [h38, nI_eq_i (by omega) (by omega)] at c1
        have c3 := c.2.2
        rw [c1, hbit, nI_b1] at c3
        exact ⟨c1, c3⟩))
      have e4 : (k_lrn s q b day way fr').1 p f = false := by
        rw [e1]
        by_cases e2 : q = p
        · have : b f = false := by
            cases eb : b f with
            | false => rfl
            | true => exact absurd ⟨e2, eb⟩ e
          rw [this, Bool.and_false]
        · have : (p == q) = false := by simp; omega
          rw [this]; rfl
      rw [e4]
      exact ⟨e38, e39, e4, by rw [ec]; exact a2, by rw [ec]; exact a3, by rw [ec]; exact a4⟩
theorem St_own {T : Tn} (ok : OkT T) (hp : p < 8) (hf : f < 12) (hd : day < 28) : ∀ n, n ≤ T 0 1 → St p f day 0 (-1) s (k_own T day s n) := by
  have hn := ok.1.1
  intro n
  induction n with
  | zero => intro _; exact St_r
  | succ n ih =>
    intro h
    have := (ok.2.2.2.2.1 n (by omega)).1
    rw [k_own_s]
    by_cases e : T 3 n = day
    · rw [if_pos e]
      exact St_t (ih (by omega)) (St_l hp (by omega) hf hd (fun _ _ => rfl))
    · rw [if_neg e]; exact ih (by omega)
theorem St_naps {T : Tn} {d : Nat → Nat} {u : Nat → Bool} (ok : OkT T) (hp : p < 8) (hf : f < 12) (hd : day < 28) : ∀ n, n ≤ T 0 3 → St p f day 1 (dI (d p)) s (k_naps T d u day s n) := by
  have hn := ok.1.1
  intro n
  induction n with
  | zero => intro _; exact St_r
  | succ n ih =>
    intro h
    have := (ok.2.2.2.2.2.2.1 n (by omega)).1
    refine St_t (ih (by omega)) ?_
    show St _ _ _ _ _ _ (k_nap1 T d u day n (k_naps T d u day s n))
    unfold k_nap1
    split
    · exact St_l hp (by omega) hf hd (fun q _ => by rw [q])
    · exact St_r
theorem St_nit {T : Tn} {d : Nat → Nat} {u : Nat → Bool} {κ : Nat → Nat → Bool} (hp : p < 8) (hf : f < 12) (hd : day < 28) : ∀ n, n ≤ 8 → St p f day 3 (dI (d p)) s (k_nit T d u day κ s n) := by
  intro n
  induction n with
  | zero => intro _; exact St_r
  | succ n ih =>
    intro h
    refine St_t (ih (by omega)) ?_
    show St _ _ _ _ _ _ (if _ then _ else _)
    split
    · exact St_l hp (by omega) hf hd (fun q _ => by rw [q])
    · exact St_r
def ptn (T : Tn) (k p : Nat) : Int32 := if T 4 k = p then nI (T 5 k) else nI (T 4 k)
theorem St_talk {T : Tn} {k : Nat} (ok : OkT T) (hp : p < 8) (hf : f < 12) (hd : day < 28) (hk : k < T 0 2) : St p f day 2 (ptn T k p) s (k_talk1 T day k s) := by
  have hn := ok.1.1
  have h := ok.2.2.2.2.2.1 k hk
  unfold k_talk1
  split
  · exact St_t (St_l hp (by omega) hf hd (fun q _ => by unfold ptn; rw [if_pos q])) (St_l hp (by omega) hf hd (fun q _ => by unfold ptn; rw [if_neg (by omega)]))
  · exact St_r
end ST
theorem ff_succ (q : Nat → Bool) (n : Nat) : ff q (n + 1) = match ff q n with | some j => some j | none => if q n then some n else none := by
  cases e : ff q n with
  | some j =>
    obtain ⟨h1, h2, h3⟩ := ff_some.mp e
    exact ff_some.mpr ⟨by omega, h2, h3⟩
  | none =>
    have h := ff_none.mp e
    show _ = if q n then some n else none
    cases eq : q n with
    | true => exact ff_some.mpr ⟨by omega, eq, h⟩
    | false =>
      refine ff_none.mpr (fun l hl => ?_)
      by_cases e2 : l = n
      · rw [e2]; exact eq
      · exact h l (by omega)
def kt3 (T : Tn) (w : Nat → Bool) (f day : Nat) (κ : Nat → Bool) (j : Nat) : Nat → Bool := if (w 1 && !(T 0 4).testBit f) then c_tr T day 0 κ j else κ
theorem kt3_8 (T : Tn) (w : Nat → Bool) (f day : Nat) (κ : Nat → Bool) : kt3 T w f day κ 8 = c_tk T w f day κ := rfl
theorem kt3_0 (T : Tn) (w : Nat → Bool) (f day : Nat) (κ : Nat → Bool) : kt3 T w f day κ 0 = κ := by unfold kt3; split <;> rfl
theorem kt3_out {T : Tn} {w : Nat → Bool} {f day : Nat} {κ : Nat → Bool} {j : Nat} (h : T 0 2 ≤ j) : kt3 T w f day κ (j + 1) = kt3 T w f day κ j := by
  unfold kt3
  split
  · show c_talk T day (0 + j) (c_tr T day 0 κ j) = _
    funext p
    unfold c_talk
    rw [decide_eq_false (by omega)]; simp
  · rfl
def tO (T : Tn) (w : Nat → Bool) (f day : Nat) (κ : Nat → Bool) (p n : Nat) : Om := match ff (fun j => kt3 T w f day κ (j + 1) p) n with | some j => some (day, 2, ptn T j p) | none => none
theorem tO_s (T : Tn) (w : Nat → Bool) (f day : Nat) (κ : Nat → Bool) (p n : Nat) : tO T w f day κ p (n + 1) = orE (tO T w f day κ p n) (bO (kt3 T w f day κ (n + 1) p) (day, 2, ptn T n p)) := by
  unfold tO
  rw [ff_succ]
  cases ff (fun j => kt3 T w f day κ (j + 1) p) n with
  | some j => rfl
  | none =>
    show (match (if kt3 T w f day κ (n + 1) p then some n else none) with | some j => some (day, 2, ptn T j p) | none => none) = bO _ _
    cases kt3 T w f day κ (n + 1) p <;> rfl
/-- what a day brings to one who did not know -/
def dOut (T : Tn) (d : Nat → Nat) (w u : Nat → Bool) (f day : Nat) (κ : Nat → Bool) (p : Nat) : Om :=
  orE (bO (c_own T f day κ p) (day, 0, -1)) (orE (bO (c_np T d w u f day (c_own T f day κ) p) (day, 1, dI (d p))) (orE (tO T w f day (c_np T d w u f day (c_own T f day κ)) p 8) (bO (c_ngt T d w u f (c_day T d w u f day κ) p) (day, 3, dI (d p)))))
theorem Tk_talks {T : Tn} {w : Nat → Bool} {p f day : Nat} {s : Ks} {o : Om} (ok : OkT T) (hp : p < 8) (hf : f < 12) (hd : day < 28) (h : Tk p f s o) : Tk p f (if w 1 then k_talks T day s (T 0 2) else s) (orE o (tO T w f day (fun q => s.1 q f) p 8)) := by
  have h2 := ok.1.2.2.1
  have key : ∀ n, n ≤ 8 → Tk p f (if w 1 then k_talks T day s (min n (T 0 2)) else s) (orE o (tO T w f day (fun q => s.1 q f) p n)) ∧ (if w 1 then k_talks T day s (min n (T 0 2)) else s).1 p f = kt3 T w f day (fun q => s.1 q f) n p := by
    intro n
    induction n with
    | zero =>
      intro _
      rw [Nat.zero_min, kt3_0]
      have e : (if w 1 then k_talks T day s 0 else s) = s := by split <;> rfl
      rw [e]
      refine ⟨?_, rfl⟩
      have : orE o (tO T w f day (fun q => s.1 q f) p 0) = o := by cases o <;> rfl
      rw [this]; exact h
    | succ n ih =>
      intro hn
      obtain ⟨i1, i2⟩ := ih (by omega)
      rw [tO_s, ← orE_a]
      have hk : (if w 1 then k_talks T day s (min (n + 1) (T 0 2)) else s).1 p f = kt3 T w f day (fun q => s.1 q f) (n + 1) p := by
        by_cases hw : w 1 = true
        · rw [if_pos hw]
          by_cases q : n < T 0 2
          · rw [Nat.min_eq_left (by omega), congrFun (k_talks_c T day s f (n + 1) (by omega)) p]
            unfold kt3
            rw [hw]
            cases (T 0 4).testBit f <;> rfl
          · rw [kt3_out (by omega), ← i2, if_pos hw, Nat.min_eq_right (by omega), Nat.min_eq_right (by omega)]
        · rw [if_neg hw]
          unfold kt3
          have hw : w 1 = false := by simpa using hw
          rw [hw]; rfl
      refine ⟨?_, hk⟩
      rw [← hk]
      by_cases hw : w 1 = true
      · by_cases q : n < T 0 2
        · rw [if_pos hw, Nat.min_eq_left (by omega)] at i1 ⊢
          exact St_talk ok hp hf hd q _ i1
        · rw [if_pos hw, Nat.min_eq_right (by omega)] at i1 ⊢
          exact St_r _ i1
      · rw [if_neg hw] at i1 ⊢
        exact St_r _ i1
  have := (key 8 (Nat.le_refl _)).1
  rw [Nat.min_eq_right h2] at this
  exact this
theorem Tk_day {T : Tn} {d : Nat → Nat} {w u : Nat → Bool} {p f day : Nat} {s : Ks} {o : Om} (ok : OkT T) (od : OkD (T 0 0) d) (hp : p < 8) (hf : f < T 0 1) (hd : day < 28) (h : Tk p f s o) : Tk p f (k_ngt T d w u day (k_day T d w u day s)) (orE o (dOut T d w u f day (fun q => s.1 q f) p)) := by
  have hf12 : f < 12 := by have := ok.1.2.1; omega
  have h3 := ok.1.2.2.2.1
  have hn := ok.1.1
  unfold dOut
  rw [← orE_a, ← orE_a, ← orE_a]
  have e1 : (fun q => (k_own T day s (T 0 1)).1 q f) = c_own T f day (fun q => s.1 q f) := by rw [k_own_c, if_pos hf]
  have t1 := St_own ok hp hf12 hd (T 0 1) (Nat.le_refl _) o h
  rw [show (k_own T day s (T 0 1)).1 p f = c_own T f day (fun q => s.1 q f) p from congrFun e1 p] at t1
  have e2 : (fun q => (if w 2 = true then k_naps T d u day (k_own T day s (T 0 1)) (T 0 3) else k_own T day s (T 0 1)).1 q f) = c_np T d w u f day (c_own T f day (fun q => s.1 q f)) := by
    rw [← e1]
    unfold c_np
    by_cases hw : w 2 = true
    · rw [if_pos hw, hw, k_naps_c _ _ _ _ _ _ _ (Nat.le_refl _), c_naps_ge _ _ _ _ _ 8 h3]
      cases (T 0 8).testBit f <;> rfl
    · rw [if_neg hw]
      have hw : w 2 = false := by simpa using hw
      rw [hw]; rfl
  have s2 : St p f day 1 (dI (d p)) (k_own T day s (T 0 1)) (if w 2 = true then k_naps T d u day (k_own T day s (T 0 1)) (T 0 3) else k_own T day s (T 0 1)) := by
    split
    · exact St_naps ok hp hf12 hd _ (Nat.le_refl _)
    · exact St_r
  have t2 := s2 _ t1
  rw [show (if w 2 = true then k_naps T d u day (k_own T day s (T 0 1)) (T 0 3) else k_own T day s (T 0 1)).1 p f = _ from congrFun e2 p] at t2
  have t3 := Tk_talks (w := w) ok hp hf12 hd t2
  rw [e2] at t3
  have hkd : k_day T d w u day s = (if w 1 then k_talks T day (if w 2 = true then k_naps T d u day (k_own T day s (T 0 1)) (T 0 3) else k_own T day s (T 0 1)) (T 0 2) else (if w 2 = true then k_naps T d u day (k_own T day s (T 0 1)) (T 0 3) else k_own T day s (T 0 1))) := rfl
  rw [← hkd] at t3
  have s4 : St p f day 3 (dI (d p)) (k_day T d w u day s) (k_ngt T d w u day (k_day T d w u day s)) := by
    unfold k_ngt
    split
    · exact St_nit hp hf12 hd _ hn
    · exact St_r
  have t4 := s4 _ t3
  rw [show (k_ngt T d w u day (k_day T d w u day s)).1 p f = _ from congrFun (k_ngt_c (w := w) (u := u) (day := day) (f := f) (s := k_day T d w u day s) od) p, k_day_c ok hf] at t4
  exact t4
/-- what the first n days bring -/
def rOut (T : Tn) (d : Nat → Nat) (w us : Nat → Bool) (f p : Nat) : Nat → Om
  | 0 => none
  | n + 1 => orE (rOut T d w us f p n) (dOut T d w (fun q => dl T q n || us q) f n (c_beh T d w us f n) p)
theorem Tk_run {T : Tn} {d : Nat → Nat} {w us : Nat → Bool} {p f : Nat} {o : Nat → Int32} (ok : OkT T) (od : OkD (T 0 0) d) (hp : p < 8) (hf : f < T 0 1) (h38 : o 38 = nI p) (h39 : o 39 = nI f) : ∀ n, n ≤ 28 → Tk p f (k_run T d w us (k_0, o_fg o) n) (rOut T d w us f p n) := by
  intro n
  induction n with
  | zero =>
    intro _
    refine ⟨?_, ?_, rfl, ?_, ?_, ?_⟩
    · show o_fg o 38 = _; rw [fg_o (by omega)]; exact h38
    · show o_fg o 39 = _; rw [fg_o (by omega)]; exact h39
    · show o_fg o 40 = _; unfold o_fg; rw [u1_n _ _ (by omega), u1_n _ _ (by omega), u1_s]
    · show o_fg o 41 = _; unfold o_fg; rw [u1_n _ _ (by omega), u1_s]
    · show o_fg o 42 = _; unfold o_fg; rw [u1_s]
  | succ n ih =>
    intro hn
    have := Tk_day (w := w) (u := fun q => dl T q n || us q) (day := n) ok od hp hf (by omega) (ih (by omega))
    rw [k_run_c ok od hf] at this
    exact this
theorem rOut_b {T : Tn} {d : Nat → Nat} {w us : Nat → Bool} {p f : Nat} (ok : OkT T) (od : OkD (T 0 0) d) (hp : p < 8) (hf : f < T 0 1) {n : Nat} (hn : n ≤ 28) : c_beh T d w us f n p = false → rOut T d w us f p n = none := by
  intro h
  have t := Tk_run (w := w) (us := us) (o := u1 (u1 (fun _ => 0) 38 (nI p)) 39 (nI f)) ok od hp hf (by rw [u1_n _ _ (by omega), u1_s]) (by rw [u1_s]) n hn
  cases e : rOut T d w us f p n with
  | none => rfl
  | some x =>
    rw [e] at t
    have h1 := t.2.2.1
    rw [show (k_run T d w us (k_0, o_fg (u1 (u1 (fun _ => 0) 38 (nI p)) 39 (nI f))) n).1 p f = c_beh T d w us f n p from congrFun (k_run_c ok od hf n) p, h] at h1
    cases h1
theorem rOut_s {T : Tn} {d : Nat → Nat} {w us : Nat → Bool} {p f : Nat} {x : Nat × Nat × Int32} {m : Nat} (h : rOut T d w us f p m = some x) : ∀ n, m ≤ n → rOut T d w us f p n = some x := by
  intro n hn
  induction n with
  | zero => rw [show 0 = m by omega]; exact h
  | succ n ih =>
    by_cases e : m = n + 1
    · rw [← e]; exact h
    · show orE (rOut T d w us f p n) _ = _
      rw [ih (by omega)]; rfl
section CALLS
variable {b L : Nat} {xs : Nat → Int32} {X i c : Nat} {s : Sv} {μ : Mm}
def PF (X c : Nat) (T : Tn) (d : Nat → Nat) (f : Nat) (w us : Nat → Bool) (μ : Mm) : Prop := Sp X c T d μ ∧ SpF X T f w us μ
theorem PF_x {T : Tn} {d : Nat → Nat} {f k : Nat} {w us : Nat → Bool} {v : Int32} (hk : 14 ≤ k) (h : PF X c T d f w us μ) : PF X c T d f w us (ms_I μ (X + 58) k v) := by
  obtain ⟨⟨h1, h2, h3, h4⟩, h5⟩ := h
  have hc := cb_c h1
  refine ⟨⟨h1, ctn_x (fun q g1 g2 => by rw [iI, if_neg (by omega)]) h2, spT_x (by rfl) (fun q g => by rw [iI, if_neg (by omega)]) h3, spD_x (by rw [iI, if_neg (by omega)]) (by rw [iI, if_neg (by omega)]) h4⟩, ?_⟩
  unfold SpF at h5 ⊢
  rw [rI, if_neg (by omega), rI, if_neg (by omega), rI, if_neg (by omega), rI, if_neg (by omega), rI, if_neg (by omega), rI, if_neg (by omega)]
  exact h5
theorem c_isC {κ : Nat → Bool} {p way : Nat} {fr : Int32} (h : Sh X μ) (hp : p < 8) : f_X4_isComing (X + 58) (nI (bm κ 8)) (nI p) (nI way) fr μ = some (nI (κ p).toNat, ms_I (ms_I μ (X + 58) 15 (nI way)) (X + 58) 16 fr) := by
  unfold f_X4_isComing
  rw [if_pos (by rw [mk_58 h]), wf_58 h, ob, wf_58 (shI' h _ _ _), ob, bmb hp (by decide)]
  cases κ p <;> rfl
theorem c_ptn {T : Tn} {d : Nat → Nat} {p j : Nat} (ok : OkT T) (h : Sp X c T d μ) (hp : p < 8) (hj : j < T 0 2) : f_X4_partnerOf (X + 58) (nI j) (nI p) μ = some (ptn T j p) := by
  have hw := cb_w h.1
  have h4 := ok.2.2.2.2.2.1 j hj
  have hn := ok.1.1
  unfold f_X4_partnerOf ptn
  rw [if_pos (by rw [mk_58 h.1.1]), e_gfP (by rw [mk_58 h.1.1]) h.2.2.1.1, ob, tc_p4 hw, ob, ct_6_0 hw h.2.1 ok hj, ob, ob, tc_p4 hw, ob, ct_6_1 hw h.2.1 ok hj, ob]
  simp only [nI_eq_i (show T 4 j < 2 ^ 31 by omega) (show p < 2 ^ 31 by omega)]
  split <;> rfl
theorem c_ptn_out {T : Tn} {d : Nat → Nat} {p j : Nat} (ok : OkT T) (h : Sp X c T d μ) (hp : p < 8) (hj : T 0 2 ≤ j) (hb : j < 2 ^ 31) : f_X4_partnerOf (X + 58) (nI j) (nI p) μ = some (-1) := by
  have hw := cb_w h.1
  unfold f_X4_partnerOf
  rw [if_pos (by rw [mk_58 h.1.1]), e_gfP (by rw [mk_58 h.1.1]) h.2.2.1.1, ob, tc_p4 hw, ob, ct_6_out hw h.2.1 ok hj hb, ob, if_neg (fun e => nI_m1 (w := p) (by omega) e.symm)]
theorem c_ctalks {T : Tn} {d : Nat → Nat} {f p day : Nat} {w us κ : Nat → Bool} (ok : OkT T) (h : PF X c T d f w us μ) (h14 : mm_I μ (X + 58) 14 = nI day) (hp : p < 8) (hd : day < 28) (hκ : κ p = false) : ∃ r, whl (f_X4_findComing_L66 (X + 58) (nI p) (nI day)) (nI (bm κ 8), (0 : Int32), μ) = some r ∧ ∃ ν, PF X c T d f w us ν ∧ mm_I ν (X + 58) 14 = nI day ∧ ((∃ x, tO T w f day κ p 8 = some x ∧ x.1 = day ∧ r = .inl ν ∧ mm_I ν (X + 58) 15 = nI x.2.1 ∧ mm_I ν (X + 58) 16 = x.2.2) ∨ (tO T w f day κ p 8 = none ∧ r = .inr (nI (bm (c_tk T w f day κ) 8), ν) ∧ c_tk T w f day κ p = false)) := by
  refine whl_e (body := f_X4_findComing_L66 (X + 58) (nI p) (nI day)) 8 (fun j (st : Int32 × Int32 × Mm) => ∃ ν, st = (nI (bm (kt3 T w f day κ j) 8), nI j, ν) ∧ PF X c T d f w us ν ∧ mm_I ν (X + 58) 14 = nI day ∧ kt3 T w f day κ j p = false ∧ ∀ l, l < j → kt3 T w f day κ (l + 1) p = false) (s0 := (nI (bm κ 8), (0 : Int32), μ)) ⟨μ, by rw [kt3_0]; rfl, h, h14, by rw [kt3_0]; exact hκ, fun l hl => by omega⟩ ?_ ?_
  · rintro j st hj ⟨ν, rfl, e1, e2, e3, e4⟩
    have hS := e1.1.1.1
    have ht : f_X4_byTalks (X + 58) (nI (bm (kt3 T w f day κ j) 8)) (nI day) (nI j) (nI (j + 1)) ν = some (nI (bm (kt3 T w f day κ (j + 1)) 8)) := by
      rw [e_byTalks (a := j) (m := 1) hS ok e1.1.2.2.1 e1.2 hd (by omega)]
      congr 2
      apply bm_x
      intro q hq
      unfold kt3
      by_cases e : (w 1 && !(T 0 4).testBit f) = true
      · rw [if_pos e, if_pos e, if_pos e]
        show c_talk T day (j + 0) (c_tr T day 0 κ j) q = c_talk T day (0 + j) (c_tr T day 0 κ j) q
        rw [Nat.zero_add]; rfl
      · rw [if_neg e, if_neg e, if_neg e]
    have hpar : ∃ v, f_X4_partnerOf (X + 58) (nI j) (nI p) ν = some v ∧ (kt3 T w f day κ (j + 1) p = true → v = ptn T j p) := by
      by_cases q : j < T 0 2
      · exact ⟨_, c_ptn ok e1.1 hp q, fun _ => rfl⟩
      · exact ⟨_, c_ptn_out ok e1.1 hp (by omega) (by omega), fun q2 => by rw [kt3_out (by omega), e3] at q2; cases q2⟩
    obtain ⟨v, v1, v2⟩ := hpar
    have hP : PF X c T d f w us (ms_I (ms_I ν (X + 58) 15 (nI 2)) (X + 58) 16 v) := PF_x (by decide) (PF_x (by decide) e1)
    have h14' : mm_I (ms_I (ms_I ν (X + 58) 15 (nI 2)) (X + 58) 16 v) (X + 58) 14 = nI day := by rw [rI, if_neg (by omega), rI, if_neg (by omega)]; exact e2
    have hb : f_X4_findComing_L66 (X + 58) (nI p) (nI day) (nI (bm (kt3 T w f day κ j) 8), nI j, ν) = if kt3 T w f day κ (j + 1) p then some (.inr (.inl (ms_I (ms_I ν (X + 58) 15 (nI 2)) (X + 58) 16 v))) else some (.inl (nI (bm (kt3 T w f day κ (j + 1)) 8), nI (j + 1), ms_I (ms_I ν (X + 58) 15 (nI 2)) (X + 58) 16 v)) := by
      simp only [f_X4_findComing_L66]
      rw [rp_58_6 hS, ob, ln_65 hS, ob, if_neg (by rw [nI_le_i (by omega) (by omega)]; omega), nI_1, ht, ob, v1, ob, show (2 : Int32) = nI 2 from rfl, c_isC hS hp, ob, ob]
      cases kt3 T w f day κ (j + 1) p <;> rfl
    rw [hb]
    cases ek : kt3 T w f day κ (j + 1) p with
    | false =>
      left
      refine ⟨_, rfl, _, rfl, hP, h14', by first | exact ek | rfl, fun l hl => ?_⟩
      by_cases q : l = j
      · rw [q]; exact ek
      · exact e4 l (by omega)
    | true =>
      right
      refine ⟨_, rfl, _, hP, h14', Or.inl ⟨(day, 2, ptn T j p), ?_, rfl, rfl, ?_, ?_⟩⟩
      · unfold tO
        rw [show ff (fun j => kt3 T w f day κ (j + 1) p) 8 = some j from ff_some.mpr ⟨hj, ek, e4⟩]
      · rw [rI, if_neg (by omega), rI, if_pos ⟨rfl, rfl⟩]
      · rw [rI, if_pos ⟨rfl, rfl⟩]; exact v2 ek
  · rintro st ⟨ν, rfl, e1, e2, e3, e4⟩
    refine ⟨.inr (nI (bm (kt3 T w f day κ 8) 8), ν), ?_, ν, e1, e2, Or.inr ⟨?_, rfl, e3⟩⟩
    · simp only [f_X4_findComing_L66]
      rw [rp_58_6 e1.1.1.1, ob, ln_65 e1.1.1.1, ob, if_pos (by decide)]
    · unfold tO
      rw [show ff (fun j => kt3 T w f day κ (j + 1) p) 8 = none from ff_none.mpr e4]
theorem c_cday {T : Tn} {d : Nat → Nat} {f p day : Nat} {w us κ : Nat → Bool} (ok : OkT T) (od : OkD (T 0 0) d) (hf : f < T 0 1) (h : PF X c T d f w us μ) (hp : p < 8) (hd : day < 28) : ∃ ν, PF X c T d f w us ν ∧ mm_I ν (X + 58) 14 = nI day ∧ ((∃ x r, dOut T d w (fun q => dl T q day || us q) f day κ p = some x ∧ x.1 = day ∧ f_X4_findComing_L7 (X + 58) (nI p) (nI (bm κ 8), nI day, μ) = some (.inr r) ∧ (r = .inl ν ∨ r = .inr (.inl ν) ∨ r = .inr (.inr (.inl ν)) ∨ r = .inr (.inr (.inr (.inl ν)))) ∧ mm_I ν (X + 58) 15 = nI x.2.1 ∧ mm_I ν (X + 58) 16 = x.2.2) ∨ (dOut T d w (fun q => dl T q day || us q) f day κ p = none ∧ f_X4_findComing_L7 (X + 58) (nI p) (nI (bm κ 8), nI day, μ) = some (.inl (nI (bm (c_ngt T d w (fun q => dl T q day || us q) f (c_day T d w (fun q => dl T q day || us q) f day κ)) 8), nI (day + 1), ν)))) := by
  have hff := ok.2.2.2.2.1 f hf
  have hn := ok.1.1
  have hS := h.1.1.1
  have hP0 : PF X c T d f w us (ms_I μ (X + 58) 14 (nI day)) := PF_x (by decide) h
  have hP1 : PF X c T d f w us (ms_I (ms_I (ms_I μ (X + 58) 14 (nI day)) (X + 58) 15 (nI 0)) (X + 58) 16 (-1)) := PF_x (by decide) (PF_x (by decide) hP0)
  have f1 : mm_I (ms_I (ms_I (ms_I μ (X + 58) 14 (nI day)) (X + 58) 15 (nI 0)) (X + 58) 16 (-1)) (X + 58) 14 = nI day := by rw [rI, if_neg (by omega), rI, if_neg (by omega), rI, if_pos ⟨rfl, rfl⟩]
  have i1 := e_byItself (κ := κ) hP0.1.1.1 hP0.2 (by omega : T 2 f < 8) hd hff.2
  have f5 : mm_I (ms_I (ms_I (ms_I μ (X + 58) 14 (nI day)) (X + 58) 15 (nI 0)) (X + 58) 16 (-1)) (X + 58) 15 = nI 0 := by rw [rI, if_neg (by omega), rI, if_pos ⟨rfl, rfl⟩]
  have f6 : mm_I (ms_I (ms_I (ms_I μ (X + 58) 14 (nI day)) (X + 58) 15 (nI 0)) (X + 58) 16 (-1)) (X + 58) 16 = -1 := by rw [rI, if_pos ⟨rfl, rfl⟩]
  have hc1 : f_X4_isComing (X + 58) (nI (bm (c_own T f day κ) 8)) (nI p) (0 : Int32) (-1) (ms_I μ (X + 58) 14 (nI day)) = _ := c_isC (way := 0) hP0.1.1.1 hp
  unfold dOut
  simp only [f_X4_findComing_L7]
  rw [if_neg (by rw [show (28 : Int32) = nI 28 from rfl, nI_le_i (by omega) (by omega)]; omega), wf_58 hS, ob, i1, ob, hc1, ob]
  generalize ms_I (ms_I (ms_I μ (X + 58) 14 (nI day)) (X + 58) 15 (nI 0)) (X + 58) 16 (-1) = ν1 at hP1 f1 f5 f6 ⊢
  clear hc1 i1 hP0
  cases e1 : c_own T f day κ p with
  | true => exact ⟨ν1, hP1, f1, Or.inl ⟨(day, 0, -1), .inl ν1, rfl, rfl, rfl, Or.inl rfl, f5, f6⟩⟩
  | false =>
    have hS1 := hP1.1.1.1
    have i2 := e_byNaps (κ := c_own T f day κ) hS1 ok od hP1.1.2.2.1 hP1.1.2.2.2 hP1.2 hd
    have hd1 : ga_I (X + 62) (nI p) ν1 = some (dI (d p)) := by rw [ra_62 hS1 hp, hP1.1.2.2.2.1 p hp]
    have hc2 : f_X4_isComing (X + 58) (nI (bm (c_np T d w (fun q => dl T q day || us q) f day (c_own T f day κ)) 8)) (nI p) (1 : Int32) (dI (d p)) ν1 = _ := c_isC (way := 1) hS1 hp
    have hP2 : PF X c T d f w us (ms_I (ms_I ν1 (X + 58) 15 (nI 1)) (X + 58) 16 (dI (d p))) := PF_x (by decide) (PF_x (by decide) hP1)
    have g4 : mm_I (ms_I (ms_I ν1 (X + 58) 15 (nI 1)) (X + 58) 16 (dI (d p))) (X + 58) 14 = nI day := by rw [rI, if_neg (by omega), rI, if_neg (by omega)]; exact f1
    have g5 : mm_I (ms_I (ms_I ν1 (X + 58) 15 (nI 1)) (X + 58) 16 (dI (d p))) (X + 58) 15 = nI 1 := by rw [rI, if_neg (by omega), rI, if_pos ⟨rfl, rfl⟩]
    have g6 : mm_I (ms_I (ms_I ν1 (X + 58) 15 (nI 1)) (X + 58) 16 (dI (d p))) (X + 58) 16 = dI (d p) := by rw [rI, if_pos ⟨rfl, rfl⟩]
    rw [if_pos (show (nI false.toNat, ν1).1 = 0 from rfl), i2, ob, rp_58_3 hS1, ob, hd1, ob, hc2, ob]
    generalize ms_I (ms_I ν1 (X + 58) 15 (nI 1)) (X + 58) 16 (dI (d p)) = ν2 at hP2 g4 g5 g6 ⊢
    clear hc2 i2 hd1
    cases e2 : c_np T d w (fun q => dl T q day || us q) f day (c_own T f day κ) p with
    | true => exact ⟨ν2, hP2, g4, Or.inl ⟨(day, 1, dI (d p)), .inr (.inl ν2), rfl, rfl, rfl, Or.inr (Or.inl rfl), g5, g6⟩⟩
    | false =>
      rw [if_pos (show (nI false.toNat, ν2).1 = 0 from rfl)]
      obtain ⟨r, k1, ν3, hP3, q4, hq⟩ := c_ctalks (κ := c_np T d w (fun q => dl T q day || us q) f day (c_own T f day κ)) ok hP2 g4 hp hd e2
      rw [k1, ob]
      rcases hq with ⟨x, x1, x2, x3, x4, x5⟩ | ⟨x1, x2, x3⟩
      · rw [x3, x1]
        exact ⟨ν3, hP3, q4, Or.inl ⟨x, .inr (.inr (.inl ν3)), rfl, x2, rfl, Or.inr (Or.inr (Or.inl rfl)), x4, x5⟩⟩
      · rw [x2, x1]
        have hS3 := hP3.1.1.1
        have i4 := e_byNight (κ := c_day T d w (fun q => dl T q day || us q) f day κ) hS3 ok od hP3.1.2.2.1 hP3.1.2.2.2 hP3.2 hd
        have hd3 : ga_I (X + 62) (nI p) ν3 = some (dI (d p)) := by rw [ra_62 hS3 hp, hP3.1.2.2.2.1 p hp]
        have hc4 : f_X4_isComing (X + 58) (nI (bm (c_ngt T d w (fun q => dl T q day || us q) f (c_day T d w (fun q => dl T q day || us q) f day κ)) 8)) (nI p) (3 : Int32) (dI (d p)) ν3 = _ := c_isC (way := 3) hS3 hp
        have hP4 : PF X c T d f w us (ms_I (ms_I ν3 (X + 58) 15 (nI 3)) (X + 58) 16 (dI (d p))) := PF_x (by decide) (PF_x (by decide) hP3)
        have z4 : mm_I (ms_I (ms_I ν3 (X + 58) 15 (nI 3)) (X + 58) 16 (dI (d p))) (X + 58) 14 = nI day := by rw [rI, if_neg (by omega), rI, if_neg (by omega)]; exact q4
        have z5 : mm_I (ms_I (ms_I ν3 (X + 58) 15 (nI 3)) (X + 58) 16 (dI (d p))) (X + 58) 15 = nI 3 := by rw [rI, if_neg (by omega), rI, if_pos ⟨rfl, rfl⟩]
        have z6 : mm_I (ms_I (ms_I ν3 (X + 58) 15 (nI 3)) (X + 58) 16 (dI (d p))) (X + 58) 16 = dI (d p) := by rw [rI, if_pos ⟨rfl, rfl⟩]
        show ∃ ν, PF X c T d f w us ν ∧ mm_I ν (X + 58) 14 = nI day ∧ ((∃ x r, bO (c_ngt T d w (fun q => dl T q day || us q) f (c_day T d w (fun q => dl T q day || us q) f day κ) p) (day, 3, dI (d p)) = some x ∧ x.1 = day ∧ f_X4_findComing_J114 (X + 58) (nI p) (nI (bm (c_day T d w (fun q => dl T q day || us q) f day κ) 8)) (nI day) ν3 = some (.inr r) ∧ _) ∨ (bO (c_ngt T d w (fun q => dl T q day || us q) f (c_day T d w (fun q => dl T q day || us q) f day κ) p) (day, 3, dI (d p)) = none ∧ f_X4_findComing_J114 (X + 58) (nI p) (nI (bm (c_day T d w (fun q => dl T q day || us q) f day κ) 8)) (nI day) ν3 = _))
        unfold f_X4_findComing_J114
        rw [i4, ob, rp_58_3 hS3, ob, hd3, ob, hc4, ob]
        generalize ms_I (ms_I ν3 (X + 58) 15 (nI 3)) (X + 58) 16 (dI (d p)) = ν4 at hP4 z4 z5 z6 ⊢
        cases e4 : c_ngt T d w (fun q => dl T q day || us q) f (c_day T d w (fun q => dl T q day || us q) f day κ) p with
        | true => exact ⟨ν4, hP4, z4, Or.inl ⟨(day, 3, dI (d p)), .inr (.inr (.inr (.inl ν4))), rfl, rfl, rfl, Or.inr (Or.inr (Or.inr rfl)), z5, z6⟩⟩
        | false => exact ⟨ν4, hP4, z4, Or.inr ⟨rfl, by rw [if_pos (show (nI false.toNat, ν4).1 = 0 from rfl), ob, nI_1]⟩⟩
theorem c_findC {T : Tn} {d : Nat → Nat} {f p : Nat} {w us : Nat → Bool} (ok : OkT T) (od : OkD (T 0 0) d) (hf : f < T 0 1) (h : PF X c T d f w us μ) (hp : p < 8) : ∃ ν, match rOut T d w us f p 28 with
    | none => f_X4_findComing (X + 58) (nI p) μ = some (0, ν)
    | some x => f_X4_findComing (X + 58) (nI p) μ = some (1, ν) ∧ Sh X ν ∧ mm_I ν (X + 58) 14 = nI x.1 ∧ mm_I ν (X + 58) 15 = nI x.2.1 ∧ mm_I ν (X + 58) 16 = x.2.2 := by
  have h3 := (ok.2.2.2.2.1 f hf).2
  have hS := h.1.1.1
  have key := whl_e (body := f_X4_findComing_L7 (X + 58) (nI p)) (28 - T 3 f) (fun m (st : Int32 × Int32 × Mm) => ∃ ν, st = (nI (bm (c_beh T d w us f (T 3 f + m)) 8), nI (T 3 f + m), ν) ∧ PF X c T d f w us ν ∧ rOut T d w us f p (T 3 f + m) = none) (Q := fun r => (∃ ν, r = .inr (.inr (.inr (.inr ν))) ∧ rOut T d w us f p 28 = none) ∨ (∃ ν x, (r = .inl ν ∨ r = .inr (.inl ν) ∨ r = .inr (.inr (.inl ν)) ∨ r = .inr (.inr (.inr (.inl ν)))) ∧ rOut T d w us f p 28 = some x ∧ Sh X ν ∧ mm_I ν (X + 58) 14 = nI x.1 ∧ mm_I ν (X + 58) 15 = nI x.2.1 ∧ mm_I ν (X + 58) 16 = x.2.2)) (s0 := ((0 : Int32), nI (T 3 f), μ)) ⟨μ, by rw [Nat.add_zero, c_beh_f T d w us f _ (Nat.le_refl _), nz], h, by rw [Nat.add_zero]; exact rOut_b ok od hp hf (by omega) (by rw [c_beh_f T d w us f _ (Nat.le_refl _)])⟩ ?_ ?_
  · obtain ⟨r, k1, k2⟩ := key
    have hx : f_X4_findComing (X + 58) (nI p) μ = (sm (fun b7 => some ((1 : Int32), b7)) (sm (fun b7 => some ((1 : Int32), b7)) (sm (fun b7 => some ((1 : Int32), b7)) (sm (fun b7 => some ((1 : Int32), b7)) (fun b7 => some ((0 : Int32), b7)))))) r := by
      unfold f_X4_findComing
      rw [if_pos (by rw [mk_58 hS]), rf_58 hS, ob, h.2.1, k1, ob]
    rcases k2 with ⟨ν, rfl, e⟩ | ⟨ν, x, hr, e, q1, q2, q3, q4⟩
    · refine ⟨ν, ?_⟩
      rw [e]
      exact hx
    · refine ⟨ν, ?_⟩
      rw [e]
      refine ⟨?_, q1, q2, q3, q4⟩
      rw [hx]
      rcases hr with rfl | rfl | rfl | rfl <;> rfl
  · rintro m st hm ⟨ν, rfl, e1, e2⟩
    obtain ⟨π, p1, p2, p3⟩ := c_cday (κ := c_beh T d w us f (T 3 f + m)) (day := T 3 f + m) ok od hf e1 hp (by omega)
    have hr : rOut T d w us f p (T 3 f + m + 1) = dOut T d w (fun q => dl T q (T 3 f + m) || us q) f (T 3 f + m) (c_beh T d w us f (T 3 f + m)) p := by
      show orE (rOut T d w us f p (T 3 f + m)) _ = _
      rw [e2]; rfl
    rcases p3 with ⟨x, r, x1, x2, x3, x4, x5, x6⟩ | ⟨x1, x2⟩
    · right
      exact ⟨r, x3, Or.inr ⟨π, x, x4, rOut_s (hr.trans x1) 28 (by omega), p1.1.1.1, by rw [x2]; exact p2, x5, x6⟩⟩
    · left
      exact ⟨_, x2, π, rfl, p1, hr.trans x1⟩
  · rintro st ⟨ν, rfl, e1, e2⟩
    have e28 : T 3 f + (28 - T 3 f) = 28 := by omega
    rw [e28] at e2
    refine ⟨.inr (.inr (.inr (.inr ν))), ?_, Or.inl ⟨ν, rfl, e2⟩⟩
    rw [e28]
    simp only [f_X4_findComing_L7]
    rw [if_pos (by decide)]
def oG : Om → Int32 → Int32
  | none, _ => -1
  | some x, g => if g = 0 then nI x.1 else if g = 1 then nI x.2.1 else x.2.2
theorem c_comes {p f v : Nat} {g : Int32} (h : IC X i c s μ) (hp : p < s.1 0 0) (hf : f < s.1 0 1) (hv : v < 8) (hg : inR g 3) : ∃ μ1, f_X10_comes X (nI p) (nI f) (nI v) g μ = some (oG (rOut s.1 (dr s.1 s.2.1) v.testBit (fun _ => false) f p 28) g, μ1) := by
  have h1 := h.1.1
  obtain ⟨ok, ht, hct, -, hsp, h15⟩ := h.2.1
  have od := dr_ok ok ht
  have hn := ok.1.1
  have hn1 := ok.1.2.1
  obtain ⟨g1, g2⟩ := sp_tr h s.2.1 ht
  obtain ⟨k1, k2, k3⟩ := sp_sf (us := fun _ => false) ok g2 hf hv
  rw [nz] at k1
  obtain ⟨ν, hx⟩ := c_findC (p := p) ok od hf (show PF X c s.1 (dr s.1 s.2.1) f v.testBit (fun _ => false) _ from ⟨k2, k3⟩) (by omega)
  unfold f_X10_comes
  rw [if_pos (by rw [mk_0 h1]), cb_p h.1, ob, e_isPerson' (cb_w h.1) hct ok, ob, bz_if, if_pos (inR_nI hp (by omega)), ob, e_isFact' (cb_w h.1) hct ok, ob, bz_if, if_pos (inR_nI hf (by omega)), c_areWays, ob, bz_if, if_pos (inR_nI hv (by decide)), show (2 : Int32) = nI 2 from rfl, two_ends2 (by decide), if_pos hg, rp_0_3 h1, ob, rf_0 h1, ob, h15, g1, ob, rp_0_3 g2.1.1, ob, k1, ob, rp_0_3 k2.1.1, ob]
  cases e : rOut s.1 (dr s.1 s.2.1) v.testBit (fun _ => false) f p 28 with
  | none =>
    rw [e] at hx
    rw [hx, ob, if_pos rfl]
    exact ⟨ν, rfl⟩
  | some x =>
    rw [e] at hx
    obtain ⟨x1, x2, x3, x4, x5⟩ := hx
    rw [x1, ob, if_neg (show ¬ (1 : Int32) = 0 by decide), rp_0_3 x2, ob, rf_58 x2, ob, x3, ob, rf_58 x2, ob, x4, ob, rf_58 x2, ob, x5]
    refine ⟨ν, ?_⟩
    show _ = some (if g = 0 then nI x.1 else if g = 1 then nI x.2.1 else x.2.2, ν)
    split
    · rfl
    · split <;> rfl
theorem IR_38 {p f : Int32} (h : IR X s μ) : IR X s (ms_I (ms_I μ (X + 90) 38 p) (X + 90) 39 f) ∧ ChM X μ (ms_I (ms_I μ (X + 90) 38 p) (X + 90) 39 f) := by
  refine ⟨IR_scr h.1 (fun k hk => ?_) (by rfl) (fun q g1 g2 g3 => ?_) (fun _ _ _ _ => by rfl) h, ChM_t (ChM_I (by unfold inM; omega)) (ChM_I (by unfold inM; omega))⟩
  · unfold fdM at hk
    rw [rI, if_neg (by omega), rI, if_neg (by omega)]
  · rw [iI, if_neg g3, iI, if_neg g3]
theorem r_comes {p f v : Nat} {g : Int32} (ok : OkT s.1) (ht : s.2.1 < (EN s.1).length) (hν : IR X s μ) (hp : p < s.1 0 0) (hf : f < s.1 0 1) (hv : v < 8) (hg : inR g 3) : ∃ π, f_X11_comes_ (X + 90) (nI p) (nI f) (nI v) g μ = some (oG (rOut s.1 (dr s.1 s.2.1) v.testBit (fun _ => false) f p 28) g, π) ∧ IR X s π ∧ ChM X μ π := by
  have od := dr_ok ok ht
  have hn := ok.1.1
  have hn1 := ok.1.2.1
  obtain ⟨j1, j2⟩ := IR_38 (p := nI p) (f := nI f) hν
  have m8 : mm_I (ms_I (ms_I μ (X + 90) 38 (nI p)) (X + 90) 39 (nI f)) (X + 90) 38 = nI p := by rw [rI, if_neg (by omega), rI, if_pos ⟨rfl, rfl⟩]
  have m9 : mm_I (ms_I (ms_I μ (X + 90) 38 (nI p)) (X + 90) 39 (nI f)) (X + 90) 39 = nI f := by rw [rI, if_pos ⟨rfl, rfl⟩]
  unfold f_X11_comes_
  rw [if_pos (by rw [mk_90 hν.1]), r_isPerson hν.1 hν.2.1.1 ok, ob, bz_if, if_pos (inR_nI hp (by omega)), r_isFact hν.1 hν.2.1.1 ok, ob, bz_if, if_pos (inR_nI hf (by omega)), r_areWays, ob, bz_if, if_pos (inR_nI hv (by decide)), show (2 : Int32) = nI 2 from rfl, e_inK (by decide), ob, bz_if, if_pos hg, wf_90 hν.1, ob, wf_90 (shI' hν.1 _ _ _), ob]
  generalize ms_I (ms_I μ (X + 90) 38 (nI p)) (X + 90) 39 (nI f) = ρ at j1 j2 m8 m9 ⊢
  obtain ⟨a, hl⟩ := e_live (us := fun _ => false) j1.1 j1.2.1.1 ok od (dr_R ok ht) (by rw [nz]; exact j1.2.1.2.2.2.2.1) (show 27 < 28 by decide) hv true
  replace hl : f_X11_live (X + 90) (lN (rwT s.1 s.2.1)) (27 : Int32) (nI v) 1 ρ = some (m_kn X (k_run s.1 (dr s.1 s.2.1) v.testBit (fun _ => false) (k_0, o_fg (mm_I ρ (X + 90))) 28) a ρ) := hl
  have hkn := IR_kn (κ := k_run s.1 (dr s.1 s.2.1) v.testBit (fun _ => false) (k_0, o_fg (mm_I ρ (X + 90))) 28) (a := a) j1 (fun k hk => by rw [k_run_o (by omega)]; exact fg_o (by omega))
  have tk := Tk_run (w := v.testBit) (us := fun _ => false) (p := p) (f := f) (o := mm_I ρ (X + 90)) ok od (by omega) hf m8 m9 28 (Nat.le_refl _)
  rw [rp_90_34 j1.1, ob, rf_90 j1.1, ob, j1.2.1.2.2.2.1, r_row j1.1 j1.2.1 ok ht, ob, hl, ob]
  refine ⟨_, ?_, hkn.1, ChM_t j2 hkn.2⟩
  generalize k_run s.1 (dr s.1 s.2.1) v.testBit (fun _ => false) (k_0, o_fg (mm_I ρ (X + 90))) 28 = κ at tk hkn ⊢
  have hS : Sh X (m_kn X κ a ρ) := kn_s j1.1
  rw [rf_90 hS, ob, rf_90 hS, ob, rf_90 hS, ob, kn_90]
  cases e : rOut s.1 (dr s.1 s.2.1) v.testBit (fun _ => false) f p 28 with
  | none =>
    rw [e] at tk
    rw [tk.2.2.2.1, tk.2.2.2.2.1, tk.2.2.2.2.2]
    show _ = some (-1, _)
    split
    · rfl
    · split <;> rfl
  | some x =>
    rw [e] at tk
    rw [tk.2.2.2.2.1, tk.2.2.2.2.2.1, tk.2.2.2.2.2.2]
    show _ = some (if g = 0 then nI x.1 else if g = 1 then nI x.2.1 else x.2.2, _)
    split
    · rfl
    · split <;> rfl
theorem k_comes (a1 a2 a3 g : Int32) (h0 : mm_K μ b = (19, L) ∧ mm_I μ b = xs ∧ b < X) (h : IC X i c s μ) (hR : IR X s μ) : ∃ r μ1 μ2, f_X10_comes X a1 a2 a3 g μ = some (r, μ1) ∧ f_X11_comes_ (X + 90) a1 a2 a3 g μ1 = some (r, μ2) ∧ Inv b L xs X (i + 1) μ2 ∧ (mm_K μ1 b = (19, L) ∧ mm_I μ1 b = xs) := by
  have h1 := h.1.1
  obtain ⟨ok, ht, hct, -, hsp, h15⟩ := h.2.1
  have hn := ok.1.1
  have hn1 := ok.1.2.1
  by_cases e : inR a1 (s.1 0 0) ∧ inR a2 (s.1 0 1) ∧ inR a3 8 ∧ inR g 3
  · obtain ⟨e1, e2, e3, e4⟩ := e
    obtain ⟨p, hp, rfl⟩ := inR_ex e1 (by omega)
    obtain ⟨f, hf, rfl⟩ := inR_ex e2 (by omega)
    obtain ⟨v, hv, rfl⟩ := inR_ex e3 (by decide)
    obtain ⟨μ1, hx⟩ := c_comes h hp hf hv e4
    have hst := IC_sp h (p_X10_comes hx) (t_X10_comes hx) (fun q k1 k2 k3 => i_X10_comes hx (fr_sp h1 k1 k2 k3)) (fun q => j_X10_comes hx)
    exact both h0 hR hx hst.1 hst.2 (fun hν => r_comes ok ht hν hp hf hv e4)
  · refine both h0 hR (r := -2) (μ1 := μ) ?_ (IC_up h) (ChC_r _ _) (fun hν => ⟨_, ?_, hν, ChM_r _ _⟩)
    · unfold f_X10_comes
      rw [if_pos (by rw [mk_0 h1]), cb_p h.1, ob, e_isPerson' (cb_w h.1) hct ok, ob, bz_if, ob, e_isFact' (cb_w h.1) hct ok, ob, bz_if, c_areWays, ob, bz_if, show (2 : Int32) = nI 2 from rfl, two_ends2 (by decide)]
      by_cases e1 : inR a1 (s.1 0 0)
      · rw [if_pos e1]
        by_cases e2 : inR a2 (s.1 0 1)
        · rw [if_pos e2]
          by_cases e3 : inR a3 8
          · rw [if_pos e3, if_neg (fun e4 => e ⟨e1, e2, e3, e4⟩)]
          · rw [if_neg e3]
        · rw [if_neg e2]
      · rw [if_neg e1]
    · unfold f_X11_comes_
      rw [if_pos (by rw [mk_90 hν.1]), r_isPerson hν.1 hν.2.1.1 ok, ob, bz_if, r_isFact hν.1 hν.2.1.1 ok, ob, bz_if, r_areWays, ob, bz_if, show (2 : Int32) = nI 2 from rfl, e_inK (by decide), ob, bz_if]
      by_cases e1 : inR a1 (s.1 0 0)
      · rw [if_pos e1]
        by_cases e2 : inR a2 (s.1 0 1)
        · rw [if_pos e2]
          by_cases e3 : inR a3 8
          · rw [if_pos e3, if_neg (fun e4 => e ⟨e1, e2, e3, e4⟩)]
          · rw [if_neg e3]
        · rw [if_neg e2]
      · rw [if_neg e1]
end CALLS
