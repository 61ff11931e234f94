/-! ===== a town's text: the model reads ===== -/
def TkM (X n : Nat) (B : Nat → Nat) (x : Nat) (μ : Mm) : Prop := mm_I μ (X + 90) 3 = nI (kR (tk n B x)) ∧ mm_I μ (X + 90) 5 = nI (tP n B x) ∧ mm_I μ (X + 90) 6 = nI (tN n B x) ∧ mm_I μ (X + 90) 4 = oI (tQ n B x) ∧ (tk n B x = 1 → mm_L μ (X + 90) 10 = tW n B x) ∧ (tk n B x = 2 → mm_I μ (X + 90) 7 = nI (tv n B x))
def MT (X n : Nat) (B : Nat → Nat) (x : Nat) (μ : Mm) : Prop := (Sh X μ ∧ HS μ ∧ RTp X n B μ) ∧ TkM X n B x μ ∧ x ≤ n
def FrM (X : Nat) (μ ν : Mm) : Prop := mm_P ν = mm_P μ ∧ tl ν = tl μ ∧ (∀ q, q ≠ X + 90 → q < X + 92 ∨ X + 109 < q → mm_I ν q = mm_I μ q) ∧ (∀ q, q ≠ X + 90 → q ≠ X + 93 → mm_L ν q = mm_L μ q) ∧ (∀ k, k < 3 ∨ (12 ≤ k ∧ k ≠ 31) → mm_I ν (X + 90) k = mm_I μ (X + 90) k) ∧ (∀ k, k ≠ 10 → mm_L ν (X + 90) k = mm_L μ (X + 90) k) ∧ ∀ T, OkT T → MTn (X + 90) 0 T μ → MTn (X + 90) 0 T ν
/-- one cell written, and tokens read -/
def FrW (X a k : Nat) (v : Int32) (μ ν : Mm) : Prop := mm_P ν = mm_P μ ∧ tl ν = tl μ ∧ mm_I ν a = u1 (mm_I μ a) k v ∧ (∀ q, q ≠ X + 90 → q ≠ a → mm_I ν q = mm_I μ q) ∧ (∀ q, q ≠ X + 90 → mm_L ν q = mm_L μ q) ∧ (∀ k, k < 3 ∨ (7 < k ∧ k ≠ 11) → mm_I ν (X + 90) k = mm_I μ (X + 90) k) ∧ ∀ k, k ≠ 10 → mm_L ν (X + 90) k = mm_L μ (X + 90) k
def MDr (X : Nat) (s : Drf) (μ : Mm) : Prop := MTn (X + 90) 1 s.1 μ ∧ (∀ k, k < s.1 0 0 → mm_L μ (X + 93) k = s.2.1 k) ∧ ∃ o, mm_I μ (X + 90) 31 = nI o ∧ o < 512 ∧ (∀ t, t = 6 ∨ t = 7 ∨ t = 8 → o.testBit t = s.2.2 t) ∧ mm_I μ (X + 90) 8 = 0 ∧ mm_I μ (X + 90) 9 = -1
def MS (X n : Nat) (B : Nat → Nat) (s : Drf) (x : Nat) (μ : Mm) : Prop := MT X n B x μ ∧ OkT s.1 ∧ MDr X s μ
def FltM (X : Nat) (e : Nat × Nat) (μ : Mm) : Prop := mm_I μ (X + 90) 8 = nI e.1 ∧ mm_I μ (X + 90) 9 = nI e.2
def MOut (X n : Nat) (B : Nat → Nat) (μ : Mm) (r : Option (Int32 × Mm)) (e : Er (Drf × Nat)) : Prop := match e with
  | .inl f => ∃ ν, r = some ((0 : Int32), ν) ∧ FrM X μ ν ∧ FltM X f ν
  | .inr z => ∃ ν, r = some ((1 : Int32), ν) ∧ FrM X μ ν ∧ MS X n B z.1 z.2 ν
section MRD
variable {X n x : Nat} {B : Nat → Nat} {s : Drf} {μ ν ρ : Mm}
theorem FrM_r : FrM X μ μ := ⟨rfl, rfl, fun _ _ _ => rfl, fun _ _ _ => rfl, fun _ _ => rfl, fun _ _ => rfl, fun _ _ h => h⟩
theorem FrM_t (h : FrM X μ ν) (h' : FrM X ν ρ) : FrM X μ ρ := ⟨h'.1.trans h.1, h'.2.1.trans h.2.1, fun q a b => (h'.2.2.1 q a b).trans (h.2.2.1 q a b), fun q a b => (h'.2.2.2.1 q a b).trans (h.2.2.2.1 q a b), fun k a => (h'.2.2.2.2.1 k a).trans (h.2.2.2.2.1 k a), fun k a => (h'.2.2.2.2.2.1 k a).trans (h.2.2.2.2.2.1 k a), fun T o m => h'.2.2.2.2.2.2 T o (h.2.2.2.2.2.2 T o m)⟩
theorem FrM_s (h : FrS X μ ν) : FrM X μ ν := ⟨h.1, h.2.1, fun q a _ => h.2.2.1 q a, fun q a _ => h.2.2.2.1 q a, fun k hk => h.2.2.2.2.1 k (by omega), h.2.2.2.2.2, fun T _ m => mtn_x (fun q a _ => h.2.2.1 q (by omega)) m⟩
theorem FrM_90 {k : Nat} {v : Int32} (hk : (3 ≤ k ∧ k < 12) ∨ k = 31) : FrM X μ (ms_I μ (X + 90) k v) := ⟨rfl, rfl, fun q a _ => by rw [iI, if_neg a], fun _ _ _ => rfl, fun j hj => by rw [rI, if_neg (by omega)], fun _ _ => rfl, fun T _ m => mtn_x (fun q a _ => by rw [iI, if_neg (by omega)]) m⟩
theorem FrM_L {k : Nat} {v : Int64} : FrM X μ (ms_L μ (X + 93) k v) := ⟨rfl, rfl, fun _ _ _ => rfl, fun q _ b => by rw [lL, if_neg b], fun _ _ => rfl, fun k _ => by rw [rL, if_neg (by omega)], fun T _ m => m⟩
/-- a cell of the draft's half -/
def hlf (r k : Nat) : Prop := (r = 2 ∧ 11 ≤ k) ∨ (r = 4 ∧ 8 ≤ k) ∨ ((r = 5 ∨ r = 6) ∧ 12 ≤ k) ∨ (7 ≤ r ∧ r ≤ 19 ∧ 8 ≤ k)
theorem mtn_h {r k : Nat} {T : Tn} (ok : OkT T) (hr : hlf r k) (hI : ∀ q j, X + 92 ≤ q → q ≤ X + 109 → (q = X + 90 + r → j ≠ k) → mm_I ν q j = mm_I μ q j) (h : MTn (X + 90) 0 T μ) : MTn (X + 90) 0 T ν := by
  obtain ⟨h1, h2, h3, h4, h5, h6, h7, h8⟩ := h
  have o := ok.1
  unfold hlf at hr
  refine ⟨fun j hj => ?_, fun j hj => ?_, fun j hj => ?_, fun j hj => ?_, fun j hj => ?_, fun j hj => ?_, fun j hj => ?_, fun j hj => ?_⟩
  · rw [hI _ _ (by omega) (by omega) (by omega)]; exact h1 j hj
  · rw [hI _ _ (by omega) (by omega) (by omega)]; exact h2 j hj
  · rw [hI _ _ (by omega) (by omega) (by omega), hI _ _ (by omega) (by omega) (by omega)]; exact h3 j hj
  · rw [hI _ _ (by omega) (by omega) (by omega), hI _ _ (by omega) (by omega) (by omega), hI _ _ (by omega) (by omega) (by omega)]; exact h4 j hj
  · rw [hI _ _ (by omega) (by omega) (by omega), hI _ _ (by omega) (by omega) (by omega)]; exact h5 j hj
  · rw [hI _ _ (by omega) (by omega) (by omega), hI _ _ (by omega) (by omega) (by omega), hI _ _ (by omega) (by omega) (by omega)]; exact h6 j hj
  · rw [hI _ _ (by omega) (by omega) (by omega), hI _ _ (by omega) (by omega) (by omega), hI _ _ (by omega) (by omega) (by omega), hI _ _ (by omega) (by omega) (by omega)]; exact h7 j hj
  · rw [hI _ _ (by omega) (by omega) (by omega)]; exact h8 j hj
theorem hlf_b {r k : Nat} (h : hlf r k) : 2 ≤ r ∧ r ≤ 19 := by unfold hlf at h; omega
theorem FrM_W {r k : Nat} {v : Int32} (hr : hlf r k) (h : FrW X (X + 90 + r) k v μ ν) : FrM X μ ν := by
  obtain ⟨h1, h2, h3, h4, h5, h6, h7⟩ := h
  have hb := hlf_b hr
  refine ⟨h1, h2, fun q a b => h4 q a (by omega), fun q a _ => h5 q a, fun k hk => h6 k (by omega), h7, fun T ok m => mtn_h ok hr (fun q j a b c => ?_) m⟩
  by_cases e : q = X + 90 + r
  · rw [e, h3, u1_n _ _ (c e)]
  · rw [h4 q (by omega) e]
theorem FrM_I {r k : Nat} {v : Int32} (hr : hlf r k) : FrM X μ (ms_I μ (X + 90 + r) k v) := by
  have hb := hlf_b hr
  refine ⟨rfl, rfl, fun q a b => by rw [iI, if_neg (by omega)], fun _ _ _ => rfl, fun j hj => by rw [rI, if_neg (by omega)], fun _ _ => rfl, fun T ok m => mtn_h ok hr (fun q j a b c => ?_) m⟩
  rw [rI, if_neg (fun z => c z.1 z.2)]
theorem FrM_sh (h : FrM X μ ν) (hs : Sh X μ) : Sh X ν := sh_x h.1 h.2.1 hs
theorem FrM_S (h : tl ν = tl μ) (hs : HS μ) : HS ν := by
  have e : mm_S ν = mm_S μ := congrArg (fun t => t.2.1) h
  unfold HS
  rw [e]
  exact hs
theorem FrM_tp (h : FrM X μ ν) (ht : RTp X n B μ) : RTp X n B ν := ⟨by rw [h.2.2.2.2.1 2 (by omega)]; exact ht.1, ht.2.1, ht.2.2.1, fun i hi => by rw [h.2.2.1 _ (by omega) (by omega)]; exact ht.2.2.2 i hi⟩
theorem FrM_h (h : FrM X μ ν) (hh : Sh X μ ∧ HS μ ∧ RTp X n B μ) : Sh X ν ∧ HS ν ∧ RTp X n B ν := ⟨FrM_sh h hh.1, FrM_S h.2.1 hh.2.1, FrM_tp h hh.2.2⟩
/-- tokens stay where only rows are written -/
theorem MT_w (f : FrM X μ ν) (h90 : mm_I ν (X + 90) = mm_I μ (X + 90)) (hL : mm_L ν (X + 90) = mm_L μ (X + 90)) (h : MT X n B x μ) : MT X n B x ν := by
  obtain ⟨h1, h2, h3⟩ := h
  refine ⟨FrM_h f h1, ?_, h3⟩
  unfold TkM at h2 ⊢
  rw [h90, hL]
  exact h2
theorem MOl {r : Option (Int32 × Mm)} {f : Nat × Nat} (h1 : r = some ((0 : Int32), ν)) (h2 : FrM X μ ν) (h3 : FltM X f ν) : MOut X n B μ r (.inl f) := by
  unfold MOut
  exact ⟨ν, h1, h2, h3⟩
theorem MOr {r : Option (Int32 × Mm)} {y : Nat} (h1 : r = some ((1 : Int32), ν)) (h2 : FrM X μ ν) (h3 : MS X n B s y ν) : MOut X n B μ r (.inr (s, y)) := by
  unfold MOut
  exact ⟨ν, h1, h2, h3⟩
theorem MOut_t {r : Option (Int32 × Mm)} {e : Er (Drf × Nat)} (h : FrM X μ ν) (ho : MOut X n B ν r e) : MOut X n B μ r e := by
  cases e with
  | inl f => obtain ⟨ρ, a1, a2, a3⟩ := ho; exact MOl a1 (FrM_t h a2) a3
  | inr z => obtain ⟨ρ, a1, a2, a3⟩ := ho; exact MOr a1 (FrM_t h a2) a3
theorem MOut_b {r : Option (Int32 × Mm)} {e : Er (Drf × Nat)} (h : MOut X n B μ r e) : MOut X n B μ (r.bind fun q => if q.1 = 0 ∨ q.1 = 1 then some (q.1, q.2) else none) e := by
  cases e with
  | inl f => obtain ⟨ρ, a1, a2, a3⟩ := h; exact MOl (by rw [a1, ob, if_pos (Or.inl rfl)]) a2 a3
  | inr z => obtain ⟨ρ, a1, a2, a3⟩ := h; exact MOr (by rw [a1, ob, if_pos (Or.inr rfl)]) a2 a3
theorem MDr_s (f : FrS X μ ν) (h : MDr X s μ) : MDr X s ν := by
  obtain ⟨h1, h2, o, h3, h4⟩ := h
  exact ⟨mtn_x (fun q a _ => f.2.2.1 q (by omega)) h1, fun k hk => by rw [f.2.2.2.1 _ (by omega)]; exact h2 k hk, o, by rw [f.2.2.2.2.1 31 (by omega)]; exact h3, by rw [f.2.2.2.2.1 8 (by omega), f.2.2.2.2.1 9 (by omega)]; exact h4⟩
theorem m_scn (h : MT X n B x μ) : ∃ ν, f_X11_scan (X + 90) μ = some ν ∧ FrS X μ ν ∧ MT X n B (tN n B x) ν := by
  obtain ⟨⟨h1, h2, h3⟩, ⟨k1, k2, k3, k4, k5, k6⟩, hx⟩ := h
  have hx1 := tN_le (B := B) hx
  obtain ⟨ν, a1, a2, a3, a4, a5, a6, a7, a8⟩ := r_scan h1 h3 h2 k3 hx1
  refine ⟨ν, a1, a2, ⟨frs_sh h1 a2, FrM_S a2.2.1 h2, frs_tp h3 a2⟩, ⟨a3, a4, a5, ?_, fun e => (a6 e).2, a8⟩, hx1⟩
  unfold tQ
  by_cases e : tk n B (tN n B x) = 1
  · rw [if_pos e]; exact (a6 e).1
  · rw [if_neg e]; exact a7 e
theorem m_fl {v : Nat} (h : MT X n B x μ) : ∃ ν, f_X11_fails (X + 90) (nI v) μ = some (0, ν) ∧ FrM X μ ν ∧ FltM X (v, tP n B x) ν := by
  refine ⟨_, r_fails h.1.1, FrM_t (FrM_90 (by omega)) (FrM_90 (by omega)), ?_, ?_⟩
  · rw [rI, if_neg (by omega), rI, if_pos ⟨rfl, rfl⟩]
  · rw [rI, if_pos ⟨rfl, rfl⟩]; exact h.2.1.2.1
theorem m_flo {v : Nat} (h : MT X n B x μ) : MOut X n B μ (f_X11_fails (X + 90) (nI v) μ) (.inl (v, tP n B x)) := by
  obtain ⟨ν, a1, a2, a3⟩ := m_fl (v := v) h
  exact MOl a1 a2 a3
theorem mr1 {j : Nat} {T : Tn} (hj : j < 11) (h : Sh X μ) (hm : MTn (X + 90) 1 T μ) : ga_I (X + 92) (nI (11 + j)) μ = some (nI (T 0 j)) := (ra_92 (i := 11 + j) h (by omega)).trans (congrArg some (hm.1 j hj))
theorem m_nmd (h : Sh X μ) (ok : OkT s.1) (hd : MDr X s μ) {w : Int64} (hw : mm_L μ (X + 90) 10 = w) : f_X11_named (X + 90) μ = some (oI (nmd s w)) := by
  have n8 := ok.1.1
  unfold f_X11_named
  rw [if_pos (by rw [mk_90 h])]
  have e0 : ga_I (X + 92) 11 μ = some (nI (s.1 0 0)) := mr1 (j := 0) (by decide) h hd.1
  have hst : ∀ k, k < s.1 0 0 → f_X11_named_L2 (X + 90) μ (nI k) = if s.2.1 k = w then some (.inr (.inl (nI k))) else some (.inl (nI (k + 1))) := by
    intro k hk
    simp only [f_X11_named_L2]
    rw [rp_90_12 h, ob, e0, ob, if_neg (by rw [nI_le_i (by omega) (by omega)]; omega), rp_90_13 h, ob, e_gaL (mk_93 h) (by omega) (by decide), ob, hd.2.1 k hk, rl_90 h, ob, hw, ob, nI_1]
    by_cases e : s.2.1 k = w
    · rw [if_pos ((lg_cmp_eq _ _).mpr e), if_pos e]
    · rw [if_neg (fun z => e ((lg_cmp_eq _ _).mp z)), if_neg e]
  refine (whl_fb (s.1 0 0) (fun k => nI k) (fun k => s.2.1 k == w) (fun k => .inl (nI k)) (b := .inr ()) rfl (fun k hk hq => ?_) (fun k hk hq => ?_) ?_).trans ?_
  · rw [hst k hk, if_neg (by simpa using hq)]
  · rw [hst k hk, if_pos (by simpa using hq)]
  · simp only [f_X11_named_L2]
    rw [rp_90_12 h, ob, e0, ob, if_pos (nI_le (Nat.le_refl _) (by omega))]
  · unfold nmd
    cases ff (fun k => s.2.1 k == w) (s.1 0 0) <;> rfl
theorem kRa {k : Nat} (h : k ≤ 4) : (nI (kR k) = (1 : Int32)) = (k = 1) := by
  have key : ∀ k, k ≤ 4 → decide (nI (kR k) = (1 : Int32)) = decide (k = 1) := by decide +kernel
  have := key k h
  exact propext (by simpa using this)
theorem kRb {k : Nat} (h : k ≤ 4) : (nI (kR k) = (2 : Int32)) = (k = 2) := by
  have key : ∀ k, k ≤ 4 → decide (nI (kR k) = (2 : Int32)) = decide (k = 2) := by decide +kernel
  have := key k h
  exact propext (by simpa using this)
theorem kRc {k : Nat} (h : k ≤ 4) : (nI (kR k) = (3 : Int32)) = (k = 3) := by
  have key : ∀ k, k ≤ 4 → decide (nI (kR k) = (3 : Int32)) = decide (k = 3) := by decide +kernel
  have := key k h
  exact propext (by simpa using this)
theorem kRd {k : Nat} (h : k ≤ 4) : (nI (kR k) = (4 : Int32)) = (k = 0) := by
  have key : ∀ k, k ≤ 4 → decide (nI (kR k) = (4 : Int32)) = decide (k = 0) := by decide +kernel
  have := key k h
  exact propext (by simpa using this)
theorem m_who {r k L : Nat} (h : MT X n B x μ) (ok : OkT s.1) (hd : MDr X s μ) (hr : hlf r k) (hK : mm_K μ (X + 90 + r) = (20, L)) (hL : L < 2 ^ 31) (hk : k < L) : (∀ e, rdN n B s x = .inl e → ∃ ν, f_X11_readWho (X + 90) (X + 90 + r) (nI k) μ = some (0, ν) ∧ FrM X μ ν ∧ FltM X e ν) ∧ (∀ p, rdN n B s x = .inr p → ∃ ν, f_X11_readWho (X + 90) (X + 90 + r) (nI k) μ = some (1, ν) ∧ FrW X (X + 90 + r) k (nI p) μ ν ∧ MT X n B (tN n B x) ν) := by
  have h1 := h.1.1
  have n8 := ok.1.1
  have hb := hlf_b hr
  obtain ⟨z, hz⟩ : ∃ z, z = f_X11_readWho (X + 90) (X + 90 + r) (nI k) μ := ⟨_, rfl⟩
  have body := hz
  unfold f_X11_readWho at body
  rw [if_pos (by rw [mk_90 h1]), rf_90 h1, ob, h.2.1.1] at body
  unfold rdN
  by_cases e1 : tk n B x = 1
  · rw [if_pos e1]
    rw [if_pos (by rw [kRa tk_le]; exact e1), m_nmd h1 ok hd (h.2.1.2.2.2.2.1 e1), ob] at body
    cases e2 : nmd s (tW n B x) with
    | none =>
      obtain ⟨π, b1, b2, b3⟩ := m_fl (v := 5) h
      replace b1 : f_X11_fails (X + 90) 5 μ = some (0, π) := b1
      rw [e2, if_pos (show oI none = -1 from rfl), b1, ob, if_pos (Or.inl rfl)] at body
      exact ⟨fun e he => by cases he; exact ⟨π, hz.symm.trans body, b2, b3⟩, fun p hp => by cases hp⟩
    | some p =>
      have hp := (ff_some.mp e2).1
      rw [e2, if_neg (show ¬ oI (some p) = -1 from neg1_ne (by omega)), show oI (some p) = nI p from rfl, e_paI hK hk hL, ob] at body
      have hM : MT X n B x (ms_I μ (X + 90 + r) k (nI p)) := MT_w (FrM_I hr) (by rw [iI, if_neg (by omega)]) rfl h
      obtain ⟨ν, a1, a2, a3⟩ := m_scn hM
      rw [a1, ob] at body
      refine ⟨fun e he => by (cases he), fun q hq => ?_⟩
      cases hq
      refine ⟨ν, hz.symm.trans body, ⟨a2.1, a2.2.1, by rw [a2.2.2.1 _ (by omega), iI, if_pos rfl], fun q g1 g2 => by rw [a2.2.2.1 q g1, iI, if_neg g2], fun q g1 => by rw [a2.2.2.2.1 q g1]; rfl, fun j hj => by rw [a2.2.2.2.2.1 j (by omega), rI, if_neg (by omega)], fun j hj => by rw [a2.2.2.2.2.2 j hj]; rfl⟩, a3⟩
  · rw [if_neg e1]
    obtain ⟨π, b1, b2, b3⟩ := m_fl (v := 1) h
    replace b1 : f_X11_fails (X + 90) 1 μ = some (0, π) := b1
    rw [if_neg (by rw [kRa tk_le]; exact e1), b1, ob, if_pos (Or.inl rfl)] at body
    exact ⟨fun e he => by cases he; exact ⟨π, hz.symm.trans body, b2, b3⟩, fun p hp => by cases hp⟩
/-- a number: it is kept in the field 11 -/
theorem m_num {lo hi : Nat} (h : MT X n B x μ) (hl : lo < 10000) (hh : hi < 10000) : (∀ e, rdB n B lo hi x = .inl e → ∃ ν, f_X11_readNumber (X + 90) (nI lo) (nI hi) μ = some (0, ν) ∧ FrM X μ ν ∧ FltM X e ν) ∧ (∀ v, rdB n B lo hi x = .inr v → ∃ ν, f_X11_readNumber (X + 90) (nI lo) (nI hi) μ = some (1, ν) ∧ FrS X (ms_I μ (X + 90) 11 (nI v)) ν ∧ mm_I ν (X + 90) 11 = nI v ∧ MT X n B (tN n B x) ν) := by
  have h1 := h.1.1
  obtain ⟨z, hz⟩ : ∃ z, z = f_X11_readNumber (X + 90) (nI lo) (nI hi) μ := ⟨_, rfl⟩
  have body := hz
  unfold f_X11_readNumber at body
  rw [if_pos (by rw [mk_90 h1]), rf_90 h1, ob, h.2.1.1] at body
  unfold rdB
  by_cases e1 : tk n B x = 2
  · have hv := tv_lt h.2.2 e1
    rw [if_pos e1]
    rw [if_pos (by rw [kRb tk_le]; exact e1), rf_90 h1, ob, h.2.1.2.2.2.2.2 e1, e_in, ob] at body
    by_cases e2 : lo ≤ tv n B x ∧ tv n B x ≤ hi
    · rw [if_pos e2]
      have hb : bz (nI lo ≤ nI (tv n B x) ∧ nI (tv n B x) ≤ nI hi) = 1 := by
        unfold bz
        rw [if_pos (by rw [nI_le_i (by omega) (by omega), nI_le_i (by omega) (by omega)]; exact e2)]
      rw [hb, if_neg (by decide), ob, wf_90 h1, ob] at body
      have hM : MT X n B x (ms_I μ (X + 90) 11 (nI (tv n B x))) := by
        obtain ⟨q1, ⟨t1, t2, t3, t4, t5, t6⟩, q3⟩ := h
        refine ⟨FrM_h (FrM_90 (by omega)) q1, ⟨?_, ?_, ?_, ?_, t5, fun e => ?_⟩, q3⟩
        · rw [rI, if_neg (by omega)]; exact t1
        · rw [rI, if_neg (by omega)]; exact t2
        · rw [rI, if_neg (by omega)]; exact t3
        · rw [rI, if_neg (by omega)]; exact t4
        · rw [rI, if_neg (by omega)]; exact t6 e
      obtain ⟨ν, a1, a2, a3⟩ := m_scn hM
      rw [a1, ob] at body
      refine ⟨fun e he => by (cases he), fun q hq => ?_⟩
      cases hq
      exact ⟨ν, hz.symm.trans body, a2, by rw [a2.2.2.2.2.1 11 (by omega), rI, if_pos ⟨rfl, rfl⟩], a3⟩
    · rw [if_neg e2]
      have hb : bz (nI lo ≤ nI (tv n B x) ∧ nI (tv n B x) ≤ nI hi) = 0 := by
        unfold bz
        rw [if_neg (by rw [nI_le_i (by omega) (by omega), nI_le_i (by omega) (by omega)]; exact e2)]
      obtain ⟨π, b1, b2, b3⟩ := m_fl (v := 2) h
      replace b1 : f_X11_fails (X + 90) 2 μ = some (0, π) := b1
      rw [hb, if_pos rfl, b1, ob, if_pos (Or.inl rfl)] at body
      exact ⟨fun e he => by cases he; exact ⟨π, hz.symm.trans body, b2, b3⟩, fun p hp => by cases hp⟩
  · rw [if_neg e1]
    obtain ⟨π, b1, b2, b3⟩ := m_fl (v := 1) h
    replace b1 : f_X11_fails (X + 90) 1 μ = some (0, π) := b1
    rw [if_neg (by rw [kRb tk_le]; exact e1), b1, ob, if_pos (Or.inl rfl)] at body
    exact ⟨fun e he => by cases he; exact ⟨π, hz.symm.trans body, b2, b3⟩, fun p hp => by cases hp⟩
theorem m_int {lo hi r k L : Nat} (h : MT X n B x μ) (hl : lo < 10000) (hh : hi < 10000) (hr : hlf r k) (hK : mm_K μ (X + 90 + r) = (20, L)) (hL : L < 2 ^ 31) (hk : k < L) : (∀ e, rdB n B lo hi x = .inl e → ∃ ν, f_X11_readInto (X + 90) (X + 90 + r) (nI k) (nI lo) (nI hi) μ = some (0, ν) ∧ FrM X μ ν ∧ FltM X e ν) ∧ (∀ v, rdB n B lo hi x = .inr v → ∃ ν, f_X11_readInto (X + 90) (X + 90 + r) (nI k) (nI lo) (nI hi) μ = some (1, ν) ∧ FrW X (X + 90 + r) k (nI v) μ ν ∧ MT X n B (tN n B x) ν) := by
  have h1 := h.1.1
  have hb := hlf_b hr
  obtain ⟨A1, A2⟩ := m_num (lo := lo) (hi := hi) h hl hh
  unfold f_X11_readInto
  refine ⟨fun e he => ?_, fun v hv => ?_⟩
  · obtain ⟨ν, a1, a2, a3⟩ := A1 e he
    exact ⟨ν, by rw [if_pos (by rw [mk_90 h1]), a1, ob, if_pos rfl], a2, a3⟩
  · obtain ⟨ν, a1, a2, a3, a4⟩ := A2 v hv
    have g1 := a4.1.1
    refine ⟨ms_I ν (X + 90 + r) k (nI v), ?_, ⟨a2.1, a2.2.1, ?_, fun q g1 g2 => ?_, fun q g1 => ?_, fun j hj => ?_, fun j hj => ?_⟩, MT_w (FrM_I hr) (by rw [iI, if_neg (by omega)]) rfl a4⟩
    · rw [if_pos (by rw [mk_90 h1]), a1, ob, if_neg one_ne, rf_90 g1, ob, a3, e_paI (by rw [tl_K a2.2.1]; exact hK) hk hL, ob]
    · rw [iI, if_pos rfl, a2.2.2.1 _ (by omega), iI, if_neg (by omega)]
    · rw [iI, if_neg g2, a2.2.2.1 q g1, iI, if_neg g1]
    · show mm_L ν q = _
      rw [a2.2.2.2.1 q g1]; rfl
    · rw [rI, if_neg (by omega), a2.2.2.2.2.1 j (by omega), rI, if_neg (by omega)]
    · show mm_L ν (X + 90) j = _
      rw [a2.2.2.2.2.2 j hj]; rfl
end MRD
