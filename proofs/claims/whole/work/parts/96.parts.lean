/-! ===== parts ===== -/
def pt : Nat → Nat → Int64
  | 0, 0 => 1
  | 0, _ + 1 => 0
  | 1, _ => 0
  | _ + 2, 0 => 0
  | n + 2, k + 1 => (nI (n + 1)).toInt64 * (pt (n + 1) (k + 1) + pt n k)
theorem pt_0 : ∀ n, pt (n + 1) 0 = 0 := fun n => by cases n <;> rfl
theorem pt_1 (k : Nat) : pt 1 k = 0 := by cases k <;> rfl
theorem pt_00 {k : Nat} (h : k ≠ 0) : pt 0 k = 0 := by
  cases k with
  | zero => exact absurd rfl h
  | succ k => rfl
section CALLS
variable {b L : Nat} {xs : Nat → Int32} {X i c : Nat} {s : Sv} {μ : Mm}
theorem IC_20 {k : Nat} {v : Int64} (h : IC X i c s μ) : IC X i c s (ms_L μ (X + 20) k v) ∧ ChC X μ (ms_L μ (X + 20) k v) := by
  refine ⟨IC_scr (by rfl) (by rfl) (fun q g1 g2 g3 => by rfl) (by rfl) (fun q g1 g2 g3 => ?_) h, fun q hq => by rfl, fun q hq => ?_, fun q hq => ⟨rfl, rfl⟩⟩
  · rw [lL, if_neg g2]
  · rw [lL, if_neg (by unfold inM at hq; omega)]
theorem IR_129 {k : Nat} {v : Int64} (h : IR X s μ) : IR X s (ms_L μ (X + 129) k v) ∧ ChM X μ (ms_L μ (X + 129) k v) := by
  refine ⟨IR_scr h.1 (fun k hk => by rfl) ?_ (fun q g1 g2 g3 => by rfl) (fun q g1 g2 g3 => ?_) h, fun q hq => by rfl, fun q hq => ?_, rfl, rfl⟩
  · rw [lL, if_neg (by omega)]
  · rw [lL, if_neg (show ¬ q = X + 129 from fun e => g2 (by unfold scM; omega))]
  · rw [lL, if_neg (show ¬ q = X + 129 from fun e => hq (by unfold inM; omega))]
theorem c_fill20 (h : IC X i c s μ) : ∃ ν, f_J7_fill_d0a16 (X + 20) (0 : Int64) μ = some ν ∧ IC X i c s ν ∧ ChC X μ ν ∧ ∀ q, q < 231 → mm_L ν (X + 20) q = 0 := by
  unfold f_J7_fill_d0a16
  rw [e_len (mk_20 h.1.1) ⟨by decide, by decide⟩, ob]
  have key := whl_i (body := f_J7_fill_d0a16_L6 (X + 20) (0 : Int64) (nI 231)) 231 (fun k (st : Int32 × Mm) => ∃ ν, st = (nI k, ν) ∧ IC X i c s ν ∧ ChC X μ ν ∧ ∀ q, q < k → mm_L ν (X + 20) q = 0) (Q := fun ν => IC X i c s ν ∧ ChC X μ ν ∧ ∀ q, q < 231 → mm_L ν (X + 20) q = 0) (s0 := ((0 : Int32), μ)) ⟨μ, rfl, h, ChC_r _ _, fun q hq => by omega⟩ ?_ ?_
  · obtain ⟨ν, k1, k2⟩ := key
    exact ⟨ν, by rw [k1, ob], k2⟩
  · rintro k st hk ⟨ν, rfl, e1, e2, e3⟩
    refine ⟨(nI (k + 1), ms_L ν (X + 20) k 0), ?_, _, rfl, (IC_20 e1).1, ChC_t e2 (IC_20 e1).2, fun q hq => ?_⟩
    · simp only [f_J7_fill_d0a16_L6]
      rw [if_neg (by rw [nI_le_i (by omega) (by omega)]; omega), wa_20 e1.1.1 _ hk, ob, ob, nI_1]
    · rw [rL]
      by_cases e : q = k
      · rw [if_pos ⟨rfl, e⟩]
      · rw [if_neg (fun q' => e q'.2)]; exact e3 q (by omega)
  · rintro st ⟨ν, rfl, e1, e2, e3⟩
    refine ⟨ν, ?_, e1, e2, e3⟩
    simp only [f_J7_fill_d0a16_L6]
    rw [if_pos (by decide)]
/-- the class's table: rows before n, and of row n the first j -/
def TbC (X K n j : Nat) (μ : Mm) : Prop := ∀ m k, m ≤ 20 → k ≤ K → mm_L μ (X + 20) (m * 11 + k) = if m < n ∨ (m = n ∧ k < j) then pt m k else 0
theorem c_prow {N K n : Nat} (h : IC X i c s μ) (hK : K ≤ 10) (hn : n + 2 ≤ 20) (hT : TbC X K (n + 2) 1 μ) : ∃ ν, whl (f_X10_parts_L54 X (nI N) (nI K) (11 : Int32) (nI (n + 2))) ((1 : Int32), μ) = some ν ∧ IC X i c s ν ∧ ChC X μ ν ∧ TbC X K (n + 3) 1 ν := by
  have key := whl_i (body := f_X10_parts_L54 X (nI N) (nI K) (11 : Int32) (nI (n + 2))) K (fun k (st : Int32 × Mm) => ∃ ν, st = (nI (k + 1), ν) ∧ IC X i c s ν ∧ ChC X μ ν ∧ TbC X K (n + 2) (k + 1) ν) (Q := fun ν => IC X i c s ν ∧ ChC X μ ν ∧ TbC X K (n + 3) 1 ν) (s0 := ((1 : Int32), μ)) ⟨μ, rfl, h, ChC_r _ _, hT⟩ ?_ ?_
  · exact key
  · rintro k st hk ⟨ν, rfl, e1, e2, e3⟩
    have h1 := e1.1.1
    have v1 := e3 (n + 1) (k + 1) (by omega) (by omega)
    have v2 := e3 n k (by omega) (by omega)
    rw [if_pos (Or.inl (by omega))] at v1 v2
    refine ⟨(nI (k + 2), ms_L ν (X + 20) ((n + 2) * 11 + (k + 1)) (pt (n + 2) (k + 1))), ?_, _, rfl, (IC_20 e1).1, ChC_t e2 (IC_20 e1).2, fun m k' hm hk' => ?_⟩
    · simp only [f_X10_parts_L54]
      rw [if_neg (by rw [nI_lt_i (by omega) (by omega)]; omega), rp_0_12 h1, ob, show (1 : Int32) = nI 1 from rfl, show (2 : Int32) = nI 2 from rfl, show (11 : Int32) = nI 11 from rfl, pk_sub (by omega : 1 ≤ n + 2), pk_sub (by omega : 2 ≤ n + 2), show n + 2 - 1 = n + 1 by omega, show n + 2 - 2 = n by omega, pk_mul (n + 1) 11, pk_mul n 11, pk_mul (n + 2) 11, nI_add, nI_add, nI_add, ra_20 h1 (by omega), ob, ob, pk_sub (by omega : 1 ≤ n * 11 + (k + 1)), show n * 11 + (k + 1) - 1 = n * 11 + k by omega, ra_20 h1 (by omega), ob, ob, v1, v2, wa_20 h1 _ (by omega), ob, ob, nI_add]
      rfl
    · rw [rL]
      by_cases e : m = n + 2 ∧ k' = k + 1
      · rw [if_pos ⟨rfl, by rw [e.1, e.2]⟩, if_pos (Or.inr ⟨e.1, by omega⟩), e.1, e.2]
      · rw [if_neg (fun q => e (by omega)), e3 m k' hm hk']
        by_cases q : m < n + 2 ∨ (m = n + 2 ∧ k' < k + 1)
        · rw [if_pos q, if_pos (by omega)]
        · rw [if_neg q, if_neg (by omega)]
  · rintro st ⟨ν, rfl, e1, e2, e3⟩
    refine ⟨ν, ?_, e1, e2, fun m k' hm hk' => ?_⟩
    · simp only [f_X10_parts_L54]
      rw [if_pos (nI_lt (by omega) (by omega))]
    · rw [e3 m k' hm hk']
      by_cases q : m < n + 2 ∨ (m = n + 2 ∧ k' < K + 1)
      · rw [if_pos q, if_pos (by omega)]
      · rw [if_neg q]
        by_cases q2 : m = n + 3 ∧ k' = 0
        · rw [if_pos (by omega), q2.1, q2.2, pt_0]
        · rw [if_neg (by omega)]
theorem c_parts {N K : Nat} (h : IC X i c s μ) (hN : N ≤ 20) (hK : K ≤ 10) : ∃ ν, f_X10_parts X (nI N) (nI K) μ = some (pt N K, ν) ∧ IC X i c s ν ∧ ChC X μ ν := by
  have h1 := h.1.1
  obtain ⟨ν0, z1, z2, z3, z4⟩ := c_fill20 h
  have hT0 : TbC X K 2 1 (ms_L ν0 (X + 20) 0 1) := by
    intro m k hm hk
    rw [rL]
    by_cases e : m = 0 ∧ k = 0
    · rw [if_pos ⟨rfl, by omega⟩, if_pos (by omega), e.1, e.2]; rfl
    · rw [if_neg (by omega), z4 _ (by omega)]
      by_cases q : m < 2 ∨ (m = 2 ∧ k < 1)
      · rw [if_pos q]
        by_cases q1 : m = 0
        · rw [q1, pt_00 (by omega)]
        · by_cases q2 : m = 1
          · rw [q2, pt_1]
          · rw [show m = 2 by omega, show k = 0 by omega]; rfl
      · rw [if_neg q]
  unfold f_X10_parts
  rw [if_pos (by rw [mk_0 h1]), show (20 : Int32) = nI 20 from rfl, show (10 : Int32) = nI 10 from rfl, two_ends' (by decide), if_pos (inR_nI (by omega) (by decide)), two_ends2 (by decide), if_pos (inR_nI (by omega) (by decide)), rp_0_12 h1, ob, z1, ob, rp_0_12 z2.1.1, ob, show (0 : Int32) = nI 0 from rfl, wa_20 z2.1.1 _ (by decide), ob]
  have key := whl_e (body := f_X10_parts_L45 X (nI N) (nI K) (11 : Int32)) (N - 1) (fun n (st : Int32 × Mm) => ∃ ν, st = (nI (n + 2), ν) ∧ n + 2 ≤ 22 ∧ IC X i c s ν ∧ ChC X μ ν ∧ TbC X K (n + 2) 1 ν) (Q := fun ν => IC X i c s ν ∧ ChC X μ ν ∧ mm_L ν (X + 20) (N * 11 + K) = pt N K) (s0 := ((2 : Int32), ms_L ν0 (X + 20) 0 1)) ⟨_, rfl, by omega, (IC_20 z2).1, ChC_t z3 (IC_20 z2).2, hT0⟩ ?_ ?_
  · obtain ⟨ν, k1, k2, k3, k4⟩ := key
    refine ⟨ν, ?_, k2, k3⟩
    rw [k1, ob]
    unfold f_X10_parts_J129
    rw [rp_0_12 k2.1.1, ob, show (11 : Int32) = nI 11 from rfl, pk_mul N 11, nI_add, ra_20 k2.1.1 (by omega), ob, k4]
  · rintro n st hn ⟨ν, rfl, e0, e1, e2, e3⟩
    left
    obtain ⟨π, b1, b2, b3, b4⟩ := c_prow (N := N) e1 hK (by omega) e3
    refine ⟨(nI (n + 3), π), ?_, π, rfl, by omega, b2, ChC_t e2 b3, b4⟩
    simp only [f_X10_parts_L45, f_X10_parts_J123]
    rw [if_neg (by rw [nI_lt_i (by omega) (by omega)]; omega), b1, ob, ob, nI_1]
  · rintro st ⟨ν, rfl, e0, e1, e2, e3⟩
    refine ⟨ν, ?_, e1, e2, ?_⟩
    · simp only [f_X10_parts_L45]
      rw [if_pos (nI_lt (by omega) (by omega))]
    · rw [e3 N K hN (Nat.le_refl _), if_pos (by omega)]
def TbR (X n j : Nat) (μ : Mm) : Prop := ∀ m k, m ≤ 20 → k ≤ 10 → (m < n ∨ (m = n ∧ k < j)) → mm_L μ (X + 129) (11 * m + k) = pt m k
theorem r_114 {l1 l2 : Int32} {n k : Nat} {v : Int64} (h : Sh X μ) (hn : n ≤ 20) (hk : k ≤ 10) : f_X11_parts_J114 (X + 90) l1 l2 (nI n) (nI k) v μ = some (.inl (nI (k + 1), ms_L μ (X + 129) (11 * n + k) v)) := by
  unfold f_X11_parts_J114
  rw [rp_90_63 h, ob, show (11 : Int32) = nI 11 from rfl, pk_mul 11 n, nI_add, wa_129 h _ (by omega), ob, ob, nI_1]
theorem r_pcell {l1 l2 : Int32} {n k : Nat} (h : Sh X μ) (hn : n ≤ 20) (hk : k ≤ 10) (hT : TbR X n k μ) : f_X11_parts_L34 (X + 90) l1 l2 (nI n) (nI k, μ) = some (.inl (nI (k + 1), ms_L μ (X + 129) (11 * n + k) (pt n k))) := by
  simp only [f_X11_parts_L34, f_X11_parts_J54]
  rw [if_neg (by rw [show (10 : Int32) = nI 10 from rfl, nI_lt_i (by omega) (by omega)]; omega)]
  match n, hn, hT with
  | 0, hn, hT =>
    rw [if_pos (show nI 0 = 0 from rfl)]
    by_cases e : k = 0
    · rw [if_pos (by rw [e]; rfl)]
      unfold f_X11_parts_J55
      rw [if_pos (by decide), r_114 h hn hk, e]
      rfl
    · rw [if_neg (by rw [nI_z (by omega)]; exact e)]
      unfold f_X11_parts_J55
      rw [if_pos (by decide), r_114 h hn hk, pt_00 e]
  | 1, hn, hT =>
    rw [if_neg (by decide)]
    unfold f_X11_parts_J55
    rw [if_pos (by decide), r_114 h hn hk, pt_1]
  | n + 2, hn, hT =>
    rw [if_neg (by rw [nI_z (by omega)]; omega)]
    have v1 := hT (n + 1) k (by omega) hk (Or.inl (by omega))
    unfold f_X11_parts_J55 f_X11_parts_J111
    rw [if_neg (by rw [show (1 : Int32) = nI 1 from rfl, nI_le_i (by omega) (by omega)]; omega), rp_90_63 h, ob, show (1 : Int32) = nI 1 from rfl, show (2 : Int32) = nI 2 from rfl, show (11 : Int32) = nI 11 from rfl, pk_sub (by omega : 1 ≤ n + 2), pk_sub (by omega : 2 ≤ n + 2), show n + 2 - 1 = n + 1 by omega, show n + 2 - 2 = n by omega, pk_mul 11 (n + 1), pk_mul 11 n, nI_add, nI_add, ra_129 h (by omega), ob, v1, ob, ob]
    match k, hk, hT with
    | 0, hk, hT =>
      rw [if_pos (by decide), r_114 h hn hk, pt_0, pt_0, Int64.mul_zero, Int64.add_zero]
    | k + 1, hk, hT =>
      have v2 := hT n k (by omega) (by omega) (Or.inl (by omega))
      rw [if_neg (by rw [show (0 : Int32) = nI 0 from rfl, nI_le_i (by omega) (by omega)]; omega), pk_sub (by omega : 1 ≤ 11 * n + (k + 1)), show 11 * n + (k + 1) - 1 = 11 * n + k by omega, ra_129 h (by omega), ob, ob, v2, r_114 h hn hk, ← Int64.mul_add]
      rfl
theorem r_parts {N K : Nat} (h : IR X s μ) (hN : N ≤ 20) (hK : K ≤ 10) : ∃ ν, f_X11_parts (X + 90) (nI N) (nI K) μ = some (pt N K, ν) ∧ IR X s ν ∧ ChM X μ ν := by
  unfold f_X11_parts
  rw [if_pos (by rw [mk_90 h.1]), show (20 : Int32) = nI 20 from rfl, show (10 : Int32) = nI 10 from rfl, e_inK (by decide), ob, bz_if, if_pos (inR_nI (by omega) (by decide)), e_inK (by decide), ob, bz_if, if_pos (inR_nI (by omega) (by decide))]
  have key := whl_i (body := f_X11_parts_L26 (X + 90) (nI N) (nI K)) (N + 1) (fun n (st : Int32 × Mm) => ∃ ν, st = (nI n, ν) ∧ IR X s ν ∧ ChM X μ ν ∧ TbR X n 0 ν) (Q := fun ν => IR X s ν ∧ ChM X μ ν ∧ TbR X (N + 1) 0 ν) (s0 := ((0 : Int32), μ)) ⟨_, rfl, h, ChM_r _ _, fun m k _ _ q => by omega⟩ ?_ ?_
  · obtain ⟨ν, k1, k2, k3, k4⟩ := key
    refine ⟨ν, ?_, k2, k3⟩
    rw [k1, ob]
    unfold f_X11_parts_J140
    rw [rp_90_63 k2.1, ob, show (11 : Int32) = nI 11 from rfl, pk_mul 11 N, nI_add, ra_129 k2.1 (by omega), ob, k4 N K hN hK (Or.inl (by omega))]
  · rintro n st hn ⟨ν, rfl, e1, e2, e3⟩
    have k1 := whl_i (body := f_X11_parts_L34 (X + 90) (nI N) (nI K) (nI n)) 11 (fun k (st : Int32 × Mm) => ∃ ν, st = (nI k, ν) ∧ IR X s ν ∧ ChM X μ ν ∧ TbR X n k ν) (Q := fun ν => IR X s ν ∧ ChM X μ ν ∧ TbR X (n + 1) 0 ν) (s0 := ((0 : Int32), ν)) ⟨ν, rfl, e1, e2, e3⟩ (by
      rintro k st hk ⟨ν, rfl, e1, e2, e3⟩
      refine ⟨_, r_pcell e1.1 (by omega) (by omega) e3, _, rfl, (IR_129 e1).1, ChM_t e2 (IR_129 e1).2, fun m k' hm hk' q => ?_⟩
      rw [rL]
      by_cases e : m = n ∧ k' = k
      · rw [if_pos ⟨rfl, by rw [e.1, e.2]⟩, e.1, e.2]
      · rw [if_neg (fun q => e (by omega)), e3 m k' hm hk' (by omega)]) (by
      rintro st ⟨ν, rfl, e1, e2, e3⟩
      refine ⟨ν, ?_, e1, e2, fun m k' hm hk' q => e3 m k' hm hk' (by omega)⟩
      simp only [f_X11_parts_L34]
      rw [if_pos (by decide)])
    obtain ⟨π, b1, b2, b3, b4⟩ := k1
    refine ⟨(nI (n + 1), π), ?_, π, rfl, b2, b3, b4⟩
    simp only [f_X11_parts_L26, f_X11_parts_J134]
    rw [if_neg (by rw [nI_lt_i (by omega) (by omega)]; omega), b1, ob, ob, nI_1]
  · rintro st ⟨ν, rfl, e1, e2, e3⟩
    refine ⟨ν, ?_, e1, e2, e3⟩
    simp only [f_X11_parts_L26]
    rw [if_pos (nI_lt (by omega) (by omega))]
theorem k_parts (p q : Int32) (h0 : mm_K μ b = (19, L) ∧ mm_I μ b = xs ∧ b < X) (h : IC X i c s μ) (hR : IR X s μ) : ∃ r μ1 μ2, f_X10_parts X p q μ = some (r, μ1) ∧ f_X11_parts (X + 90) p q μ1 = some (r, μ2) ∧ Inv b L xs X (i + 1) μ2 ∧ (mm_K μ1 b = (19, L) ∧ mm_I μ1 b = xs) := by
  have h1 := h.1.1
  by_cases e1 : inR p 21
  · by_cases e2 : inR q 11
    · obtain ⟨⟨a, ha, rfl⟩, ⟨d0, hd, rfl⟩⟩ := And.intro (inR_ex e1 (by omega)) (inR_ex e2 (by decide))
      obtain ⟨ν, n1, n2, n3⟩ := c_parts (N := a) (K := d0) h (by omega) (by omega)
      exact both h0 hR n1 (IC_up n2) n3 (fun hν => r_parts hν (by omega) (by omega))
    · have hC : f_X10_parts X p q μ = some (-2, μ) := by
        unfold f_X10_parts
        rw [if_pos (by rw [mk_0 h1]), show (20 : Int32) = nI 20 from rfl, show (10 : Int32) = nI 10 from rfl, two_ends' (by decide), if_pos e1, two_ends2 (by decide), if_neg e2]
      refine both h0 hR hC (IC_up h) (ChC_r _ _) (fun hν => ⟨_, ?_, hν, ChM_r _ _⟩)
      unfold f_X11_parts
      rw [if_pos (by rw [mk_90 hν.1]), show (20 : Int32) = nI 20 from rfl, show (10 : Int32) = nI 10 from rfl, e_inK (by decide), ob, bz_if, if_pos e1, e_inK (by decide), ob, bz_if, if_neg e2]
  · have hC : f_X10_parts X p q μ = some (-2, μ) := by
      unfold f_X10_parts
      rw [if_pos (by rw [mk_0 h1]), show (20 : Int32) = nI 20 from rfl, show (10 : Int32) = nI 10 from rfl, two_ends' (by decide), if_neg e1]
    refine both h0 hR hC (IC_up h) (ChC_r _ _) (fun hν => ⟨_, ?_, hν, ChM_r _ _⟩)
    unfold f_X11_parts
    rw [if_pos (by rw [mk_90 hν.1]), show (20 : Int32) = nI 20 from rfl, e_inK (by decide), ob, bz_if, if_neg e1]
end CALLS
