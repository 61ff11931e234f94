/-! ===== a town of the class: what reads and writes answer ===== -/
theorem tc_k {c : Nat} {μ : Mm} (h : TwS c (mm_K μ) (mm_P μ)) : ((mm_K μ c).1 = 8) = True := eq_true (by rw [h.1])
theorem tc_f {c : Nat} {μ : Mm} (h : TwS c (mm_K μ) (mm_P μ)) (k : Nat) : gf_I 8 k c μ = some (mm_I μ c k) := e_gfI (by rw [h.1])
theorem tc_w {c : Nat} {μ : Mm} (h : TwS c (mm_K μ) (mm_P μ)) (k : Nat) (v : Int32) : pf_I 8 k c v μ = some (ms_I μ c k v) := e_pfI (by rw [h.1])
theorem tc_p0 {c : Nat} {μ : Mm} (h : TwS c (mm_K μ) (mm_P μ)) : gf_P 8 0 c μ = some (c + 1) := e_gfP (by rw [h.1]) h.2.2.1.1
theorem tc_p1 {c : Nat} {μ : Mm} (h : TwS c (mm_K μ) (mm_P μ)) : gf_P 8 1 c μ = some (c + 2) := e_gfP (by rw [h.1]) h.2.2.1.2.1
theorem tc_p2 {c : Nat} {μ : Mm} (h : TwS c (mm_K μ) (mm_P μ)) : gf_P 8 2 c μ = some (c + 3) := e_gfP (by rw [h.1]) h.2.2.1.2.2
theorem tc_p3 {c : Nat} {μ : Mm} (h : TwS c (mm_K μ) (mm_P μ)) : gf_P 8 3 c μ = some (c + 4) := e_gfP (by rw [h.1]) h.2.2.2.1.1
theorem tc_p4 {c : Nat} {μ : Mm} (h : TwS c (mm_K μ) (mm_P μ)) : gf_P 8 4 c μ = some (c + 6) := e_gfP (by rw [h.1]) h.2.2.2.2.1.1
theorem tc_p5 {c : Nat} {μ : Mm} (h : TwS c (mm_K μ) (mm_P μ)) : gf_P 8 5 c μ = some (c + 8) := e_gfP (by rw [h.1]) h.2.2.2.2.2.1.1
theorem tc_p6 {c : Nat} {μ : Mm} (h : TwS c (mm_K μ) (mm_P μ)) : gf_P 8 6 c μ = some (c + 10) := e_gfP (by rw [h.1]) h.2.2.2.2.2.2.1.1
theorem tc_p7 {c : Nat} {μ : Mm} (h : TwS c (mm_K μ) (mm_P μ)) : gf_P 8 7 c μ = some (c + 12) := e_gfP (by rw [h.1]) h.2.2.2.2.2.2.2.1.1
theorem tc_p8 {c : Nat} {μ : Mm} (h : TwS c (mm_K μ) (mm_P μ)) : gf_P 8 8 c μ = some (c + 14) := e_gfP (by rw [h.1]) h.2.2.2.2.2.2.2.2.1
theorem tc_n {c : Nat} {μ : Mm} (h : TwS c (mm_K μ) (mm_P μ)) {i : Nat} (hi : i < 8) : ga_L (c + 1) (nI i) μ = some (mm_L μ (c + 1) i) := e_gaL h.2.1.1 hi (by decide)
theorem tc_nw {c : Nat} {μ : Mm} (h : TwS c (mm_K μ) (mm_P μ)) {i : Nat} (v : Int64) (hi : i < 8) : pa_L (c + 1) (nI i) v μ = some (ms_L μ (c + 1) i v) := e_paL h.2.1.1 hi (by decide)
theorem tc_a2 {c : Nat} {μ : Mm} (h : TwS c (mm_K μ) (mm_P μ)) {i : Nat} (hi : i < 8) : ga_I (c + 2) (nI i) μ = some (mm_I μ (c + 2) i) := e_gaI h.2.1.2.1 hi (by decide)
theorem tc_b2 {c : Nat} {μ : Mm} (h : TwS c (mm_K μ) (mm_P μ)) {i : Nat} (v : Int32) (hi : i < 8) : pa_I (c + 2) (nI i) v μ = some (ms_I μ (c + 2) i v) := e_paI h.2.1.2.1 hi (by decide)
theorem tc_k2 {c : Nat} {μ : Mm} (h : TwS c (mm_K μ) (mm_P μ)) : mm_K μ (c + 2) = (20, 8) := h.2.1.2.1
theorem tc_a3 {c : Nat} {μ : Mm} (h : TwS c (mm_K μ) (mm_P μ)) {i : Nat} (hi : i < 8) : ga_I (c + 3) (nI i) μ = some (mm_I μ (c + 3) i) := e_gaI h.2.1.2.2 hi (by decide)
theorem tc_b3 {c : Nat} {μ : Mm} (h : TwS c (mm_K μ) (mm_P μ)) {i : Nat} (v : Int32) (hi : i < 8) : pa_I (c + 3) (nI i) v μ = some (ms_I μ (c + 3) i v) := e_paI h.2.1.2.2 hi (by decide)
theorem tc_k3 {c : Nat} {μ : Mm} (h : TwS c (mm_K μ) (mm_P μ)) : mm_K μ (c + 3) = (20, 8) := h.2.1.2.2
theorem tc_r4 {c : Nat} {μ : Mm} (h : TwS c (mm_K μ) (mm_P μ)) : RwS (c + 4) 12 (mm_K μ) (mm_P μ) := h.2.2.2.1.2
theorem tc_s4 {c : Nat} {μ : Mm} (h : TwS c (mm_K μ) (mm_P μ)) (k : Nat) : gf_I 3 k (c + 4) μ = some (mm_I μ (c + 4) k) := e_gfI (by rw [h.2.2.2.1.2.1])
theorem tc_v4 {c : Nat} {μ : Mm} (h : TwS c (mm_K μ) (mm_P μ)) (k : Nat) (v : Int32) : pf_I 3 k (c + 4) v μ = some (ms_I μ (c + 4) k v) := e_pfI (by rw [h.2.2.2.1.2.1])
theorem tc_r6 {c : Nat} {μ : Mm} (h : TwS c (mm_K μ) (mm_P μ)) : RwS (c + 6) 8 (mm_K μ) (mm_P μ) := h.2.2.2.2.1.2
theorem tc_s6 {c : Nat} {μ : Mm} (h : TwS c (mm_K μ) (mm_P μ)) (k : Nat) : gf_I 3 k (c + 6) μ = some (mm_I μ (c + 6) k) := e_gfI (by rw [h.2.2.2.2.1.2.1])
theorem tc_v6 {c : Nat} {μ : Mm} (h : TwS c (mm_K μ) (mm_P μ)) (k : Nat) (v : Int32) : pf_I 3 k (c + 6) v μ = some (ms_I μ (c + 6) k v) := e_pfI (by rw [h.2.2.2.2.1.2.1])
theorem tc_r8 {c : Nat} {μ : Mm} (h : TwS c (mm_K μ) (mm_P μ)) : RwS (c + 8) 8 (mm_K μ) (mm_P μ) := h.2.2.2.2.2.1.2
theorem tc_s8 {c : Nat} {μ : Mm} (h : TwS c (mm_K μ) (mm_P μ)) (k : Nat) : gf_I 3 k (c + 8) μ = some (mm_I μ (c + 8) k) := e_gfI (by rw [h.2.2.2.2.2.1.2.1])
theorem tc_v8 {c : Nat} {μ : Mm} (h : TwS c (mm_K μ) (mm_P μ)) (k : Nat) (v : Int32) : pf_I 3 k (c + 8) v μ = some (ms_I μ (c + 8) k v) := e_pfI (by rw [h.2.2.2.2.2.1.2.1])
theorem tc_r10 {c : Nat} {μ : Mm} (h : TwS c (mm_K μ) (mm_P μ)) : RwS (c + 10) 8 (mm_K μ) (mm_P μ) := h.2.2.2.2.2.2.1.2
theorem tc_s10 {c : Nat} {μ : Mm} (h : TwS c (mm_K μ) (mm_P μ)) (k : Nat) : gf_I 3 k (c + 10) μ = some (mm_I μ (c + 10) k) := e_gfI (by rw [h.2.2.2.2.2.2.1.2.1])
theorem tc_v10 {c : Nat} {μ : Mm} (h : TwS c (mm_K μ) (mm_P μ)) (k : Nat) (v : Int32) : pf_I 3 k (c + 10) v μ = some (ms_I μ (c + 10) k v) := e_pfI (by rw [h.2.2.2.2.2.2.1.2.1])
theorem tc_r12 {c : Nat} {μ : Mm} (h : TwS c (mm_K μ) (mm_P μ)) : RwS (c + 12) 8 (mm_K μ) (mm_P μ) := h.2.2.2.2.2.2.2.1.2
theorem tc_s12 {c : Nat} {μ : Mm} (h : TwS c (mm_K μ) (mm_P μ)) (k : Nat) : gf_I 3 k (c + 12) μ = some (mm_I μ (c + 12) k) := e_gfI (by rw [h.2.2.2.2.2.2.2.1.2.1])
theorem tc_v12 {c : Nat} {μ : Mm} (h : TwS c (mm_K μ) (mm_P μ)) (k : Nat) (v : Int32) : pf_I 3 k (c + 12) v μ = some (ms_I μ (c + 12) k v) := e_pfI (by rw [h.2.2.2.2.2.2.2.1.2.1])
theorem tc_tk {c : Nat} {μ : Mm} (h : TwS c (mm_K μ) (mm_P μ)) : ((mm_K μ (c + 14)).1 = 10) = True := eq_true (by rw [h.2.2.2.2.2.2.2.2.2.1])
theorem tc_tf {c : Nat} {μ : Mm} (h : TwS c (mm_K μ) (mm_P μ)) (k : Nat) : gf_I 10 k (c + 14) μ = some (mm_I μ (c + 14) k) := e_gfI (by rw [h.2.2.2.2.2.2.2.2.2.1])
theorem tc_tw {c : Nat} {μ : Mm} (h : TwS c (mm_K μ) (mm_P μ)) (k : Nat) (v : Int32) : pf_I 10 k (c + 14) v μ = some (ms_I μ (c + 14) k v) := e_pfI (by rw [h.2.2.2.2.2.2.2.2.2.1])
theorem tc_tp0 {c : Nat} {μ : Mm} (h : TwS c (mm_K μ) (mm_P μ)) : gf_P 10 0 (c + 14) μ = some (c + 15) := e_gfP (by rw [h.2.2.2.2.2.2.2.2.2.1]) h.2.2.2.2.2.2.2.2.2.2.1
theorem tc_tp1 {c : Nat} {μ : Mm} (h : TwS c (mm_K μ) (mm_P μ)) : gf_P 10 1 (c + 14) μ = some (c + 16) := e_gfP (by rw [h.2.2.2.2.2.2.2.2.2.1]) h.2.2.2.2.2.2.2.2.2.2.2.1
theorem tc_tp2 {c : Nat} {μ : Mm} (h : TwS c (mm_K μ) (mm_P μ)) : gf_P 10 2 (c + 14) μ = some (c + 17) := e_gfP (by rw [h.2.2.2.2.2.2.2.2.2.1]) h.2.2.2.2.2.2.2.2.2.2.2.2.1
theorem tc_a15 {c : Nat} {μ : Mm} (h : TwS c (mm_K μ) (mm_P μ)) {i : Nat} (hi : i < 8) : ga_I (c + 15) (nI i) μ = some (mm_I μ (c + 15) i) := e_gaI h.2.2.2.2.2.2.2.2.2.2.2.2.2.1 hi (by decide)
theorem tc_b15 {c : Nat} {μ : Mm} (h : TwS c (mm_K μ) (mm_P μ)) {i : Nat} (v : Int32) (hi : i < 8) : pa_I (c + 15) (nI i) v μ = some (ms_I μ (c + 15) i v) := e_paI h.2.2.2.2.2.2.2.2.2.2.2.2.2.1 hi (by decide)
theorem tc_a16 {c : Nat} {μ : Mm} (h : TwS c (mm_K μ) (mm_P μ)) {i : Nat} (hi : i < 8) : ga_I (c + 16) (nI i) μ = some (mm_I μ (c + 16) i) := e_gaI h.2.2.2.2.2.2.2.2.2.2.2.2.2.2.1 hi (by decide)
theorem tc_b16 {c : Nat} {μ : Mm} (h : TwS c (mm_K μ) (mm_P μ)) {i : Nat} (v : Int32) (hi : i < 8) : pa_I (c + 16) (nI i) v μ = some (ms_I μ (c + 16) i v) := e_paI h.2.2.2.2.2.2.2.2.2.2.2.2.2.2.1 hi (by decide)
theorem tc_a17 {c : Nat} {μ : Mm} (h : TwS c (mm_K μ) (mm_P μ)) {i : Nat} (hi : i < 256) : ga_I (c + 17) (nI i) μ = some (mm_I μ (c + 17) i) := e_gaI h.2.2.2.2.2.2.2.2.2.2.2.2.2.2.2 hi (by decide)
theorem tc_b17 {c : Nat} {μ : Mm} (h : TwS c (mm_K μ) (mm_P μ)) {i : Nat} (v : Int32) (hi : i < 256) : pa_I (c + 17) (nI i) v μ = some (ms_I μ (c + 17) i v) := e_paI h.2.2.2.2.2.2.2.2.2.2.2.2.2.2.2 hi (by decide)
theorem tc_l17 {c : Nat} {μ : Mm} (h : TwS c (mm_K μ) (mm_P μ)) : ga_len (c + 17) μ = some (nI 256) := e_len h.2.2.2.2.2.2.2.2.2.2.2.2.2.2.2 ⟨by decide, by decide⟩
theorem twI (c : Nat) (μ : Mm) (a k : Nat) (v : Int32) : TwS c (mm_K (ms_I μ a k v)) (mm_P (ms_I μ a k v)) = TwS c (mm_K μ) (mm_P μ) := rfl
theorem twA (c : Nat) (μ : Mm) (a : Nat) (f : Nat → Int32) : TwS c (mm_K (ms_A μ a f)) (mm_P (ms_A μ a f)) = TwS c (mm_K μ) (mm_P μ) := rfl
theorem twL (c : Nat) (μ : Mm) (a k : Nat) (v : Int64) : TwS c (mm_K (ms_L μ a k v)) (mm_P (ms_L μ a k v)) = TwS c (mm_K μ) (mm_P μ) := rfl
theorem ct_s4 {c : Nat} {T : Tn} {μ : Mm} (h : TwS c (mm_K μ) (mm_P μ)) (ht : CTn c T μ) : gf_I 3 1 (c + 4) μ = some (nI (T 0 1)) := by rw [tc_s4 h, ht.2.1.1]
theorem ct_4_0 {c : Nat} {T : Tn} {μ : Mm} (h : TwS c (mm_K μ) (mm_P μ)) (ht : CTn c T μ) (ok : OkT T) {i : Nat} (hi : i < T 0 1) : f_X2_at (c + 4) (nI i) (0 : Int32) μ = some (nI (T 2 i)) := by
  have e := e_rowAt (k := 0) (tc_r4 h) ht.2.1.1 ok.1.2.1 (by decide) hi (by decide)
  exact e.trans (congrArg some ((ht.2.2.1 i hi).1))
theorem ct_4_1 {c : Nat} {T : Tn} {μ : Mm} (h : TwS c (mm_K μ) (mm_P μ)) (ht : CTn c T μ) (ok : OkT T) {i : Nat} (hi : i < T 0 1) : f_X2_at (c + 4) (nI i) (1 : Int32) μ = some (nI (T 3 i)) := by
  have e := e_rowAt (k := 1) (tc_r4 h) ht.2.1.1 ok.1.2.1 (by decide) hi (by decide)
  exact e.trans (congrArg some ((ht.2.2.1 i hi).2))
theorem ct_4_out {c : Nat} {T : Tn} {μ : Mm} (h : TwS c (mm_K μ) (mm_P μ)) (ht : CTn c T μ) (ok : OkT T) {i : Nat} {j : Int32} (hi : T 0 1 ≤ i) (hb : i < 2 ^ 31) : f_X2_at (c + 4) (nI i) j μ = some (-1) := by
  unfold f_X2_at
  have hk := (tc_r4 h).1
  have hn := ok.1.2.1
  rw [if_pos (by rw [hk]), if_neg (nI_pos hb), ct_s4 h ht, ob, if_pos (nI_le hi hb)]
theorem ct_s6 {c : Nat} {T : Tn} {μ : Mm} (h : TwS c (mm_K μ) (mm_P μ)) (ht : CTn c T μ) : gf_I 3 1 (c + 6) μ = some (nI (T 0 2)) := by rw [tc_s6 h, ht.2.1.2.1]
theorem ct_6_0 {c : Nat} {T : Tn} {μ : Mm} (h : TwS c (mm_K μ) (mm_P μ)) (ht : CTn c T μ) (ok : OkT T) {i : Nat} (hi : i < T 0 2) : f_X2_at (c + 6) (nI i) (0 : Int32) μ = some (nI (T 4 i)) := by
  have e := e_rowAt (k := 0) (tc_r6 h) ht.2.1.2.1 ok.1.2.2.1 (by decide) hi (by decide)
  exact e.trans (congrArg some ((ht.2.2.2.1 i hi).1))
theorem ct_6_1 {c : Nat} {T : Tn} {μ : Mm} (h : TwS c (mm_K μ) (mm_P μ)) (ht : CTn c T μ) (ok : OkT T) {i : Nat} (hi : i < T 0 2) : f_X2_at (c + 6) (nI i) (1 : Int32) μ = some (nI (T 5 i)) := by
  have e := e_rowAt (k := 1) (tc_r6 h) ht.2.1.2.1 ok.1.2.2.1 (by decide) hi (by decide)
  exact e.trans (congrArg some ((ht.2.2.2.1 i hi).2.1))
theorem ct_6_2 {c : Nat} {T : Tn} {μ : Mm} (h : TwS c (mm_K μ) (mm_P μ)) (ht : CTn c T μ) (ok : OkT T) {i : Nat} (hi : i < T 0 2) : f_X2_at (c + 6) (nI i) (2 : Int32) μ = some (nI (T 6 i)) := by
  have e := e_rowAt (k := 2) (tc_r6 h) ht.2.1.2.1 ok.1.2.2.1 (by decide) hi (by decide)
  exact e.trans (congrArg some ((ht.2.2.2.1 i hi).2.2))
theorem ct_6_out {c : Nat} {T : Tn} {μ : Mm} (h : TwS c (mm_K μ) (mm_P μ)) (ht : CTn c T μ) (ok : OkT T) {i : Nat} {j : Int32} (hi : T 0 2 ≤ i) (hb : i < 2 ^ 31) : f_X2_at (c + 6) (nI i) j μ = some (-1) := by
  unfold f_X2_at
  have hk := (tc_r6 h).1
  have hn := ok.1.2.2.1
  rw [if_pos (by rw [hk]), if_neg (nI_pos hb), ct_s6 h ht, ob, if_pos (nI_le hi hb)]
theorem ct_s8 {c : Nat} {T : Tn} {μ : Mm} (h : TwS c (mm_K μ) (mm_P μ)) (ht : CTn c T μ) : gf_I 3 1 (c + 8) μ = some (nI (T 0 3)) := by rw [tc_s8 h, ht.2.1.2.2.1]
theorem ct_8_0 {c : Nat} {T : Tn} {μ : Mm} (h : TwS c (mm_K μ) (mm_P μ)) (ht : CTn c T μ) (ok : OkT T) {i : Nat} (hi : i < T 0 3) : f_X2_at (c + 8) (nI i) (0 : Int32) μ = some (nI (T 7 i)) := by
  have e := e_rowAt (k := 0) (tc_r8 h) ht.2.1.2.2.1 ok.1.2.2.2.1 (by decide) hi (by decide)
  exact e.trans (congrArg some ((ht.2.2.2.2.1 i hi).1))
theorem ct_8_1 {c : Nat} {T : Tn} {μ : Mm} (h : TwS c (mm_K μ) (mm_P μ)) (ht : CTn c T μ) (ok : OkT T) {i : Nat} (hi : i < T 0 3) : f_X2_at (c + 8) (nI i) (1 : Int32) μ = some (nI (T 8 i)) := by
  have e := e_rowAt (k := 1) (tc_r8 h) ht.2.1.2.2.1 ok.1.2.2.2.1 (by decide) hi (by decide)
  exact e.trans (congrArg some ((ht.2.2.2.2.1 i hi).2))
theorem ct_8_out {c : Nat} {T : Tn} {μ : Mm} (h : TwS c (mm_K μ) (mm_P μ)) (ht : CTn c T μ) (ok : OkT T) {i : Nat} {j : Int32} (hi : T 0 3 ≤ i) (hb : i < 2 ^ 31) : f_X2_at (c + 8) (nI i) j μ = some (-1) := by
  unfold f_X2_at
  have hk := (tc_r8 h).1
  have hn := ok.1.2.2.2.1
  rw [if_pos (by rw [hk]), if_neg (nI_pos hb), ct_s8 h ht, ob, if_pos (nI_le hi hb)]
theorem ct_s10 {c : Nat} {T : Tn} {μ : Mm} (h : TwS c (mm_K μ) (mm_P μ)) (ht : CTn c T μ) : gf_I 3 1 (c + 10) μ = some (nI (T 0 6)) := by rw [tc_s10 h, ht.2.1.2.2.2.1]
theorem ct_10_0 {c : Nat} {T : Tn} {μ : Mm} (h : TwS c (mm_K μ) (mm_P μ)) (ht : CTn c T μ) (ok : OkT T) {i : Nat} (hi : i < T 0 6) : f_X2_at (c + 10) (nI i) (0 : Int32) μ = some (nI (T 9 i)) := by
  have e := e_rowAt (k := 0) (tc_r10 h) ht.2.1.2.2.2.1 ok.1.2.2.2.2.2.2.2.1 (by decide) hi (by decide)
  exact e.trans (congrArg some ((ht.2.2.2.2.2.1 i hi).1))
theorem ct_10_1 {c : Nat} {T : Tn} {μ : Mm} (h : TwS c (mm_K μ) (mm_P μ)) (ht : CTn c T μ) (ok : OkT T) {i : Nat} (hi : i < T 0 6) : f_X2_at (c + 10) (nI i) (1 : Int32) μ = some (nI (T 10 i)) := by
  have e := e_rowAt (k := 1) (tc_r10 h) ht.2.1.2.2.2.1 ok.1.2.2.2.2.2.2.2.1 (by decide) hi (by decide)
  exact e.trans (congrArg some ((ht.2.2.2.2.2.1 i hi).2.1))
theorem ct_10_2 {c : Nat} {T : Tn} {μ : Mm} (h : TwS c (mm_K μ) (mm_P μ)) (ht : CTn c T μ) (ok : OkT T) {i : Nat} (hi : i < T 0 6) : f_X2_at (c + 10) (nI i) (2 : Int32) μ = some (nI (T 11 i)) := by
  have e := e_rowAt (k := 2) (tc_r10 h) ht.2.1.2.2.2.1 ok.1.2.2.2.2.2.2.2.1 (by decide) hi (by decide)
  exact e.trans (congrArg some ((ht.2.2.2.2.2.1 i hi).2.2))
theorem ct_10_out {c : Nat} {T : Tn} {μ : Mm} (h : TwS c (mm_K μ) (mm_P μ)) (ht : CTn c T μ) (ok : OkT T) {i : Nat} {j : Int32} (hi : T 0 6 ≤ i) (hb : i < 2 ^ 31) : f_X2_at (c + 10) (nI i) j μ = some (-1) := by
  unfold f_X2_at
  have hk := (tc_r10 h).1
  have hn := ok.1.2.2.2.2.2.2.2.1
  rw [if_pos (by rw [hk]), if_neg (nI_pos hb), ct_s10 h ht, ob, if_pos (nI_le hi hb)]
theorem ct_s12 {c : Nat} {T : Tn} {μ : Mm} (h : TwS c (mm_K μ) (mm_P μ)) (ht : CTn c T μ) : gf_I 3 1 (c + 12) μ = some (nI (T 0 9)) := by rw [tc_s12 h, ht.2.1.2.2.2.2]
theorem ct_12_0 {c : Nat} {T : Tn} {μ : Mm} (h : TwS c (mm_K μ) (mm_P μ)) (ht : CTn c T μ) (ok : OkT T) {i : Nat} (hi : i < T 0 9) : f_X2_at (c + 12) (nI i) (0 : Int32) μ = some (nI (1 - T 15 i)) := by
  have e := e_rowAt (k := 0) (tc_r12 h) ht.2.1.2.2.2.2 ok.1.2.2.2.2.2.2.2.2.2.2.1 (by decide) hi (by decide)
  exact e.trans (congrArg some ((ht.2.2.2.2.2.2.1 i hi).1))
theorem ct_12_1 {c : Nat} {T : Tn} {μ : Mm} (h : TwS c (mm_K μ) (mm_P μ)) (ht : CTn c T μ) (ok : OkT T) {i : Nat} (hi : i < T 0 9) : f_X2_at (c + 12) (nI i) (1 : Int32) μ = some (nI (T 12 i)) := by
  have e := e_rowAt (k := 1) (tc_r12 h) ht.2.1.2.2.2.2 ok.1.2.2.2.2.2.2.2.2.2.2.1 (by decide) hi (by decide)
  exact e.trans (congrArg some ((ht.2.2.2.2.2.2.1 i hi).2.1))
theorem ct_12_2 {c : Nat} {T : Tn} {μ : Mm} (h : TwS c (mm_K μ) (mm_P μ)) (ht : CTn c T μ) (ok : OkT T) {i : Nat} (hi : i < T 0 9) : f_X2_at (c + 12) (nI i) (2 : Int32) μ = some (nI (T 13 i)) := by
  have e := e_rowAt (k := 2) (tc_r12 h) ht.2.1.2.2.2.2 ok.1.2.2.2.2.2.2.2.2.2.2.1 (by decide) hi (by decide)
  exact e.trans (congrArg some ((ht.2.2.2.2.2.2.1 i hi).2.2.1))
theorem ct_12_3 {c : Nat} {T : Tn} {μ : Mm} (h : TwS c (mm_K μ) (mm_P μ)) (ht : CTn c T μ) (ok : OkT T) {i : Nat} (hi : i < T 0 9) : f_X2_at (c + 12) (nI i) (3 : Int32) μ = some (nI (T 14 i)) := by
  have e := e_rowAt (k := 3) (tc_r12 h) ht.2.1.2.2.2.2 ok.1.2.2.2.2.2.2.2.2.2.2.1 (by decide) hi (by decide)
  exact e.trans (congrArg some ((ht.2.2.2.2.2.2.1 i hi).2.2.2))
theorem ct_12_out {c : Nat} {T : Tn} {μ : Mm} (h : TwS c (mm_K μ) (mm_P μ)) (ht : CTn c T μ) (ok : OkT T) {i : Nat} {j : Int32} (hi : T 0 9 ≤ i) (hb : i < 2 ^ 31) : f_X2_at (c + 12) (nI i) j μ = some (-1) := by
  unfold f_X2_at
  have hk := (tc_r12 h).1
  have hn := ok.1.2.2.2.2.2.2.2.2.2.2.1
  rw [if_pos (by rw [hk]), if_neg (nI_pos hb), ct_s12 h ht, ob, if_pos (nI_le hi hb)]
theorem ct_n {c : Nat} {T : Tn} {μ : Mm} (h : TwS c (mm_K μ) (mm_P μ)) (ht : CTn c T μ) : gf_I 8 9 c μ = some (nI (T 0 0)) := by rw [tc_f h, ht.1.1]
theorem ct_al {c : Nat} {T : Tn} {μ : Mm} (h : TwS c (mm_K μ) (mm_P μ)) (ht : CTn c T μ) : gf_I 8 10 c μ = some (nI (T 0 7)) := by rw [tc_f h, ht.1.2.1]
theorem ct_dr {c : Nat} {T : Tn} {μ : Mm} (h : TwS c (mm_K μ) (mm_P μ)) (ht : CTn c T μ) : gf_I 8 11 c μ = some (nI (T 0 11)) := by rw [tc_f h, ht.1.2.2.1]
theorem ct_td {c : Nat} {T : Tn} {μ : Mm} (h : TwS c (mm_K μ) (mm_P μ)) (ht : CTn c T μ) : gf_I 8 12 c μ = some (nI (T 0 10)) := by rw [tc_f h, ht.1.2.2.2.1]
theorem ct_lw {c : Nat} {T : Tn} {μ : Mm} (h : TwS c (mm_K μ) (mm_P μ)) (ht : CTn c T μ) : gf_I 8 13 c μ = some (nI (T 0 4)) := by rw [tc_f h, ht.1.2.2.2.2.1]
theorem ct_dp {c : Nat} {T : Tn} {μ : Mm} (h : TwS c (mm_K μ) (mm_P μ)) (ht : CTn c T μ) : gf_I 8 14 c μ = some (nI (T 0 8)) := by rw [tc_f h, ht.1.2.2.2.2.2.1]
theorem ct_yr {c : Nat} {T : Tn} {μ : Mm} (h : TwS c (mm_K μ) (mm_P μ)) (ht : CTn c T μ) : gf_I 8 15 c μ = some (nI (T 0 5)) := by rw [tc_f h, ht.1.2.2.2.2.2.2.1]
theorem ct_cl {c : Nat} {T : Tn} {μ : Mm} (h : TwS c (mm_K μ) (mm_P μ)) (ht : CTn c T μ) : gf_I 8 16 c μ = some (nI (T 0 12)) := by rw [tc_f h, ht.1.2.2.2.2.2.2.2]
