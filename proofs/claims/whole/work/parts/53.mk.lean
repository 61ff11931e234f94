/-! ===== the same of a memory, and what reads and writes then answer ===== -/
abbrev Sh (X : Nat) (μ : Mm) : Prop := Shp X (mm_K μ) (mm_P μ)
theorem shI (X : Nat) (μ : Mm) (a k : Nat) (v : Int32) : Shp X (mm_K (ms_I μ a k v)) (mm_P (ms_I μ a k v)) = Shp X (mm_K μ) (mm_P μ) := rfl
theorem shA (X : Nat) (μ : Mm) (a : Nat) (f : Nat → Int32) : Shp X (mm_K (ms_A μ a f)) (mm_P (ms_A μ a f)) = Shp X (mm_K μ) (mm_P μ) := rfl
theorem shL (X : Nat) (μ : Mm) (a k : Nat) (v : Int64) : Shp X (mm_K (ms_L μ a k v)) (mm_P (ms_L μ a k v)) = Shp X (mm_K μ) (mm_P μ) := rfl
theorem e_cls {μ : Mm} {a t n : Nat} (h : mm_K μ a = (t, n)) {α : Type} (x y : α) : (if (mm_K μ a).1 = t then x else y) = x := if_pos (by rw [h])
theorem mk_0 {X : Nat} {μ : Mm} (h : Shp X (mm_K μ) (mm_P μ)) : mm_K μ X = (11, 0) := sk_0 h
theorem kt_0 {X : Nat} {μ : Mm} (h : Shp X (mm_K μ) (mm_P μ)) : ((mm_K μ X).1 = 11) = True := eq_true (by rw [mk_0 h])
theorem rf_0 {X : Nat} {μ : Mm} (h : Shp X (mm_K μ) (mm_P μ)) (k : Nat) : gf_I 11 k X μ = some (mm_I μ X k) := e_gfI (by rw [mk_0 h])
theorem wf_0 {X : Nat} {μ : Mm} (h : Shp X (mm_K μ) (mm_P μ)) (k : Nat) (v : Int32) : pf_I 11 k X v μ = some (ms_I μ X k v) := e_pfI (by rw [mk_0 h])
theorem mk_1 {X : Nat} {μ : Mm} (h : Shp X (mm_K μ) (mm_P μ)) : mm_K μ (X + 1) = (6, 0) := sk_1 h
theorem kt_1 {X : Nat} {μ : Mm} (h : Shp X (mm_K μ) (mm_P μ)) : ((mm_K μ (X + 1)).1 = 6) = True := eq_true (by rw [mk_1 h])
theorem rf_1 {X : Nat} {μ : Mm} (h : Shp X (mm_K μ) (mm_P μ)) (k : Nat) : gf_I 6 k (X + 1) μ = some (mm_I μ (X + 1) k) := e_gfI (by rw [mk_1 h])
theorem wf_1 {X : Nat} {μ : Mm} (h : Shp X (mm_K μ) (mm_P μ)) (k : Nat) (v : Int32) : pf_I 6 k (X + 1) v μ = some (ms_I μ (X + 1) k v) := e_pfI (by rw [mk_1 h])
theorem mk_2 {X : Nat} {μ : Mm} (h : Shp X (mm_K μ) (mm_P μ)) : mm_K μ (X + 2) = (20, 900) := sk_2 h
theorem ln_2 {X : Nat} {μ : Mm} (h : Shp X (mm_K μ) (mm_P μ)) : ga_len (X + 2) μ = some (nI 900) := e_len (mk_2 h) ⟨by decide, by decide⟩
theorem ra_2 {X : Nat} {μ : Mm} (h : Shp X (mm_K μ) (mm_P μ)) {i : Nat} (hi : i < 900) : ga_I (X + 2) (nI i) μ = some (mm_I μ (X + 2) i) := e_gaI (mk_2 h) hi (by decide)
theorem wa_2 {X : Nat} {μ : Mm} (h : Shp X (mm_K μ) (mm_P μ)) {i : Nat} (v : Int32) (hi : i < 900) : pa_I (X + 2) (nI i) v μ = some (ms_I μ (X + 2) i v) := e_paI (mk_2 h) hi (by decide)
theorem mk_3 {X : Nat} {μ : Mm} (h : Shp X (mm_K μ) (mm_P μ)) : mm_K μ (X + 3) = (7, 0) := sk_3 h
theorem kt_3 {X : Nat} {μ : Mm} (h : Shp X (mm_K μ) (mm_P μ)) : ((mm_K μ (X + 3)).1 = 7) = True := eq_true (by rw [mk_3 h])
theorem rf_3 {X : Nat} {μ : Mm} (h : Shp X (mm_K μ) (mm_P μ)) (k : Nat) : gf_I 7 k (X + 3) μ = some (mm_I μ (X + 3) k) := e_gfI (by rw [mk_3 h])
theorem wf_3 {X : Nat} {μ : Mm} (h : Shp X (mm_K μ) (mm_P μ)) (k : Nat) (v : Int32) : pf_I 7 k (X + 3) v μ = some (ms_I μ (X + 3) k v) := e_pfI (by rw [mk_3 h])
theorem rl_3 {X : Nat} {μ : Mm} (h : Shp X (mm_K μ) (mm_P μ)) (k : Nat) : gf_L 7 k (X + 3) μ = some (mm_L μ (X + 3) k) := e_gfL (by rw [mk_3 h])
theorem wl_3 {X : Nat} {μ : Mm} (h : Shp X (mm_K μ) (mm_P μ)) (k : Nat) (v : Int64) : pf_L 7 k (X + 3) v μ = some (ms_L μ (X + 3) k v) := e_pfL (by rw [mk_3 h])
theorem mk_4 {X : Nat} {μ : Mm} (h : Shp X (mm_K μ) (mm_P μ)) : mm_K μ (X + 4) = (1, 0) := sk_4 h
theorem kt_4 {X : Nat} {μ : Mm} (h : Shp X (mm_K μ) (mm_P μ)) : ((mm_K μ (X + 4)).1 = 1) = True := eq_true (by rw [mk_4 h])
theorem rf_4 {X : Nat} {μ : Mm} (h : Shp X (mm_K μ) (mm_P μ)) (k : Nat) : gf_I 1 k (X + 4) μ = some (mm_I μ (X + 4) k) := e_gfI (by rw [mk_4 h])
theorem wf_4 {X : Nat} {μ : Mm} (h : Shp X (mm_K μ) (mm_P μ)) (k : Nat) (v : Int32) : pf_I 1 k (X + 4) v μ = some (ms_I μ (X + 4) k v) := e_pfI (by rw [mk_4 h])
theorem mk_5 {X : Nat} {μ : Mm} (h : Shp X (mm_K μ) (mm_P μ)) : mm_K μ (X + 5) = (20, 16) := sk_5 h
theorem ln_5 {X : Nat} {μ : Mm} (h : Shp X (mm_K μ) (mm_P μ)) : ga_len (X + 5) μ = some (nI 16) := e_len (mk_5 h) ⟨by decide, by decide⟩
theorem ra_5 {X : Nat} {μ : Mm} (h : Shp X (mm_K μ) (mm_P μ)) {i : Nat} (hi : i < 16) : ga_I (X + 5) (nI i) μ = some (mm_I μ (X + 5) i) := e_gaI (mk_5 h) hi (by decide)
theorem wa_5 {X : Nat} {μ : Mm} (h : Shp X (mm_K μ) (mm_P μ)) {i : Nat} (v : Int32) (hi : i < 16) : pa_I (X + 5) (nI i) v μ = some (ms_I μ (X + 5) i v) := e_paI (mk_5 h) hi (by decide)
theorem mk_6 {X : Nat} {μ : Mm} (h : Shp X (mm_K μ) (mm_P μ)) : mm_K μ (X + 6) = (20, 16) := sk_6 h
theorem ln_6 {X : Nat} {μ : Mm} (h : Shp X (mm_K μ) (mm_P μ)) : ga_len (X + 6) μ = some (nI 16) := e_len (mk_6 h) ⟨by decide, by decide⟩
theorem ra_6 {X : Nat} {μ : Mm} (h : Shp X (mm_K μ) (mm_P μ)) {i : Nat} (hi : i < 16) : ga_I (X + 6) (nI i) μ = some (mm_I μ (X + 6) i) := e_gaI (mk_6 h) hi (by decide)
theorem wa_6 {X : Nat} {μ : Mm} (h : Shp X (mm_K μ) (mm_P μ)) {i : Nat} (v : Int32) (hi : i < 16) : pa_I (X + 6) (nI i) v μ = some (ms_I μ (X + 6) i v) := e_paI (mk_6 h) hi (by decide)
theorem mk_7 {X : Nat} {μ : Mm} (h : Shp X (mm_K μ) (mm_P μ)) : mm_K μ (X + 7) = (20, 16) := sk_7 h
theorem ln_7 {X : Nat} {μ : Mm} (h : Shp X (mm_K μ) (mm_P μ)) : ga_len (X + 7) μ = some (nI 16) := e_len (mk_7 h) ⟨by decide, by decide⟩
theorem ra_7 {X : Nat} {μ : Mm} (h : Shp X (mm_K μ) (mm_P μ)) {i : Nat} (hi : i < 16) : ga_I (X + 7) (nI i) μ = some (mm_I μ (X + 7) i) := e_gaI (mk_7 h) hi (by decide)
theorem wa_7 {X : Nat} {μ : Mm} (h : Shp X (mm_K μ) (mm_P μ)) {i : Nat} (v : Int32) (hi : i < 16) : pa_I (X + 7) (nI i) v μ = some (ms_I μ (X + 7) i v) := e_paI (mk_7 h) hi (by decide)
theorem mk_8 {X : Nat} {μ : Mm} (h : Shp X (mm_K μ) (mm_P μ)) : mm_K μ (X + 8) = (20, 16) := sk_8 h
theorem ln_8 {X : Nat} {μ : Mm} (h : Shp X (mm_K μ) (mm_P μ)) : ga_len (X + 8) μ = some (nI 16) := e_len (mk_8 h) ⟨by decide, by decide⟩
theorem ra_8 {X : Nat} {μ : Mm} (h : Shp X (mm_K μ) (mm_P μ)) {i : Nat} (hi : i < 16) : ga_I (X + 8) (nI i) μ = some (mm_I μ (X + 8) i) := e_gaI (mk_8 h) hi (by decide)
theorem wa_8 {X : Nat} {μ : Mm} (h : Shp X (mm_K μ) (mm_P μ)) {i : Nat} (v : Int32) (hi : i < 16) : pa_I (X + 8) (nI i) v μ = some (ms_I μ (X + 8) i v) := e_paI (mk_8 h) hi (by decide)
theorem mk_9 {X : Nat} {μ : Mm} (h : Shp X (mm_K μ) (mm_P μ)) : mm_K μ (X + 9) = (20, 16) := sk_9 h
theorem ln_9 {X : Nat} {μ : Mm} (h : Shp X (mm_K μ) (mm_P μ)) : ga_len (X + 9) μ = some (nI 16) := e_len (mk_9 h) ⟨by decide, by decide⟩
theorem ra_9 {X : Nat} {μ : Mm} (h : Shp X (mm_K μ) (mm_P μ)) {i : Nat} (hi : i < 16) : ga_I (X + 9) (nI i) μ = some (mm_I μ (X + 9) i) := e_gaI (mk_9 h) hi (by decide)
theorem wa_9 {X : Nat} {μ : Mm} (h : Shp X (mm_K μ) (mm_P μ)) {i : Nat} (v : Int32) (hi : i < 16) : pa_I (X + 9) (nI i) v μ = some (ms_I μ (X + 9) i v) := e_paI (mk_9 h) hi (by decide)
theorem mk_10 {X : Nat} {μ : Mm} (h : Shp X (mm_K μ) (mm_P μ)) : mm_K μ (X + 10) = (20, 20) := sk_10 h
theorem ln_10 {X : Nat} {μ : Mm} (h : Shp X (mm_K μ) (mm_P μ)) : ga_len (X + 10) μ = some (nI 20) := e_len (mk_10 h) ⟨by decide, by decide⟩
theorem ra_10 {X : Nat} {μ : Mm} (h : Shp X (mm_K μ) (mm_P μ)) {i : Nat} (hi : i < 20) : ga_I (X + 10) (nI i) μ = some (mm_I μ (X + 10) i) := e_gaI (mk_10 h) hi (by decide)
theorem wa_10 {X : Nat} {μ : Mm} (h : Shp X (mm_K μ) (mm_P μ)) {i : Nat} (v : Int32) (hi : i < 20) : pa_I (X + 10) (nI i) v μ = some (ms_I μ (X + 10) i v) := e_paI (mk_10 h) hi (by decide)
theorem mk_11 {X : Nat} {μ : Mm} (h : Shp X (mm_K μ) (mm_P μ)) : mm_K μ (X + 11) = (20, 20) := sk_11 h
theorem ln_11 {X : Nat} {μ : Mm} (h : Shp X (mm_K μ) (mm_P μ)) : ga_len (X + 11) μ = some (nI 20) := e_len (mk_11 h) ⟨by decide, by decide⟩
theorem ra_11 {X : Nat} {μ : Mm} (h : Shp X (mm_K μ) (mm_P μ)) {i : Nat} (hi : i < 20) : ga_I (X + 11) (nI i) μ = some (mm_I μ (X + 11) i) := e_gaI (mk_11 h) hi (by decide)
theorem wa_11 {X : Nat} {μ : Mm} (h : Shp X (mm_K μ) (mm_P μ)) {i : Nat} (v : Int32) (hi : i < 20) : pa_I (X + 11) (nI i) v μ = some (ms_I μ (X + 11) i v) := e_paI (mk_11 h) hi (by decide)
theorem mk_12 {X : Nat} {μ : Mm} (h : Shp X (mm_K μ) (mm_P μ)) : mm_K μ (X + 12) = (20, 20) := sk_12 h
theorem ln_12 {X : Nat} {μ : Mm} (h : Shp X (mm_K μ) (mm_P μ)) : ga_len (X + 12) μ = some (nI 20) := e_len (mk_12 h) ⟨by decide, by decide⟩
theorem ra_12 {X : Nat} {μ : Mm} (h : Shp X (mm_K μ) (mm_P μ)) {i : Nat} (hi : i < 20) : ga_I (X + 12) (nI i) μ = some (mm_I μ (X + 12) i) := e_gaI (mk_12 h) hi (by decide)
theorem wa_12 {X : Nat} {μ : Mm} (h : Shp X (mm_K μ) (mm_P μ)) {i : Nat} (v : Int32) (hi : i < 20) : pa_I (X + 12) (nI i) v μ = some (ms_I μ (X + 12) i v) := e_paI (mk_12 h) hi (by decide)
theorem mk_13 {X : Nat} {μ : Mm} (h : Shp X (mm_K μ) (mm_P μ)) : mm_K μ (X + 13) = (4, 0) := sk_13 h
theorem kt_13 {X : Nat} {μ : Mm} (h : Shp X (mm_K μ) (mm_P μ)) : ((mm_K μ (X + 13)).1 = 4) = True := eq_true (by rw [mk_13 h])
theorem rf_13 {X : Nat} {μ : Mm} (h : Shp X (mm_K μ) (mm_P μ)) (k : Nat) : gf_I 4 k (X + 13) μ = some (mm_I μ (X + 13) k) := e_gfI (by rw [mk_13 h])
theorem wf_13 {X : Nat} {μ : Mm} (h : Shp X (mm_K μ) (mm_P μ)) (k : Nat) (v : Int32) : pf_I 4 k (X + 13) v μ = some (ms_I μ (X + 13) k v) := e_pfI (by rw [mk_13 h])
theorem wz_13 {X : Nat} {μ : Mm} (h : Shp X (mm_K μ) (mm_P μ)) (k : Nat) (v : Int32) (hv : v = 0 ∨ v = 1) : pf_Z 4 k (X + 13) v μ = some (ms_I μ (X + 13) k v) := e_pfZ (by rw [mk_13 h]) hv
theorem wz0_13 {X : Nat} {μ : Mm} (h : Shp X (mm_K μ) (mm_P μ)) (k : Nat) : pf_Z 4 k (X + 13) 0 μ = some (ms_I μ (X + 13) k 0) := wz_13 h k 0 (Or.inl rfl)
theorem wz1_13 {X : Nat} {μ : Mm} (h : Shp X (mm_K μ) (mm_P μ)) (k : Nat) : pf_Z 4 k (X + 13) 1 μ = some (ms_I μ (X + 13) k 1) := wz_13 h k 1 (Or.inr rfl)
theorem mk_14 {X : Nat} {μ : Mm} (h : Shp X (mm_K μ) (mm_P μ)) : mm_K μ (X + 14) = (20, 12) := sk_14 h
theorem ln_14 {X : Nat} {μ : Mm} (h : Shp X (mm_K μ) (mm_P μ)) : ga_len (X + 14) μ = some (nI 12) := e_len (mk_14 h) ⟨by decide, by decide⟩
theorem ra_14 {X : Nat} {μ : Mm} (h : Shp X (mm_K μ) (mm_P μ)) {i : Nat} (hi : i < 12) : ga_I (X + 14) (nI i) μ = some (mm_I μ (X + 14) i) := e_gaI (mk_14 h) hi (by decide)
theorem wa_14 {X : Nat} {μ : Mm} (h : Shp X (mm_K μ) (mm_P μ)) {i : Nat} (v : Int32) (hi : i < 12) : pa_I (X + 14) (nI i) v μ = some (ms_I μ (X + 14) i v) := e_paI (mk_14 h) hi (by decide)
theorem mk_15 {X : Nat} {μ : Mm} (h : Shp X (mm_K μ) (mm_P μ)) : mm_K μ (X + 15) = (24, 3) := sk_15 h
theorem ln_15 {X : Nat} {μ : Mm} (h : Shp X (mm_K μ) (mm_P μ)) : ga_len (X + 15) μ = some (nI 3) := e_len (mk_15 h) ⟨by decide, by decide⟩
theorem mk_16 {X : Nat} {μ : Mm} (h : Shp X (mm_K μ) (mm_P μ)) : mm_K μ (X + 16) = (20, 8) := sk_16 h
theorem ln_16 {X : Nat} {μ : Mm} (h : Shp X (mm_K μ) (mm_P μ)) : ga_len (X + 16) μ = some (nI 8) := e_len (mk_16 h) ⟨by decide, by decide⟩
theorem ra_16 {X : Nat} {μ : Mm} (h : Shp X (mm_K μ) (mm_P μ)) {i : Nat} (hi : i < 8) : ga_I (X + 16) (nI i) μ = some (mm_I μ (X + 16) i) := e_gaI (mk_16 h) hi (by decide)
theorem wa_16 {X : Nat} {μ : Mm} (h : Shp X (mm_K μ) (mm_P μ)) {i : Nat} (v : Int32) (hi : i < 8) : pa_I (X + 16) (nI i) v μ = some (ms_I μ (X + 16) i v) := e_paI (mk_16 h) hi (by decide)
theorem mk_17 {X : Nat} {μ : Mm} (h : Shp X (mm_K μ) (mm_P μ)) : mm_K μ (X + 17) = (20, 8) := sk_17 h
theorem ln_17 {X : Nat} {μ : Mm} (h : Shp X (mm_K μ) (mm_P μ)) : ga_len (X + 17) μ = some (nI 8) := e_len (mk_17 h) ⟨by decide, by decide⟩
theorem ra_17 {X : Nat} {μ : Mm} (h : Shp X (mm_K μ) (mm_P μ)) {i : Nat} (hi : i < 8) : ga_I (X + 17) (nI i) μ = some (mm_I μ (X + 17) i) := e_gaI (mk_17 h) hi (by decide)
theorem wa_17 {X : Nat} {μ : Mm} (h : Shp X (mm_K μ) (mm_P μ)) {i : Nat} (v : Int32) (hi : i < 8) : pa_I (X + 17) (nI i) v μ = some (ms_I μ (X + 17) i v) := e_paI (mk_17 h) hi (by decide)
theorem mk_18 {X : Nat} {μ : Mm} (h : Shp X (mm_K μ) (mm_P μ)) : mm_K μ (X + 18) = (20, 8) := sk_18 h
theorem ln_18 {X : Nat} {μ : Mm} (h : Shp X (mm_K μ) (mm_P μ)) : ga_len (X + 18) μ = some (nI 8) := e_len (mk_18 h) ⟨by decide, by decide⟩
theorem ra_18 {X : Nat} {μ : Mm} (h : Shp X (mm_K μ) (mm_P μ)) {i : Nat} (hi : i < 8) : ga_I (X + 18) (nI i) μ = some (mm_I μ (X + 18) i) := e_gaI (mk_18 h) hi (by decide)
theorem wa_18 {X : Nat} {μ : Mm} (h : Shp X (mm_K μ) (mm_P μ)) {i : Nat} (v : Int32) (hi : i < 8) : pa_I (X + 18) (nI i) v μ = some (ms_I μ (X + 18) i v) := e_paI (mk_18 h) hi (by decide)
theorem mk_19 {X : Nat} {μ : Mm} (h : Shp X (mm_K μ) (mm_P μ)) : mm_K μ (X + 19) = (20, 21) := sk_19 h
theorem ln_19 {X : Nat} {μ : Mm} (h : Shp X (mm_K μ) (mm_P μ)) : ga_len (X + 19) μ = some (nI 21) := e_len (mk_19 h) ⟨by decide, by decide⟩
theorem ra_19 {X : Nat} {μ : Mm} (h : Shp X (mm_K μ) (mm_P μ)) {i : Nat} (hi : i < 21) : ga_I (X + 19) (nI i) μ = some (mm_I μ (X + 19) i) := e_gaI (mk_19 h) hi (by decide)
theorem wa_19 {X : Nat} {μ : Mm} (h : Shp X (mm_K μ) (mm_P μ)) {i : Nat} (v : Int32) (hi : i < 21) : pa_I (X + 19) (nI i) v μ = some (ms_I μ (X + 19) i v) := e_paI (mk_19 h) hi (by decide)
theorem mk_20 {X : Nat} {μ : Mm} (h : Shp X (mm_K μ) (mm_P μ)) : mm_K μ (X + 20) = (21, 231) := sk_20 h
theorem ln_20 {X : Nat} {μ : Mm} (h : Shp X (mm_K μ) (mm_P μ)) : ga_len (X + 20) μ = some (nI 231) := e_len (mk_20 h) ⟨by decide, by decide⟩
theorem ra_20 {X : Nat} {μ : Mm} (h : Shp X (mm_K μ) (mm_P μ)) {i : Nat} (hi : i < 231) : ga_L (X + 20) (nI i) μ = some (mm_L μ (X + 20) i) := e_gaL (mk_20 h) hi (by decide)
theorem wa_20 {X : Nat} {μ : Mm} (h : Shp X (mm_K μ) (mm_P μ)) {i : Nat} (v : Int64) (hi : i < 231) : pa_L (X + 20) (nI i) v μ = some (ms_L μ (X + 20) i v) := e_paL (mk_20 h) hi (by decide)
theorem mk_21 {X : Nat} {μ : Mm} (h : Shp X (mm_K μ) (mm_P μ)) : mm_K μ (X + 21) = (8, 0) := sk_21 h
theorem kt_21 {X : Nat} {μ : Mm} (h : Shp X (mm_K μ) (mm_P μ)) : ((mm_K μ (X + 21)).1 = 8) = True := eq_true (by rw [mk_21 h])
theorem rf_21 {X : Nat} {μ : Mm} (h : Shp X (mm_K μ) (mm_P μ)) (k : Nat) : gf_I 8 k (X + 21) μ = some (mm_I μ (X + 21) k) := e_gfI (by rw [mk_21 h])
theorem wf_21 {X : Nat} {μ : Mm} (h : Shp X (mm_K μ) (mm_P μ)) (k : Nat) (v : Int32) : pf_I 8 k (X + 21) v μ = some (ms_I μ (X + 21) k v) := e_pfI (by rw [mk_21 h])
theorem mk_22 {X : Nat} {μ : Mm} (h : Shp X (mm_K μ) (mm_P μ)) : mm_K μ (X + 22) = (21, 8) := sk_22 h
theorem ln_22 {X : Nat} {μ : Mm} (h : Shp X (mm_K μ) (mm_P μ)) : ga_len (X + 22) μ = some (nI 8) := e_len (mk_22 h) ⟨by decide, by decide⟩
theorem ra_22 {X : Nat} {μ : Mm} (h : Shp X (mm_K μ) (mm_P μ)) {i : Nat} (hi : i < 8) : ga_L (X + 22) (nI i) μ = some (mm_L μ (X + 22) i) := e_gaL (mk_22 h) hi (by decide)
theorem wa_22 {X : Nat} {μ : Mm} (h : Shp X (mm_K μ) (mm_P μ)) {i : Nat} (v : Int64) (hi : i < 8) : pa_L (X + 22) (nI i) v μ = some (ms_L μ (X + 22) i v) := e_paL (mk_22 h) hi (by decide)
theorem mk_23 {X : Nat} {μ : Mm} (h : Shp X (mm_K μ) (mm_P μ)) : mm_K μ (X + 23) = (20, 8) := sk_23 h
theorem ln_23 {X : Nat} {μ : Mm} (h : Shp X (mm_K μ) (mm_P μ)) : ga_len (X + 23) μ = some (nI 8) := e_len (mk_23 h) ⟨by decide, by decide⟩
theorem ra_23 {X : Nat} {μ : Mm} (h : Shp X (mm_K μ) (mm_P μ)) {i : Nat} (hi : i < 8) : ga_I (X + 23) (nI i) μ = some (mm_I μ (X + 23) i) := e_gaI (mk_23 h) hi (by decide)
theorem wa_23 {X : Nat} {μ : Mm} (h : Shp X (mm_K μ) (mm_P μ)) {i : Nat} (v : Int32) (hi : i < 8) : pa_I (X + 23) (nI i) v μ = some (ms_I μ (X + 23) i v) := e_paI (mk_23 h) hi (by decide)
theorem mk_24 {X : Nat} {μ : Mm} (h : Shp X (mm_K μ) (mm_P μ)) : mm_K μ (X + 24) = (20, 8) := sk_24 h
theorem ln_24 {X : Nat} {μ : Mm} (h : Shp X (mm_K μ) (mm_P μ)) : ga_len (X + 24) μ = some (nI 8) := e_len (mk_24 h) ⟨by decide, by decide⟩
theorem ra_24 {X : Nat} {μ : Mm} (h : Shp X (mm_K μ) (mm_P μ)) {i : Nat} (hi : i < 8) : ga_I (X + 24) (nI i) μ = some (mm_I μ (X + 24) i) := e_gaI (mk_24 h) hi (by decide)
theorem wa_24 {X : Nat} {μ : Mm} (h : Shp X (mm_K μ) (mm_P μ)) {i : Nat} (v : Int32) (hi : i < 8) : pa_I (X + 24) (nI i) v μ = some (ms_I μ (X + 24) i v) := e_paI (mk_24 h) hi (by decide)
theorem mk_25 {X : Nat} {μ : Mm} (h : Shp X (mm_K μ) (mm_P μ)) : mm_K μ (X + 25) = (3, 0) := sk_25 h
theorem kt_25 {X : Nat} {μ : Mm} (h : Shp X (mm_K μ) (mm_P μ)) : ((mm_K μ (X + 25)).1 = 3) = True := eq_true (by rw [mk_25 h])
theorem rf_25 {X : Nat} {μ : Mm} (h : Shp X (mm_K μ) (mm_P μ)) (k : Nat) : gf_I 3 k (X + 25) μ = some (mm_I μ (X + 25) k) := e_gfI (by rw [mk_25 h])
theorem wf_25 {X : Nat} {μ : Mm} (h : Shp X (mm_K μ) (mm_P μ)) (k : Nat) (v : Int32) : pf_I 3 k (X + 25) v μ = some (ms_I μ (X + 25) k v) := e_pfI (by rw [mk_25 h])
theorem mk_26 {X : Nat} {μ : Mm} (h : Shp X (mm_K μ) (mm_P μ)) : mm_K μ (X + 26) = (20, 48) := sk_26 h
theorem ln_26 {X : Nat} {μ : Mm} (h : Shp X (mm_K μ) (mm_P μ)) : ga_len (X + 26) μ = some (nI 48) := e_len (mk_26 h) ⟨by decide, by decide⟩
theorem ra_26 {X : Nat} {μ : Mm} (h : Shp X (mm_K μ) (mm_P μ)) {i : Nat} (hi : i < 48) : ga_I (X + 26) (nI i) μ = some (mm_I μ (X + 26) i) := e_gaI (mk_26 h) hi (by decide)
theorem wa_26 {X : Nat} {μ : Mm} (h : Shp X (mm_K μ) (mm_P μ)) {i : Nat} (v : Int32) (hi : i < 48) : pa_I (X + 26) (nI i) v μ = some (ms_I μ (X + 26) i v) := e_paI (mk_26 h) hi (by decide)
theorem mk_27 {X : Nat} {μ : Mm} (h : Shp X (mm_K μ) (mm_P μ)) : mm_K μ (X + 27) = (3, 0) := sk_27 h
theorem kt_27 {X : Nat} {μ : Mm} (h : Shp X (mm_K μ) (mm_P μ)) : ((mm_K μ (X + 27)).1 = 3) = True := eq_true (by rw [mk_27 h])
theorem rf_27 {X : Nat} {μ : Mm} (h : Shp X (mm_K μ) (mm_P μ)) (k : Nat) : gf_I 3 k (X + 27) μ = some (mm_I μ (X + 27) k) := e_gfI (by rw [mk_27 h])
theorem wf_27 {X : Nat} {μ : Mm} (h : Shp X (mm_K μ) (mm_P μ)) (k : Nat) (v : Int32) : pf_I 3 k (X + 27) v μ = some (ms_I μ (X + 27) k v) := e_pfI (by rw [mk_27 h])
theorem mk_28 {X : Nat} {μ : Mm} (h : Shp X (mm_K μ) (mm_P μ)) : mm_K μ (X + 28) = (20, 32) := sk_28 h
theorem ln_28 {X : Nat} {μ : Mm} (h : Shp X (mm_K μ) (mm_P μ)) : ga_len (X + 28) μ = some (nI 32) := e_len (mk_28 h) ⟨by decide, by decide⟩
theorem ra_28 {X : Nat} {μ : Mm} (h : Shp X (mm_K μ) (mm_P μ)) {i : Nat} (hi : i < 32) : ga_I (X + 28) (nI i) μ = some (mm_I μ (X + 28) i) := e_gaI (mk_28 h) hi (by decide)
theorem wa_28 {X : Nat} {μ : Mm} (h : Shp X (mm_K μ) (mm_P μ)) {i : Nat} (v : Int32) (hi : i < 32) : pa_I (X + 28) (nI i) v μ = some (ms_I μ (X + 28) i v) := e_paI (mk_28 h) hi (by decide)
theorem mk_29 {X : Nat} {μ : Mm} (h : Shp X (mm_K μ) (mm_P μ)) : mm_K μ (X + 29) = (3, 0) := sk_29 h
theorem kt_29 {X : Nat} {μ : Mm} (h : Shp X (mm_K μ) (mm_P μ)) : ((mm_K μ (X + 29)).1 = 3) = True := eq_true (by rw [mk_29 h])
theorem rf_29 {X : Nat} {μ : Mm} (h : Shp X (mm_K μ) (mm_P μ)) (k : Nat) : gf_I 3 k (X + 29) μ = some (mm_I μ (X + 29) k) := e_gfI (by rw [mk_29 h])
theorem wf_29 {X : Nat} {μ : Mm} (h : Shp X (mm_K μ) (mm_P μ)) (k : Nat) (v : Int32) : pf_I 3 k (X + 29) v μ = some (ms_I μ (X + 29) k v) := e_pfI (by rw [mk_29 h])
theorem mk_30 {X : Nat} {μ : Mm} (h : Shp X (mm_K μ) (mm_P μ)) : mm_K μ (X + 30) = (20, 32) := sk_30 h
theorem ln_30 {X : Nat} {μ : Mm} (h : Shp X (mm_K μ) (mm_P μ)) : ga_len (X + 30) μ = some (nI 32) := e_len (mk_30 h) ⟨by decide, by decide⟩
theorem ra_30 {X : Nat} {μ : Mm} (h : Shp X (mm_K μ) (mm_P μ)) {i : Nat} (hi : i < 32) : ga_I (X + 30) (nI i) μ = some (mm_I μ (X + 30) i) := e_gaI (mk_30 h) hi (by decide)
theorem wa_30 {X : Nat} {μ : Mm} (h : Shp X (mm_K μ) (mm_P μ)) {i : Nat} (v : Int32) (hi : i < 32) : pa_I (X + 30) (nI i) v μ = some (ms_I μ (X + 30) i v) := e_paI (mk_30 h) hi (by decide)
theorem mk_31 {X : Nat} {μ : Mm} (h : Shp X (mm_K μ) (mm_P μ)) : mm_K μ (X + 31) = (3, 0) := sk_31 h
theorem kt_31 {X : Nat} {μ : Mm} (h : Shp X (mm_K μ) (mm_P μ)) : ((mm_K μ (X + 31)).1 = 3) = True := eq_true (by rw [mk_31 h])
theorem rf_31 {X : Nat} {μ : Mm} (h : Shp X (mm_K μ) (mm_P μ)) (k : Nat) : gf_I 3 k (X + 31) μ = some (mm_I μ (X + 31) k) := e_gfI (by rw [mk_31 h])
theorem wf_31 {X : Nat} {μ : Mm} (h : Shp X (mm_K μ) (mm_P μ)) (k : Nat) (v : Int32) : pf_I 3 k (X + 31) v μ = some (ms_I μ (X + 31) k v) := e_pfI (by rw [mk_31 h])
theorem mk_32 {X : Nat} {μ : Mm} (h : Shp X (mm_K μ) (mm_P μ)) : mm_K μ (X + 32) = (20, 32) := sk_32 h
theorem ln_32 {X : Nat} {μ : Mm} (h : Shp X (mm_K μ) (mm_P μ)) : ga_len (X + 32) μ = some (nI 32) := e_len (mk_32 h) ⟨by decide, by decide⟩
theorem ra_32 {X : Nat} {μ : Mm} (h : Shp X (mm_K μ) (mm_P μ)) {i : Nat} (hi : i < 32) : ga_I (X + 32) (nI i) μ = some (mm_I μ (X + 32) i) := e_gaI (mk_32 h) hi (by decide)
theorem wa_32 {X : Nat} {μ : Mm} (h : Shp X (mm_K μ) (mm_P μ)) {i : Nat} (v : Int32) (hi : i < 32) : pa_I (X + 32) (nI i) v μ = some (ms_I μ (X + 32) i v) := e_paI (mk_32 h) hi (by decide)
theorem mk_33 {X : Nat} {μ : Mm} (h : Shp X (mm_K μ) (mm_P μ)) : mm_K μ (X + 33) = (3, 0) := sk_33 h
theorem kt_33 {X : Nat} {μ : Mm} (h : Shp X (mm_K μ) (mm_P μ)) : ((mm_K μ (X + 33)).1 = 3) = True := eq_true (by rw [mk_33 h])
theorem rf_33 {X : Nat} {μ : Mm} (h : Shp X (mm_K μ) (mm_P μ)) (k : Nat) : gf_I 3 k (X + 33) μ = some (mm_I μ (X + 33) k) := e_gfI (by rw [mk_33 h])
theorem wf_33 {X : Nat} {μ : Mm} (h : Shp X (mm_K μ) (mm_P μ)) (k : Nat) (v : Int32) : pf_I 3 k (X + 33) v μ = some (ms_I μ (X + 33) k v) := e_pfI (by rw [mk_33 h])
theorem mk_34 {X : Nat} {μ : Mm} (h : Shp X (mm_K μ) (mm_P μ)) : mm_K μ (X + 34) = (20, 32) := sk_34 h
theorem ln_34 {X : Nat} {μ : Mm} (h : Shp X (mm_K μ) (mm_P μ)) : ga_len (X + 34) μ = some (nI 32) := e_len (mk_34 h) ⟨by decide, by decide⟩
theorem ra_34 {X : Nat} {μ : Mm} (h : Shp X (mm_K μ) (mm_P μ)) {i : Nat} (hi : i < 32) : ga_I (X + 34) (nI i) μ = some (mm_I μ (X + 34) i) := e_gaI (mk_34 h) hi (by decide)
theorem wa_34 {X : Nat} {μ : Mm} (h : Shp X (mm_K μ) (mm_P μ)) {i : Nat} (v : Int32) (hi : i < 32) : pa_I (X + 34) (nI i) v μ = some (ms_I μ (X + 34) i v) := e_paI (mk_34 h) hi (by decide)
theorem mk_35 {X : Nat} {μ : Mm} (h : Shp X (mm_K μ) (mm_P μ)) : mm_K μ (X + 35) = (10, 0) := sk_35 h
theorem kt_35 {X : Nat} {μ : Mm} (h : Shp X (mm_K μ) (mm_P μ)) : ((mm_K μ (X + 35)).1 = 10) = True := eq_true (by rw [mk_35 h])
theorem rf_35 {X : Nat} {μ : Mm} (h : Shp X (mm_K μ) (mm_P μ)) (k : Nat) : gf_I 10 k (X + 35) μ = some (mm_I μ (X + 35) k) := e_gfI (by rw [mk_35 h])
theorem wf_35 {X : Nat} {μ : Mm} (h : Shp X (mm_K μ) (mm_P μ)) (k : Nat) (v : Int32) : pf_I 10 k (X + 35) v μ = some (ms_I μ (X + 35) k v) := e_pfI (by rw [mk_35 h])
theorem mk_36 {X : Nat} {μ : Mm} (h : Shp X (mm_K μ) (mm_P μ)) : mm_K μ (X + 36) = (20, 8) := sk_36 h
theorem ln_36 {X : Nat} {μ : Mm} (h : Shp X (mm_K μ) (mm_P μ)) : ga_len (X + 36) μ = some (nI 8) := e_len (mk_36 h) ⟨by decide, by decide⟩
theorem ra_36 {X : Nat} {μ : Mm} (h : Shp X (mm_K μ) (mm_P μ)) {i : Nat} (hi : i < 8) : ga_I (X + 36) (nI i) μ = some (mm_I μ (X + 36) i) := e_gaI (mk_36 h) hi (by decide)
theorem wa_36 {X : Nat} {μ : Mm} (h : Shp X (mm_K μ) (mm_P μ)) {i : Nat} (v : Int32) (hi : i < 8) : pa_I (X + 36) (nI i) v μ = some (ms_I μ (X + 36) i v) := e_paI (mk_36 h) hi (by decide)
theorem mk_37 {X : Nat} {μ : Mm} (h : Shp X (mm_K μ) (mm_P μ)) : mm_K μ (X + 37) = (20, 8) := sk_37 h
theorem ln_37 {X : Nat} {μ : Mm} (h : Shp X (mm_K μ) (mm_P μ)) : ga_len (X + 37) μ = some (nI 8) := e_len (mk_37 h) ⟨by decide, by decide⟩
theorem ra_37 {X : Nat} {μ : Mm} (h : Shp X (mm_K μ) (mm_P μ)) {i : Nat} (hi : i < 8) : ga_I (X + 37) (nI i) μ = some (mm_I μ (X + 37) i) := e_gaI (mk_37 h) hi (by decide)
theorem wa_37 {X : Nat} {μ : Mm} (h : Shp X (mm_K μ) (mm_P μ)) {i : Nat} (v : Int32) (hi : i < 8) : pa_I (X + 37) (nI i) v μ = some (ms_I μ (X + 37) i v) := e_paI (mk_37 h) hi (by decide)
theorem mk_38 {X : Nat} {μ : Mm} (h : Shp X (mm_K μ) (mm_P μ)) : mm_K μ (X + 38) = (20, 256) := sk_38 h
theorem ln_38 {X : Nat} {μ : Mm} (h : Shp X (mm_K μ) (mm_P μ)) : ga_len (X + 38) μ = some (nI 256) := e_len (mk_38 h) ⟨by decide, by decide⟩
theorem ra_38 {X : Nat} {μ : Mm} (h : Shp X (mm_K μ) (mm_P μ)) {i : Nat} (hi : i < 256) : ga_I (X + 38) (nI i) μ = some (mm_I μ (X + 38) i) := e_gaI (mk_38 h) hi (by decide)
theorem wa_38 {X : Nat} {μ : Mm} (h : Shp X (mm_K μ) (mm_P μ)) {i : Nat} (v : Int32) (hi : i < 256) : pa_I (X + 38) (nI i) v μ = some (ms_I μ (X + 38) i v) := e_paI (mk_38 h) hi (by decide)
theorem mk_39 {X : Nat} {μ : Mm} (h : Shp X (mm_K μ) (mm_P μ)) : mm_K μ (X + 39) = (8, 0) := sk_39 h
theorem kt_39 {X : Nat} {μ : Mm} (h : Shp X (mm_K μ) (mm_P μ)) : ((mm_K μ (X + 39)).1 = 8) = True := eq_true (by rw [mk_39 h])
theorem rf_39 {X : Nat} {μ : Mm} (h : Shp X (mm_K μ) (mm_P μ)) (k : Nat) : gf_I 8 k (X + 39) μ = some (mm_I μ (X + 39) k) := e_gfI (by rw [mk_39 h])
theorem wf_39 {X : Nat} {μ : Mm} (h : Shp X (mm_K μ) (mm_P μ)) (k : Nat) (v : Int32) : pf_I 8 k (X + 39) v μ = some (ms_I μ (X + 39) k v) := e_pfI (by rw [mk_39 h])
theorem mk_40 {X : Nat} {μ : Mm} (h : Shp X (mm_K μ) (mm_P μ)) : mm_K μ (X + 40) = (21, 8) := sk_40 h
theorem ln_40 {X : Nat} {μ : Mm} (h : Shp X (mm_K μ) (mm_P μ)) : ga_len (X + 40) μ = some (nI 8) := e_len (mk_40 h) ⟨by decide, by decide⟩
theorem ra_40 {X : Nat} {μ : Mm} (h : Shp X (mm_K μ) (mm_P μ)) {i : Nat} (hi : i < 8) : ga_L (X + 40) (nI i) μ = some (mm_L μ (X + 40) i) := e_gaL (mk_40 h) hi (by decide)
theorem wa_40 {X : Nat} {μ : Mm} (h : Shp X (mm_K μ) (mm_P μ)) {i : Nat} (v : Int64) (hi : i < 8) : pa_L (X + 40) (nI i) v μ = some (ms_L μ (X + 40) i v) := e_paL (mk_40 h) hi (by decide)
theorem mk_41 {X : Nat} {μ : Mm} (h : Shp X (mm_K μ) (mm_P μ)) : mm_K μ (X + 41) = (20, 8) := sk_41 h
theorem ln_41 {X : Nat} {μ : Mm} (h : Shp X (mm_K μ) (mm_P μ)) : ga_len (X + 41) μ = some (nI 8) := e_len (mk_41 h) ⟨by decide, by decide⟩
theorem ra_41 {X : Nat} {μ : Mm} (h : Shp X (mm_K μ) (mm_P μ)) {i : Nat} (hi : i < 8) : ga_I (X + 41) (nI i) μ = some (mm_I μ (X + 41) i) := e_gaI (mk_41 h) hi (by decide)
theorem wa_41 {X : Nat} {μ : Mm} (h : Shp X (mm_K μ) (mm_P μ)) {i : Nat} (v : Int32) (hi : i < 8) : pa_I (X + 41) (nI i) v μ = some (ms_I μ (X + 41) i v) := e_paI (mk_41 h) hi (by decide)
theorem mk_42 {X : Nat} {μ : Mm} (h : Shp X (mm_K μ) (mm_P μ)) : mm_K μ (X + 42) = (20, 8) := sk_42 h
theorem ln_42 {X : Nat} {μ : Mm} (h : Shp X (mm_K μ) (mm_P μ)) : ga_len (X + 42) μ = some (nI 8) := e_len (mk_42 h) ⟨by decide, by decide⟩
theorem ra_42 {X : Nat} {μ : Mm} (h : Shp X (mm_K μ) (mm_P μ)) {i : Nat} (hi : i < 8) : ga_I (X + 42) (nI i) μ = some (mm_I μ (X + 42) i) := e_gaI (mk_42 h) hi (by decide)
theorem wa_42 {X : Nat} {μ : Mm} (h : Shp X (mm_K μ) (mm_P μ)) {i : Nat} (v : Int32) (hi : i < 8) : pa_I (X + 42) (nI i) v μ = some (ms_I μ (X + 42) i v) := e_paI (mk_42 h) hi (by decide)
theorem mk_43 {X : Nat} {μ : Mm} (h : Shp X (mm_K μ) (mm_P μ)) : mm_K μ (X + 43) = (3, 0) := sk_43 h
theorem kt_43 {X : Nat} {μ : Mm} (h : Shp X (mm_K μ) (mm_P μ)) : ((mm_K μ (X + 43)).1 = 3) = True := eq_true (by rw [mk_43 h])
theorem rf_43 {X : Nat} {μ : Mm} (h : Shp X (mm_K μ) (mm_P μ)) (k : Nat) : gf_I 3 k (X + 43) μ = some (mm_I μ (X + 43) k) := e_gfI (by rw [mk_43 h])
theorem wf_43 {X : Nat} {μ : Mm} (h : Shp X (mm_K μ) (mm_P μ)) (k : Nat) (v : Int32) : pf_I 3 k (X + 43) v μ = some (ms_I μ (X + 43) k v) := e_pfI (by rw [mk_43 h])
theorem mk_44 {X : Nat} {μ : Mm} (h : Shp X (mm_K μ) (mm_P μ)) : mm_K μ (X + 44) = (20, 48) := sk_44 h
theorem ln_44 {X : Nat} {μ : Mm} (h : Shp X (mm_K μ) (mm_P μ)) : ga_len (X + 44) μ = some (nI 48) := e_len (mk_44 h) ⟨by decide, by decide⟩
theorem ra_44 {X : Nat} {μ : Mm} (h : Shp X (mm_K μ) (mm_P μ)) {i : Nat} (hi : i < 48) : ga_I (X + 44) (nI i) μ = some (mm_I μ (X + 44) i) := e_gaI (mk_44 h) hi (by decide)
theorem wa_44 {X : Nat} {μ : Mm} (h : Shp X (mm_K μ) (mm_P μ)) {i : Nat} (v : Int32) (hi : i < 48) : pa_I (X + 44) (nI i) v μ = some (ms_I μ (X + 44) i v) := e_paI (mk_44 h) hi (by decide)
theorem mk_45 {X : Nat} {μ : Mm} (h : Shp X (mm_K μ) (mm_P μ)) : mm_K μ (X + 45) = (3, 0) := sk_45 h
theorem kt_45 {X : Nat} {μ : Mm} (h : Shp X (mm_K μ) (mm_P μ)) : ((mm_K μ (X + 45)).1 = 3) = True := eq_true (by rw [mk_45 h])
theorem rf_45 {X : Nat} {μ : Mm} (h : Shp X (mm_K μ) (mm_P μ)) (k : Nat) : gf_I 3 k (X + 45) μ = some (mm_I μ (X + 45) k) := e_gfI (by rw [mk_45 h])
theorem wf_45 {X : Nat} {μ : Mm} (h : Shp X (mm_K μ) (mm_P μ)) (k : Nat) (v : Int32) : pf_I 3 k (X + 45) v μ = some (ms_I μ (X + 45) k v) := e_pfI (by rw [mk_45 h])
theorem mk_46 {X : Nat} {μ : Mm} (h : Shp X (mm_K μ) (mm_P μ)) : mm_K μ (X + 46) = (20, 32) := sk_46 h
theorem ln_46 {X : Nat} {μ : Mm} (h : Shp X (mm_K μ) (mm_P μ)) : ga_len (X + 46) μ = some (nI 32) := e_len (mk_46 h) ⟨by decide, by decide⟩
theorem ra_46 {X : Nat} {μ : Mm} (h : Shp X (mm_K μ) (mm_P μ)) {i : Nat} (hi : i < 32) : ga_I (X + 46) (nI i) μ = some (mm_I μ (X + 46) i) := e_gaI (mk_46 h) hi (by decide)
theorem wa_46 {X : Nat} {μ : Mm} (h : Shp X (mm_K μ) (mm_P μ)) {i : Nat} (v : Int32) (hi : i < 32) : pa_I (X + 46) (nI i) v μ = some (ms_I μ (X + 46) i v) := e_paI (mk_46 h) hi (by decide)
theorem mk_47 {X : Nat} {μ : Mm} (h : Shp X (mm_K μ) (mm_P μ)) : mm_K μ (X + 47) = (3, 0) := sk_47 h
theorem kt_47 {X : Nat} {μ : Mm} (h : Shp X (mm_K μ) (mm_P μ)) : ((mm_K μ (X + 47)).1 = 3) = True := eq_true (by rw [mk_47 h])
theorem rf_47 {X : Nat} {μ : Mm} (h : Shp X (mm_K μ) (mm_P μ)) (k : Nat) : gf_I 3 k (X + 47) μ = some (mm_I μ (X + 47) k) := e_gfI (by rw [mk_47 h])
theorem wf_47 {X : Nat} {μ : Mm} (h : Shp X (mm_K μ) (mm_P μ)) (k : Nat) (v : Int32) : pf_I 3 k (X + 47) v μ = some (ms_I μ (X + 47) k v) := e_pfI (by rw [mk_47 h])
theorem mk_48 {X : Nat} {μ : Mm} (h : Shp X (mm_K μ) (mm_P μ)) : mm_K μ (X + 48) = (20, 32) := sk_48 h
theorem ln_48 {X : Nat} {μ : Mm} (h : Shp X (mm_K μ) (mm_P μ)) : ga_len (X + 48) μ = some (nI 32) := e_len (mk_48 h) ⟨by decide, by decide⟩
theorem ra_48 {X : Nat} {μ : Mm} (h : Shp X (mm_K μ) (mm_P μ)) {i : Nat} (hi : i < 32) : ga_I (X + 48) (nI i) μ = some (mm_I μ (X + 48) i) := e_gaI (mk_48 h) hi (by decide)
theorem wa_48 {X : Nat} {μ : Mm} (h : Shp X (mm_K μ) (mm_P μ)) {i : Nat} (v : Int32) (hi : i < 32) : pa_I (X + 48) (nI i) v μ = some (ms_I μ (X + 48) i v) := e_paI (mk_48 h) hi (by decide)
theorem mk_49 {X : Nat} {μ : Mm} (h : Shp X (mm_K μ) (mm_P μ)) : mm_K μ (X + 49) = (3, 0) := sk_49 h
theorem kt_49 {X : Nat} {μ : Mm} (h : Shp X (mm_K μ) (mm_P μ)) : ((mm_K μ (X + 49)).1 = 3) = True := eq_true (by rw [mk_49 h])
theorem rf_49 {X : Nat} {μ : Mm} (h : Shp X (mm_K μ) (mm_P μ)) (k : Nat) : gf_I 3 k (X + 49) μ = some (mm_I μ (X + 49) k) := e_gfI (by rw [mk_49 h])
theorem wf_49 {X : Nat} {μ : Mm} (h : Shp X (mm_K μ) (mm_P μ)) (k : Nat) (v : Int32) : pf_I 3 k (X + 49) v μ = some (ms_I μ (X + 49) k v) := e_pfI (by rw [mk_49 h])
theorem mk_50 {X : Nat} {μ : Mm} (h : Shp X (mm_K μ) (mm_P μ)) : mm_K μ (X + 50) = (20, 32) := sk_50 h
theorem ln_50 {X : Nat} {μ : Mm} (h : Shp X (mm_K μ) (mm_P μ)) : ga_len (X + 50) μ = some (nI 32) := e_len (mk_50 h) ⟨by decide, by decide⟩
theorem ra_50 {X : Nat} {μ : Mm} (h : Shp X (mm_K μ) (mm_P μ)) {i : Nat} (hi : i < 32) : ga_I (X + 50) (nI i) μ = some (mm_I μ (X + 50) i) := e_gaI (mk_50 h) hi (by decide)
theorem wa_50 {X : Nat} {μ : Mm} (h : Shp X (mm_K μ) (mm_P μ)) {i : Nat} (v : Int32) (hi : i < 32) : pa_I (X + 50) (nI i) v μ = some (ms_I μ (X + 50) i v) := e_paI (mk_50 h) hi (by decide)
theorem mk_51 {X : Nat} {μ : Mm} (h : Shp X (mm_K μ) (mm_P μ)) : mm_K μ (X + 51) = (3, 0) := sk_51 h
theorem kt_51 {X : Nat} {μ : Mm} (h : Shp X (mm_K μ) (mm_P μ)) : ((mm_K μ (X + 51)).1 = 3) = True := eq_true (by rw [mk_51 h])
theorem rf_51 {X : Nat} {μ : Mm} (h : Shp X (mm_K μ) (mm_P μ)) (k : Nat) : gf_I 3 k (X + 51) μ = some (mm_I μ (X + 51) k) := e_gfI (by rw [mk_51 h])
theorem wf_51 {X : Nat} {μ : Mm} (h : Shp X (mm_K μ) (mm_P μ)) (k : Nat) (v : Int32) : pf_I 3 k (X + 51) v μ = some (ms_I μ (X + 51) k v) := e_pfI (by rw [mk_51 h])
theorem mk_52 {X : Nat} {μ : Mm} (h : Shp X (mm_K μ) (mm_P μ)) : mm_K μ (X + 52) = (20, 32) := sk_52 h
theorem ln_52 {X : Nat} {μ : Mm} (h : Shp X (mm_K μ) (mm_P μ)) : ga_len (X + 52) μ = some (nI 32) := e_len (mk_52 h) ⟨by decide, by decide⟩
theorem ra_52 {X : Nat} {μ : Mm} (h : Shp X (mm_K μ) (mm_P μ)) {i : Nat} (hi : i < 32) : ga_I (X + 52) (nI i) μ = some (mm_I μ (X + 52) i) := e_gaI (mk_52 h) hi (by decide)
theorem wa_52 {X : Nat} {μ : Mm} (h : Shp X (mm_K μ) (mm_P μ)) {i : Nat} (v : Int32) (hi : i < 32) : pa_I (X + 52) (nI i) v μ = some (ms_I μ (X + 52) i v) := e_paI (mk_52 h) hi (by decide)
theorem mk_53 {X : Nat} {μ : Mm} (h : Shp X (mm_K μ) (mm_P μ)) : mm_K μ (X + 53) = (10, 0) := sk_53 h
theorem kt_53 {X : Nat} {μ : Mm} (h : Shp X (mm_K μ) (mm_P μ)) : ((mm_K μ (X + 53)).1 = 10) = True := eq_true (by rw [mk_53 h])
theorem rf_53 {X : Nat} {μ : Mm} (h : Shp X (mm_K μ) (mm_P μ)) (k : Nat) : gf_I 10 k (X + 53) μ = some (mm_I μ (X + 53) k) := e_gfI (by rw [mk_53 h])
theorem wf_53 {X : Nat} {μ : Mm} (h : Shp X (mm_K μ) (mm_P μ)) (k : Nat) (v : Int32) : pf_I 10 k (X + 53) v μ = some (ms_I μ (X + 53) k v) := e_pfI (by rw [mk_53 h])
theorem mk_54 {X : Nat} {μ : Mm} (h : Shp X (mm_K μ) (mm_P μ)) : mm_K μ (X + 54) = (20, 8) := sk_54 h
theorem ln_54 {X : Nat} {μ : Mm} (h : Shp X (mm_K μ) (mm_P μ)) : ga_len (X + 54) μ = some (nI 8) := e_len (mk_54 h) ⟨by decide, by decide⟩
theorem ra_54 {X : Nat} {μ : Mm} (h : Shp X (mm_K μ) (mm_P μ)) {i : Nat} (hi : i < 8) : ga_I (X + 54) (nI i) μ = some (mm_I μ (X + 54) i) := e_gaI (mk_54 h) hi (by decide)
theorem wa_54 {X : Nat} {μ : Mm} (h : Shp X (mm_K μ) (mm_P μ)) {i : Nat} (v : Int32) (hi : i < 8) : pa_I (X + 54) (nI i) v μ = some (ms_I μ (X + 54) i v) := e_paI (mk_54 h) hi (by decide)
theorem mk_55 {X : Nat} {μ : Mm} (h : Shp X (mm_K μ) (mm_P μ)) : mm_K μ (X + 55) = (20, 8) := sk_55 h
theorem ln_55 {X : Nat} {μ : Mm} (h : Shp X (mm_K μ) (mm_P μ)) : ga_len (X + 55) μ = some (nI 8) := e_len (mk_55 h) ⟨by decide, by decide⟩
theorem ra_55 {X : Nat} {μ : Mm} (h : Shp X (mm_K μ) (mm_P μ)) {i : Nat} (hi : i < 8) : ga_I (X + 55) (nI i) μ = some (mm_I μ (X + 55) i) := e_gaI (mk_55 h) hi (by decide)
theorem wa_55 {X : Nat} {μ : Mm} (h : Shp X (mm_K μ) (mm_P μ)) {i : Nat} (v : Int32) (hi : i < 8) : pa_I (X + 55) (nI i) v μ = some (ms_I μ (X + 55) i v) := e_paI (mk_55 h) hi (by decide)
theorem mk_56 {X : Nat} {μ : Mm} (h : Shp X (mm_K μ) (mm_P μ)) : mm_K μ (X + 56) = (20, 256) := sk_56 h
theorem ln_56 {X : Nat} {μ : Mm} (h : Shp X (mm_K μ) (mm_P μ)) : ga_len (X + 56) μ = some (nI 256) := e_len (mk_56 h) ⟨by decide, by decide⟩
theorem ra_56 {X : Nat} {μ : Mm} (h : Shp X (mm_K μ) (mm_P μ)) {i : Nat} (hi : i < 256) : ga_I (X + 56) (nI i) μ = some (mm_I μ (X + 56) i) := e_gaI (mk_56 h) hi (by decide)
theorem wa_56 {X : Nat} {μ : Mm} (h : Shp X (mm_K μ) (mm_P μ)) {i : Nat} (v : Int32) (hi : i < 256) : pa_I (X + 56) (nI i) v μ = some (ms_I μ (X + 56) i v) := e_paI (mk_56 h) hi (by decide)
theorem mk_57 {X : Nat} {μ : Mm} (h : Shp X (mm_K μ) (mm_P μ)) : mm_K μ (X + 57) = (9, 0) := sk_57 h
theorem kt_57 {X : Nat} {μ : Mm} (h : Shp X (mm_K μ) (mm_P μ)) : ((mm_K μ (X + 57)).1 = 9) = True := eq_true (by rw [mk_57 h])
theorem rf_57 {X : Nat} {μ : Mm} (h : Shp X (mm_K μ) (mm_P μ)) (k : Nat) : gf_I 9 k (X + 57) μ = some (mm_I μ (X + 57) k) := e_gfI (by rw [mk_57 h])
theorem wf_57 {X : Nat} {μ : Mm} (h : Shp X (mm_K μ) (mm_P μ)) (k : Nat) (v : Int32) : pf_I 9 k (X + 57) v μ = some (ms_I μ (X + 57) k v) := e_pfI (by rw [mk_57 h])
theorem mk_58 {X : Nat} {μ : Mm} (h : Shp X (mm_K μ) (mm_P μ)) : mm_K μ (X + 58) = (5, 0) := sk_58 h
theorem kt_58 {X : Nat} {μ : Mm} (h : Shp X (mm_K μ) (mm_P μ)) : ((mm_K μ (X + 58)).1 = 5) = True := eq_true (by rw [mk_58 h])
theorem rf_58 {X : Nat} {μ : Mm} (h : Shp X (mm_K μ) (mm_P μ)) (k : Nat) : gf_I 5 k (X + 58) μ = some (mm_I μ (X + 58) k) := e_gfI (by rw [mk_58 h])
theorem wf_58 {X : Nat} {μ : Mm} (h : Shp X (mm_K μ) (mm_P μ)) (k : Nat) (v : Int32) : pf_I 5 k (X + 58) v μ = some (ms_I μ (X + 58) k v) := e_pfI (by rw [mk_58 h])
theorem wz_58 {X : Nat} {μ : Mm} (h : Shp X (mm_K μ) (mm_P μ)) (k : Nat) (v : Int32) (hv : v = 0 ∨ v = 1) : pf_Z 5 k (X + 58) v μ = some (ms_I μ (X + 58) k v) := e_pfZ (by rw [mk_58 h]) hv
theorem wz0_58 {X : Nat} {μ : Mm} (h : Shp X (mm_K μ) (mm_P μ)) (k : Nat) : pf_Z 5 k (X + 58) 0 μ = some (ms_I μ (X + 58) k 0) := wz_58 h k 0 (Or.inl rfl)
theorem wz1_58 {X : Nat} {μ : Mm} (h : Shp X (mm_K μ) (mm_P μ)) (k : Nat) : pf_Z 5 k (X + 58) 1 μ = some (ms_I μ (X + 58) k 1) := wz_58 h k 1 (Or.inr rfl)
theorem mk_59 {X : Nat} {μ : Mm} (h : Shp X (mm_K μ) (mm_P μ)) : mm_K μ (X + 59) = (20, 28) := sk_59 h
theorem ln_59 {X : Nat} {μ : Mm} (h : Shp X (mm_K μ) (mm_P μ)) : ga_len (X + 59) μ = some (nI 28) := e_len (mk_59 h) ⟨by decide, by decide⟩
theorem ra_59 {X : Nat} {μ : Mm} (h : Shp X (mm_K μ) (mm_P μ)) {i : Nat} (hi : i < 28) : ga_I (X + 59) (nI i) μ = some (mm_I μ (X + 59) i) := e_gaI (mk_59 h) hi (by decide)
theorem wa_59 {X : Nat} {μ : Mm} (h : Shp X (mm_K μ) (mm_P μ)) {i : Nat} (v : Int32) (hi : i < 28) : pa_I (X + 59) (nI i) v μ = some (ms_I μ (X + 59) i v) := e_paI (mk_59 h) hi (by decide)
theorem mk_60 {X : Nat} {μ : Mm} (h : Shp X (mm_K μ) (mm_P μ)) : mm_K μ (X + 60) = (20, 28) := sk_60 h
theorem ln_60 {X : Nat} {μ : Mm} (h : Shp X (mm_K μ) (mm_P μ)) : ga_len (X + 60) μ = some (nI 28) := e_len (mk_60 h) ⟨by decide, by decide⟩
theorem ra_60 {X : Nat} {μ : Mm} (h : Shp X (mm_K μ) (mm_P μ)) {i : Nat} (hi : i < 28) : ga_I (X + 60) (nI i) μ = some (mm_I μ (X + 60) i) := e_gaI (mk_60 h) hi (by decide)
theorem wa_60 {X : Nat} {μ : Mm} (h : Shp X (mm_K μ) (mm_P μ)) {i : Nat} (v : Int32) (hi : i < 28) : pa_I (X + 60) (nI i) v μ = some (ms_I μ (X + 60) i v) := e_paI (mk_60 h) hi (by decide)
theorem mk_61 {X : Nat} {μ : Mm} (h : Shp X (mm_K μ) (mm_P μ)) : mm_K μ (X + 61) = (20, 28) := sk_61 h
theorem ln_61 {X : Nat} {μ : Mm} (h : Shp X (mm_K μ) (mm_P μ)) : ga_len (X + 61) μ = some (nI 28) := e_len (mk_61 h) ⟨by decide, by decide⟩
theorem ra_61 {X : Nat} {μ : Mm} (h : Shp X (mm_K μ) (mm_P μ)) {i : Nat} (hi : i < 28) : ga_I (X + 61) (nI i) μ = some (mm_I μ (X + 61) i) := e_gaI (mk_61 h) hi (by decide)
theorem wa_61 {X : Nat} {μ : Mm} (h : Shp X (mm_K μ) (mm_P μ)) {i : Nat} (v : Int32) (hi : i < 28) : pa_I (X + 61) (nI i) v μ = some (ms_I μ (X + 61) i v) := e_paI (mk_61 h) hi (by decide)
theorem mk_62 {X : Nat} {μ : Mm} (h : Shp X (mm_K μ) (mm_P μ)) : mm_K μ (X + 62) = (20, 8) := sk_62 h
theorem ln_62 {X : Nat} {μ : Mm} (h : Shp X (mm_K μ) (mm_P μ)) : ga_len (X + 62) μ = some (nI 8) := e_len (mk_62 h) ⟨by decide, by decide⟩
theorem ra_62 {X : Nat} {μ : Mm} (h : Shp X (mm_K μ) (mm_P μ)) {i : Nat} (hi : i < 8) : ga_I (X + 62) (nI i) μ = some (mm_I μ (X + 62) i) := e_gaI (mk_62 h) hi (by decide)
theorem wa_62 {X : Nat} {μ : Mm} (h : Shp X (mm_K μ) (mm_P μ)) {i : Nat} (v : Int32) (hi : i < 8) : pa_I (X + 62) (nI i) v μ = some (ms_I μ (X + 62) i v) := e_paI (mk_62 h) hi (by decide)
theorem mk_63 {X : Nat} {μ : Mm} (h : Shp X (mm_K μ) (mm_P μ)) : mm_K μ (X + 63) = (20, 8) := sk_63 h
theorem ln_63 {X : Nat} {μ : Mm} (h : Shp X (mm_K μ) (mm_P μ)) : ga_len (X + 63) μ = some (nI 8) := e_len (mk_63 h) ⟨by decide, by decide⟩
theorem ra_63 {X : Nat} {μ : Mm} (h : Shp X (mm_K μ) (mm_P μ)) {i : Nat} (hi : i < 8) : ga_I (X + 63) (nI i) μ = some (mm_I μ (X + 63) i) := e_gaI (mk_63 h) hi (by decide)
theorem wa_63 {X : Nat} {μ : Mm} (h : Shp X (mm_K μ) (mm_P μ)) {i : Nat} (v : Int32) (hi : i < 8) : pa_I (X + 63) (nI i) v μ = some (ms_I μ (X + 63) i v) := e_paI (mk_63 h) hi (by decide)
theorem mk_64 {X : Nat} {μ : Mm} (h : Shp X (mm_K μ) (mm_P μ)) : mm_K μ (X + 64) = (20, 8) := sk_64 h
theorem ln_64 {X : Nat} {μ : Mm} (h : Shp X (mm_K μ) (mm_P μ)) : ga_len (X + 64) μ = some (nI 8) := e_len (mk_64 h) ⟨by decide, by decide⟩
theorem ra_64 {X : Nat} {μ : Mm} (h : Shp X (mm_K μ) (mm_P μ)) {i : Nat} (hi : i < 8) : ga_I (X + 64) (nI i) μ = some (mm_I μ (X + 64) i) := e_gaI (mk_64 h) hi (by decide)
theorem wa_64 {X : Nat} {μ : Mm} (h : Shp X (mm_K μ) (mm_P μ)) {i : Nat} (v : Int32) (hi : i < 8) : pa_I (X + 64) (nI i) v μ = some (ms_I μ (X + 64) i v) := e_paI (mk_64 h) hi (by decide)
theorem mk_65 {X : Nat} {μ : Mm} (h : Shp X (mm_K μ) (mm_P μ)) : mm_K μ (X + 65) = (20, 8) := sk_65 h
theorem ln_65 {X : Nat} {μ : Mm} (h : Shp X (mm_K μ) (mm_P μ)) : ga_len (X + 65) μ = some (nI 8) := e_len (mk_65 h) ⟨by decide, by decide⟩
theorem ra_65 {X : Nat} {μ : Mm} (h : Shp X (mm_K μ) (mm_P μ)) {i : Nat} (hi : i < 8) : ga_I (X + 65) (nI i) μ = some (mm_I μ (X + 65) i) := e_gaI (mk_65 h) hi (by decide)
theorem wa_65 {X : Nat} {μ : Mm} (h : Shp X (mm_K μ) (mm_P μ)) {i : Nat} (v : Int32) (hi : i < 8) : pa_I (X + 65) (nI i) v μ = some (ms_I μ (X + 65) i v) := e_paI (mk_65 h) hi (by decide)
theorem mk_66 {X : Nat} {μ : Mm} (h : Shp X (mm_K μ) (mm_P μ)) : mm_K μ (X + 66) = (2, 0) := sk_66 h
theorem kt_66 {X : Nat} {μ : Mm} (h : Shp X (mm_K μ) (mm_P μ)) : ((mm_K μ (X + 66)).1 = 2) = True := eq_true (by rw [mk_66 h])
theorem rf_66 {X : Nat} {μ : Mm} (h : Shp X (mm_K μ) (mm_P μ)) (k : Nat) : gf_I 2 k (X + 66) μ = some (mm_I μ (X + 66) k) := e_gfI (by rw [mk_66 h])
theorem wf_66 {X : Nat} {μ : Mm} (h : Shp X (mm_K μ) (mm_P μ)) (k : Nat) (v : Int32) : pf_I 2 k (X + 66) v μ = some (ms_I μ (X + 66) k v) := e_pfI (by rw [mk_66 h])
theorem wz_66 {X : Nat} {μ : Mm} (h : Shp X (mm_K μ) (mm_P μ)) (k : Nat) (v : Int32) (hv : v = 0 ∨ v = 1) : pf_Z 2 k (X + 66) v μ = some (ms_I μ (X + 66) k v) := e_pfZ (by rw [mk_66 h]) hv
theorem wz0_66 {X : Nat} {μ : Mm} (h : Shp X (mm_K μ) (mm_P μ)) (k : Nat) : pf_Z 2 k (X + 66) 0 μ = some (ms_I μ (X + 66) k 0) := wz_66 h k 0 (Or.inl rfl)
theorem wz1_66 {X : Nat} {μ : Mm} (h : Shp X (mm_K μ) (mm_P μ)) (k : Nat) : pf_Z 2 k (X + 66) 1 μ = some (ms_I μ (X + 66) k 1) := wz_66 h k 1 (Or.inr rfl)
theorem mk_67 {X : Nat} {μ : Mm} (h : Shp X (mm_K μ) (mm_P μ)) : mm_K μ (X + 67) = (25, 12) := sk_67 h
theorem mk_80 {X : Nat} {μ : Mm} (h : Shp X (mm_K μ) (mm_P μ)) : mm_K μ (X + 80) = (20, 56) := sk_80 h
theorem ln_80 {X : Nat} {μ : Mm} (h : Shp X (mm_K μ) (mm_P μ)) : ga_len (X + 80) μ = some (nI 56) := e_len (mk_80 h) ⟨by decide, by decide⟩
theorem ra_80 {X : Nat} {μ : Mm} (h : Shp X (mm_K μ) (mm_P μ)) {i : Nat} (hi : i < 56) : ga_I (X + 80) (nI i) μ = some (mm_I μ (X + 80) i) := e_gaI (mk_80 h) hi (by decide)
theorem wa_80 {X : Nat} {μ : Mm} (h : Shp X (mm_K μ) (mm_P μ)) {i : Nat} (v : Int32) (hi : i < 56) : pa_I (X + 80) (nI i) v μ = some (ms_I μ (X + 80) i v) := e_paI (mk_80 h) hi (by decide)
theorem mk_81 {X : Nat} {μ : Mm} (h : Shp X (mm_K μ) (mm_P μ)) : mm_K μ (X + 81) = (20, 16) := sk_81 h
theorem ln_81 {X : Nat} {μ : Mm} (h : Shp X (mm_K μ) (mm_P μ)) : ga_len (X + 81) μ = some (nI 16) := e_len (mk_81 h) ⟨by decide, by decide⟩
theorem ra_81 {X : Nat} {μ : Mm} (h : Shp X (mm_K μ) (mm_P μ)) {i : Nat} (hi : i < 16) : ga_I (X + 81) (nI i) μ = some (mm_I μ (X + 81) i) := e_gaI (mk_81 h) hi (by decide)
theorem wa_81 {X : Nat} {μ : Mm} (h : Shp X (mm_K μ) (mm_P μ)) {i : Nat} (v : Int32) (hi : i < 16) : pa_I (X + 81) (nI i) v μ = some (ms_I μ (X + 81) i v) := e_paI (mk_81 h) hi (by decide)
theorem mk_84 {X : Nat} {μ : Mm} (h : Shp X (mm_K μ) (mm_P μ)) : mm_K μ (X + 84) = (4, 0) := sk_84 h
theorem kt_84 {X : Nat} {μ : Mm} (h : Shp X (mm_K μ) (mm_P μ)) : ((mm_K μ (X + 84)).1 = 4) = True := eq_true (by rw [mk_84 h])
theorem rf_84 {X : Nat} {μ : Mm} (h : Shp X (mm_K μ) (mm_P μ)) (k : Nat) : gf_I 4 k (X + 84) μ = some (mm_I μ (X + 84) k) := e_gfI (by rw [mk_84 h])
theorem wf_84 {X : Nat} {μ : Mm} (h : Shp X (mm_K μ) (mm_P μ)) (k : Nat) (v : Int32) : pf_I 4 k (X + 84) v μ = some (ms_I μ (X + 84) k v) := e_pfI (by rw [mk_84 h])
theorem wz_84 {X : Nat} {μ : Mm} (h : Shp X (mm_K μ) (mm_P μ)) (k : Nat) (v : Int32) (hv : v = 0 ∨ v = 1) : pf_Z 4 k (X + 84) v μ = some (ms_I μ (X + 84) k v) := e_pfZ (by rw [mk_84 h]) hv
theorem wz0_84 {X : Nat} {μ : Mm} (h : Shp X (mm_K μ) (mm_P μ)) (k : Nat) : pf_Z 4 k (X + 84) 0 μ = some (ms_I μ (X + 84) k 0) := wz_84 h k 0 (Or.inl rfl)
theorem wz1_84 {X : Nat} {μ : Mm} (h : Shp X (mm_K μ) (mm_P μ)) (k : Nat) : pf_Z 4 k (X + 84) 1 μ = some (ms_I μ (X + 84) k 1) := wz_84 h k 1 (Or.inr rfl)
theorem mk_85 {X : Nat} {μ : Mm} (h : Shp X (mm_K μ) (mm_P μ)) : mm_K μ (X + 85) = (20, 12) := sk_85 h
theorem ln_85 {X : Nat} {μ : Mm} (h : Shp X (mm_K μ) (mm_P μ)) : ga_len (X + 85) μ = some (nI 12) := e_len (mk_85 h) ⟨by decide, by decide⟩
theorem ra_85 {X : Nat} {μ : Mm} (h : Shp X (mm_K μ) (mm_P μ)) {i : Nat} (hi : i < 12) : ga_I (X + 85) (nI i) μ = some (mm_I μ (X + 85) i) := e_gaI (mk_85 h) hi (by decide)
theorem wa_85 {X : Nat} {μ : Mm} (h : Shp X (mm_K μ) (mm_P μ)) {i : Nat} (v : Int32) (hi : i < 12) : pa_I (X + 85) (nI i) v μ = some (ms_I μ (X + 85) i v) := e_paI (mk_85 h) hi (by decide)
theorem mk_86 {X : Nat} {μ : Mm} (h : Shp X (mm_K μ) (mm_P μ)) : mm_K μ (X + 86) = (4, 0) := sk_86 h
theorem kt_86 {X : Nat} {μ : Mm} (h : Shp X (mm_K μ) (mm_P μ)) : ((mm_K μ (X + 86)).1 = 4) = True := eq_true (by rw [mk_86 h])
theorem rf_86 {X : Nat} {μ : Mm} (h : Shp X (mm_K μ) (mm_P μ)) (k : Nat) : gf_I 4 k (X + 86) μ = some (mm_I μ (X + 86) k) := e_gfI (by rw [mk_86 h])
theorem wf_86 {X : Nat} {μ : Mm} (h : Shp X (mm_K μ) (mm_P μ)) (k : Nat) (v : Int32) : pf_I 4 k (X + 86) v μ = some (ms_I μ (X + 86) k v) := e_pfI (by rw [mk_86 h])
theorem wz_86 {X : Nat} {μ : Mm} (h : Shp X (mm_K μ) (mm_P μ)) (k : Nat) (v : Int32) (hv : v = 0 ∨ v = 1) : pf_Z 4 k (X + 86) v μ = some (ms_I μ (X + 86) k v) := e_pfZ (by rw [mk_86 h]) hv
theorem wz0_86 {X : Nat} {μ : Mm} (h : Shp X (mm_K μ) (mm_P μ)) (k : Nat) : pf_Z 4 k (X + 86) 0 μ = some (ms_I μ (X + 86) k 0) := wz_86 h k 0 (Or.inl rfl)
theorem wz1_86 {X : Nat} {μ : Mm} (h : Shp X (mm_K μ) (mm_P μ)) (k : Nat) : pf_Z 4 k (X + 86) 1 μ = some (ms_I μ (X + 86) k 1) := wz_86 h k 1 (Or.inr rfl)
theorem mk_87 {X : Nat} {μ : Mm} (h : Shp X (mm_K μ) (mm_P μ)) : mm_K μ (X + 87) = (20, 12) := sk_87 h
theorem ln_87 {X : Nat} {μ : Mm} (h : Shp X (mm_K μ) (mm_P μ)) : ga_len (X + 87) μ = some (nI 12) := e_len (mk_87 h) ⟨by decide, by decide⟩
theorem ra_87 {X : Nat} {μ : Mm} (h : Shp X (mm_K μ) (mm_P μ)) {i : Nat} (hi : i < 12) : ga_I (X + 87) (nI i) μ = some (mm_I μ (X + 87) i) := e_gaI (mk_87 h) hi (by decide)
theorem wa_87 {X : Nat} {μ : Mm} (h : Shp X (mm_K μ) (mm_P μ)) {i : Nat} (v : Int32) (hi : i < 12) : pa_I (X + 87) (nI i) v μ = some (ms_I μ (X + 87) i v) := e_paI (mk_87 h) hi (by decide)
theorem mk_88 {X : Nat} {μ : Mm} (h : Shp X (mm_K μ) (mm_P μ)) : mm_K μ (X + 88) = (4, 0) := sk_88 h
theorem kt_88 {X : Nat} {μ : Mm} (h : Shp X (mm_K μ) (mm_P μ)) : ((mm_K μ (X + 88)).1 = 4) = True := eq_true (by rw [mk_88 h])
theorem rf_88 {X : Nat} {μ : Mm} (h : Shp X (mm_K μ) (mm_P μ)) (k : Nat) : gf_I 4 k (X + 88) μ = some (mm_I μ (X + 88) k) := e_gfI (by rw [mk_88 h])
theorem wf_88 {X : Nat} {μ : Mm} (h : Shp X (mm_K μ) (mm_P μ)) (k : Nat) (v : Int32) : pf_I 4 k (X + 88) v μ = some (ms_I μ (X + 88) k v) := e_pfI (by rw [mk_88 h])
theorem wz_88 {X : Nat} {μ : Mm} (h : Shp X (mm_K μ) (mm_P μ)) (k : Nat) (v : Int32) (hv : v = 0 ∨ v = 1) : pf_Z 4 k (X + 88) v μ = some (ms_I μ (X + 88) k v) := e_pfZ (by rw [mk_88 h]) hv
theorem wz0_88 {X : Nat} {μ : Mm} (h : Shp X (mm_K μ) (mm_P μ)) (k : Nat) : pf_Z 4 k (X + 88) 0 μ = some (ms_I μ (X + 88) k 0) := wz_88 h k 0 (Or.inl rfl)
theorem wz1_88 {X : Nat} {μ : Mm} (h : Shp X (mm_K μ) (mm_P μ)) (k : Nat) : pf_Z 4 k (X + 88) 1 μ = some (ms_I μ (X + 88) k 1) := wz_88 h k 1 (Or.inr rfl)
theorem mk_89 {X : Nat} {μ : Mm} (h : Shp X (mm_K μ) (mm_P μ)) : mm_K μ (X + 89) = (20, 12) := sk_89 h
theorem ln_89 {X : Nat} {μ : Mm} (h : Shp X (mm_K μ) (mm_P μ)) : ga_len (X + 89) μ = some (nI 12) := e_len (mk_89 h) ⟨by decide, by decide⟩
theorem ra_89 {X : Nat} {μ : Mm} (h : Shp X (mm_K μ) (mm_P μ)) {i : Nat} (hi : i < 12) : ga_I (X + 89) (nI i) μ = some (mm_I μ (X + 89) i) := e_gaI (mk_89 h) hi (by decide)
theorem wa_89 {X : Nat} {μ : Mm} (h : Shp X (mm_K μ) (mm_P μ)) {i : Nat} (v : Int32) (hi : i < 12) : pa_I (X + 89) (nI i) v μ = some (ms_I μ (X + 89) i v) := e_paI (mk_89 h) hi (by decide)
theorem mk_90 {X : Nat} {μ : Mm} (h : Shp X (mm_K μ) (mm_P μ)) : mm_K μ (X + 90) = (12, 0) := sk_90 h
theorem kt_90 {X : Nat} {μ : Mm} (h : Shp X (mm_K μ) (mm_P μ)) : ((mm_K μ (X + 90)).1 = 12) = True := eq_true (by rw [mk_90 h])
theorem rf_90 {X : Nat} {μ : Mm} (h : Shp X (mm_K μ) (mm_P μ)) (k : Nat) : gf_I 12 k (X + 90) μ = some (mm_I μ (X + 90) k) := e_gfI (by rw [mk_90 h])
theorem wf_90 {X : Nat} {μ : Mm} (h : Shp X (mm_K μ) (mm_P μ)) (k : Nat) (v : Int32) : pf_I 12 k (X + 90) v μ = some (ms_I μ (X + 90) k v) := e_pfI (by rw [mk_90 h])
theorem rl_90 {X : Nat} {μ : Mm} (h : Shp X (mm_K μ) (mm_P μ)) (k : Nat) : gf_L 12 k (X + 90) μ = some (mm_L μ (X + 90) k) := e_gfL (by rw [mk_90 h])
theorem wl_90 {X : Nat} {μ : Mm} (h : Shp X (mm_K μ) (mm_P μ)) (k : Nat) (v : Int64) : pf_L 12 k (X + 90) v μ = some (ms_L μ (X + 90) k v) := e_pfL (by rw [mk_90 h])
theorem wz_90 {X : Nat} {μ : Mm} (h : Shp X (mm_K μ) (mm_P μ)) (k : Nat) (v : Int32) (hv : v = 0 ∨ v = 1) : pf_Z 12 k (X + 90) v μ = some (ms_I μ (X + 90) k v) := e_pfZ (by rw [mk_90 h]) hv
theorem wz0_90 {X : Nat} {μ : Mm} (h : Shp X (mm_K μ) (mm_P μ)) (k : Nat) : pf_Z 12 k (X + 90) 0 μ = some (ms_I μ (X + 90) k 0) := wz_90 h k 0 (Or.inl rfl)
theorem wz1_90 {X : Nat} {μ : Mm} (h : Shp X (mm_K μ) (mm_P μ)) (k : Nat) : pf_Z 12 k (X + 90) 1 μ = some (ms_I μ (X + 90) k 1) := wz_90 h k 1 (Or.inr rfl)
theorem mk_91 {X : Nat} {μ : Mm} (h : Shp X (mm_K μ) (mm_P μ)) : mm_K μ (X + 91) = (22, 900) := sk_91 h
theorem ln_91 {X : Nat} {μ : Mm} (h : Shp X (mm_K μ) (mm_P μ)) : ga_len (X + 91) μ = some (nI 900) := e_len (mk_91 h) ⟨by decide, by decide⟩
theorem ra_91 {X : Nat} {μ : Mm} (h : Shp X (mm_K μ) (mm_P μ)) {i : Nat} (hi : i < 900) : ga_B (X + 91) (nI i) μ = some (mm_I μ (X + 91) i) := e_gaB (mk_91 h) hi (by decide)
theorem wa_91 {X : Nat} {μ : Mm} (h : Shp X (mm_K μ) (mm_P μ)) {i : Nat} (v : Int32) (hi : i < 900) : pa_B (X + 91) (nI i) v μ = some (ms_I μ (X + 91) i v.toInt8.toInt32) := e_paB (mk_91 h) hi (by decide)
theorem mk_92 {X : Nat} {μ : Mm} (h : Shp X (mm_K μ) (mm_P μ)) : mm_K μ (X + 92) = (20, 22) := sk_92 h
theorem ln_92 {X : Nat} {μ : Mm} (h : Shp X (mm_K μ) (mm_P μ)) : ga_len (X + 92) μ = some (nI 22) := e_len (mk_92 h) ⟨by decide, by decide⟩
theorem ra_92 {X : Nat} {μ : Mm} (h : Shp X (mm_K μ) (mm_P μ)) {i : Nat} (hi : i < 22) : ga_I (X + 92) (nI i) μ = some (mm_I μ (X + 92) i) := e_gaI (mk_92 h) hi (by decide)
theorem wa_92 {X : Nat} {μ : Mm} (h : Shp X (mm_K μ) (mm_P μ)) {i : Nat} (v : Int32) (hi : i < 22) : pa_I (X + 92) (nI i) v μ = some (ms_I μ (X + 92) i v) := e_paI (mk_92 h) hi (by decide)
theorem mk_93 {X : Nat} {μ : Mm} (h : Shp X (mm_K μ) (mm_P μ)) : mm_K μ (X + 93) = (21, 8) := sk_93 h
theorem ln_93 {X : Nat} {μ : Mm} (h : Shp X (mm_K μ) (mm_P μ)) : ga_len (X + 93) μ = some (nI 8) := e_len (mk_93 h) ⟨by decide, by decide⟩
theorem ra_93 {X : Nat} {μ : Mm} (h : Shp X (mm_K μ) (mm_P μ)) {i : Nat} (hi : i < 8) : ga_L (X + 93) (nI i) μ = some (mm_L μ (X + 93) i) := e_gaL (mk_93 h) hi (by decide)
theorem wa_93 {X : Nat} {μ : Mm} (h : Shp X (mm_K μ) (mm_P μ)) {i : Nat} (v : Int64) (hi : i < 8) : pa_L (X + 93) (nI i) v μ = some (ms_L μ (X + 93) i v) := e_paL (mk_93 h) hi (by decide)
theorem mk_94 {X : Nat} {μ : Mm} (h : Shp X (mm_K μ) (mm_P μ)) : mm_K μ (X + 94) = (20, 16) := sk_94 h
theorem ln_94 {X : Nat} {μ : Mm} (h : Shp X (mm_K μ) (mm_P μ)) : ga_len (X + 94) μ = some (nI 16) := e_len (mk_94 h) ⟨by decide, by decide⟩
theorem ra_94 {X : Nat} {μ : Mm} (h : Shp X (mm_K μ) (mm_P μ)) {i : Nat} (hi : i < 16) : ga_I (X + 94) (nI i) μ = some (mm_I μ (X + 94) i) := e_gaI (mk_94 h) hi (by decide)
theorem wa_94 {X : Nat} {μ : Mm} (h : Shp X (mm_K μ) (mm_P μ)) {i : Nat} (v : Int32) (hi : i < 16) : pa_I (X + 94) (nI i) v μ = some (ms_I μ (X + 94) i v) := e_paI (mk_94 h) hi (by decide)
theorem mk_95 {X : Nat} {μ : Mm} (h : Shp X (mm_K μ) (mm_P μ)) : mm_K μ (X + 95) = (20, 24) := sk_95 h
theorem ln_95 {X : Nat} {μ : Mm} (h : Shp X (mm_K μ) (mm_P μ)) : ga_len (X + 95) μ = some (nI 24) := e_len (mk_95 h) ⟨by decide, by decide⟩
theorem ra_95 {X : Nat} {μ : Mm} (h : Shp X (mm_K μ) (mm_P μ)) {i : Nat} (hi : i < 24) : ga_I (X + 95) (nI i) μ = some (mm_I μ (X + 95) i) := e_gaI (mk_95 h) hi (by decide)
theorem wa_95 {X : Nat} {μ : Mm} (h : Shp X (mm_K μ) (mm_P μ)) {i : Nat} (v : Int32) (hi : i < 24) : pa_I (X + 95) (nI i) v μ = some (ms_I μ (X + 95) i v) := e_paI (mk_95 h) hi (by decide)
theorem mk_96 {X : Nat} {μ : Mm} (h : Shp X (mm_K μ) (mm_P μ)) : mm_K μ (X + 96) = (20, 24) := sk_96 h
theorem ln_96 {X : Nat} {μ : Mm} (h : Shp X (mm_K μ) (mm_P μ)) : ga_len (X + 96) μ = some (nI 24) := e_len (mk_96 h) ⟨by decide, by decide⟩
theorem ra_96 {X : Nat} {μ : Mm} (h : Shp X (mm_K μ) (mm_P μ)) {i : Nat} (hi : i < 24) : ga_I (X + 96) (nI i) μ = some (mm_I μ (X + 96) i) := e_gaI (mk_96 h) hi (by decide)
theorem wa_96 {X : Nat} {μ : Mm} (h : Shp X (mm_K μ) (mm_P μ)) {i : Nat} (v : Int32) (hi : i < 24) : pa_I (X + 96) (nI i) v μ = some (ms_I μ (X + 96) i v) := e_paI (mk_96 h) hi (by decide)
theorem mk_97 {X : Nat} {μ : Mm} (h : Shp X (mm_K μ) (mm_P μ)) : mm_K μ (X + 97) = (20, 16) := sk_97 h
theorem ln_97 {X : Nat} {μ : Mm} (h : Shp X (mm_K μ) (mm_P μ)) : ga_len (X + 97) μ = some (nI 16) := e_len (mk_97 h) ⟨by decide, by decide⟩
theorem ra_97 {X : Nat} {μ : Mm} (h : Shp X (mm_K μ) (mm_P μ)) {i : Nat} (hi : i < 16) : ga_I (X + 97) (nI i) μ = some (mm_I μ (X + 97) i) := e_gaI (mk_97 h) hi (by decide)
theorem wa_97 {X : Nat} {μ : Mm} (h : Shp X (mm_K μ) (mm_P μ)) {i : Nat} (v : Int32) (hi : i < 16) : pa_I (X + 97) (nI i) v μ = some (ms_I μ (X + 97) i v) := e_paI (mk_97 h) hi (by decide)
theorem mk_98 {X : Nat} {μ : Mm} (h : Shp X (mm_K μ) (mm_P μ)) : mm_K μ (X + 98) = (20, 16) := sk_98 h
theorem ln_98 {X : Nat} {μ : Mm} (h : Shp X (mm_K μ) (mm_P μ)) : ga_len (X + 98) μ = some (nI 16) := e_len (mk_98 h) ⟨by decide, by decide⟩
theorem ra_98 {X : Nat} {μ : Mm} (h : Shp X (mm_K μ) (mm_P μ)) {i : Nat} (hi : i < 16) : ga_I (X + 98) (nI i) μ = some (mm_I μ (X + 98) i) := e_gaI (mk_98 h) hi (by decide)
theorem wa_98 {X : Nat} {μ : Mm} (h : Shp X (mm_K μ) (mm_P μ)) {i : Nat} (v : Int32) (hi : i < 16) : pa_I (X + 98) (nI i) v μ = some (ms_I μ (X + 98) i v) := e_paI (mk_98 h) hi (by decide)
theorem mk_99 {X : Nat} {μ : Mm} (h : Shp X (mm_K μ) (mm_P μ)) : mm_K μ (X + 99) = (20, 16) := sk_99 h
theorem ln_99 {X : Nat} {μ : Mm} (h : Shp X (mm_K μ) (mm_P μ)) : ga_len (X + 99) μ = some (nI 16) := e_len (mk_99 h) ⟨by decide, by decide⟩
theorem ra_99 {X : Nat} {μ : Mm} (h : Shp X (mm_K μ) (mm_P μ)) {i : Nat} (hi : i < 16) : ga_I (X + 99) (nI i) μ = some (mm_I μ (X + 99) i) := e_gaI (mk_99 h) hi (by decide)
theorem wa_99 {X : Nat} {μ : Mm} (h : Shp X (mm_K μ) (mm_P μ)) {i : Nat} (v : Int32) (hi : i < 16) : pa_I (X + 99) (nI i) v μ = some (ms_I μ (X + 99) i v) := e_paI (mk_99 h) hi (by decide)
theorem mk_100 {X : Nat} {μ : Mm} (h : Shp X (mm_K μ) (mm_P μ)) : mm_K μ (X + 100) = (20, 16) := sk_100 h
theorem ln_100 {X : Nat} {μ : Mm} (h : Shp X (mm_K μ) (mm_P μ)) : ga_len (X + 100) μ = some (nI 16) := e_len (mk_100 h) ⟨by decide, by decide⟩
theorem ra_100 {X : Nat} {μ : Mm} (h : Shp X (mm_K μ) (mm_P μ)) {i : Nat} (hi : i < 16) : ga_I (X + 100) (nI i) μ = some (mm_I μ (X + 100) i) := e_gaI (mk_100 h) hi (by decide)
theorem wa_100 {X : Nat} {μ : Mm} (h : Shp X (mm_K μ) (mm_P μ)) {i : Nat} (v : Int32) (hi : i < 16) : pa_I (X + 100) (nI i) v μ = some (ms_I μ (X + 100) i v) := e_paI (mk_100 h) hi (by decide)
theorem mk_101 {X : Nat} {μ : Mm} (h : Shp X (mm_K μ) (mm_P μ)) : mm_K μ (X + 101) = (20, 16) := sk_101 h
theorem ln_101 {X : Nat} {μ : Mm} (h : Shp X (mm_K μ) (mm_P μ)) : ga_len (X + 101) μ = some (nI 16) := e_len (mk_101 h) ⟨by decide, by decide⟩
theorem ra_101 {X : Nat} {μ : Mm} (h : Shp X (mm_K μ) (mm_P μ)) {i : Nat} (hi : i < 16) : ga_I (X + 101) (nI i) μ = some (mm_I μ (X + 101) i) := e_gaI (mk_101 h) hi (by decide)
theorem wa_101 {X : Nat} {μ : Mm} (h : Shp X (mm_K μ) (mm_P μ)) {i : Nat} (v : Int32) (hi : i < 16) : pa_I (X + 101) (nI i) v μ = some (ms_I μ (X + 101) i v) := e_paI (mk_101 h) hi (by decide)
theorem mk_102 {X : Nat} {μ : Mm} (h : Shp X (mm_K μ) (mm_P μ)) : mm_K μ (X + 102) = (20, 16) := sk_102 h
theorem ln_102 {X : Nat} {μ : Mm} (h : Shp X (mm_K μ) (mm_P μ)) : ga_len (X + 102) μ = some (nI 16) := e_len (mk_102 h) ⟨by decide, by decide⟩
theorem ra_102 {X : Nat} {μ : Mm} (h : Shp X (mm_K μ) (mm_P μ)) {i : Nat} (hi : i < 16) : ga_I (X + 102) (nI i) μ = some (mm_I μ (X + 102) i) := e_gaI (mk_102 h) hi (by decide)
theorem wa_102 {X : Nat} {μ : Mm} (h : Shp X (mm_K μ) (mm_P μ)) {i : Nat} (v : Int32) (hi : i < 16) : pa_I (X + 102) (nI i) v μ = some (ms_I μ (X + 102) i v) := e_paI (mk_102 h) hi (by decide)
theorem mk_103 {X : Nat} {μ : Mm} (h : Shp X (mm_K μ) (mm_P μ)) : mm_K μ (X + 103) = (20, 16) := sk_103 h
theorem ln_103 {X : Nat} {μ : Mm} (h : Shp X (mm_K μ) (mm_P μ)) : ga_len (X + 103) μ = some (nI 16) := e_len (mk_103 h) ⟨by decide, by decide⟩
theorem ra_103 {X : Nat} {μ : Mm} (h : Shp X (mm_K μ) (mm_P μ)) {i : Nat} (hi : i < 16) : ga_I (X + 103) (nI i) μ = some (mm_I μ (X + 103) i) := e_gaI (mk_103 h) hi (by decide)
theorem wa_103 {X : Nat} {μ : Mm} (h : Shp X (mm_K μ) (mm_P μ)) {i : Nat} (v : Int32) (hi : i < 16) : pa_I (X + 103) (nI i) v μ = some (ms_I μ (X + 103) i v) := e_paI (mk_103 h) hi (by decide)
theorem mk_104 {X : Nat} {μ : Mm} (h : Shp X (mm_K μ) (mm_P μ)) : mm_K μ (X + 104) = (20, 16) := sk_104 h
theorem ln_104 {X : Nat} {μ : Mm} (h : Shp X (mm_K μ) (mm_P μ)) : ga_len (X + 104) μ = some (nI 16) := e_len (mk_104 h) ⟨by decide, by decide⟩
theorem ra_104 {X : Nat} {μ : Mm} (h : Shp X (mm_K μ) (mm_P μ)) {i : Nat} (hi : i < 16) : ga_I (X + 104) (nI i) μ = some (mm_I μ (X + 104) i) := e_gaI (mk_104 h) hi (by decide)
theorem wa_104 {X : Nat} {μ : Mm} (h : Shp X (mm_K μ) (mm_P μ)) {i : Nat} (v : Int32) (hi : i < 16) : pa_I (X + 104) (nI i) v μ = some (ms_I μ (X + 104) i v) := e_paI (mk_104 h) hi (by decide)
theorem mk_105 {X : Nat} {μ : Mm} (h : Shp X (mm_K μ) (mm_P μ)) : mm_K μ (X + 105) = (20, 16) := sk_105 h
theorem ln_105 {X : Nat} {μ : Mm} (h : Shp X (mm_K μ) (mm_P μ)) : ga_len (X + 105) μ = some (nI 16) := e_len (mk_105 h) ⟨by decide, by decide⟩
theorem ra_105 {X : Nat} {μ : Mm} (h : Shp X (mm_K μ) (mm_P μ)) {i : Nat} (hi : i < 16) : ga_I (X + 105) (nI i) μ = some (mm_I μ (X + 105) i) := e_gaI (mk_105 h) hi (by decide)
theorem wa_105 {X : Nat} {μ : Mm} (h : Shp X (mm_K μ) (mm_P μ)) {i : Nat} (v : Int32) (hi : i < 16) : pa_I (X + 105) (nI i) v μ = some (ms_I μ (X + 105) i v) := e_paI (mk_105 h) hi (by decide)
theorem mk_106 {X : Nat} {μ : Mm} (h : Shp X (mm_K μ) (mm_P μ)) : mm_K μ (X + 106) = (20, 16) := sk_106 h
theorem ln_106 {X : Nat} {μ : Mm} (h : Shp X (mm_K μ) (mm_P μ)) : ga_len (X + 106) μ = some (nI 16) := e_len (mk_106 h) ⟨by decide, by decide⟩
theorem ra_106 {X : Nat} {μ : Mm} (h : Shp X (mm_K μ) (mm_P μ)) {i : Nat} (hi : i < 16) : ga_I (X + 106) (nI i) μ = some (mm_I μ (X + 106) i) := e_gaI (mk_106 h) hi (by decide)
theorem wa_106 {X : Nat} {μ : Mm} (h : Shp X (mm_K μ) (mm_P μ)) {i : Nat} (v : Int32) (hi : i < 16) : pa_I (X + 106) (nI i) v μ = some (ms_I μ (X + 106) i v) := e_paI (mk_106 h) hi (by decide)
theorem mk_107 {X : Nat} {μ : Mm} (h : Shp X (mm_K μ) (mm_P μ)) : mm_K μ (X + 107) = (20, 16) := sk_107 h
theorem ln_107 {X : Nat} {μ : Mm} (h : Shp X (mm_K μ) (mm_P μ)) : ga_len (X + 107) μ = some (nI 16) := e_len (mk_107 h) ⟨by decide, by decide⟩
theorem ra_107 {X : Nat} {μ : Mm} (h : Shp X (mm_K μ) (mm_P μ)) {i : Nat} (hi : i < 16) : ga_I (X + 107) (nI i) μ = some (mm_I μ (X + 107) i) := e_gaI (mk_107 h) hi (by decide)
theorem wa_107 {X : Nat} {μ : Mm} (h : Shp X (mm_K μ) (mm_P μ)) {i : Nat} (v : Int32) (hi : i < 16) : pa_I (X + 107) (nI i) v μ = some (ms_I μ (X + 107) i v) := e_paI (mk_107 h) hi (by decide)
theorem mk_108 {X : Nat} {μ : Mm} (h : Shp X (mm_K μ) (mm_P μ)) : mm_K μ (X + 108) = (20, 16) := sk_108 h
theorem ln_108 {X : Nat} {μ : Mm} (h : Shp X (mm_K μ) (mm_P μ)) : ga_len (X + 108) μ = some (nI 16) := e_len (mk_108 h) ⟨by decide, by decide⟩
theorem ra_108 {X : Nat} {μ : Mm} (h : Shp X (mm_K μ) (mm_P μ)) {i : Nat} (hi : i < 16) : ga_I (X + 108) (nI i) μ = some (mm_I μ (X + 108) i) := e_gaI (mk_108 h) hi (by decide)
theorem wa_108 {X : Nat} {μ : Mm} (h : Shp X (mm_K μ) (mm_P μ)) {i : Nat} (v : Int32) (hi : i < 16) : pa_I (X + 108) (nI i) v μ = some (ms_I μ (X + 108) i v) := e_paI (mk_108 h) hi (by decide)
theorem mk_109 {X : Nat} {μ : Mm} (h : Shp X (mm_K μ) (mm_P μ)) : mm_K μ (X + 109) = (20, 16) := sk_109 h
theorem ln_109 {X : Nat} {μ : Mm} (h : Shp X (mm_K μ) (mm_P μ)) : ga_len (X + 109) μ = some (nI 16) := e_len (mk_109 h) ⟨by decide, by decide⟩
theorem ra_109 {X : Nat} {μ : Mm} (h : Shp X (mm_K μ) (mm_P μ)) {i : Nat} (hi : i < 16) : ga_I (X + 109) (nI i) μ = some (mm_I μ (X + 109) i) := e_gaI (mk_109 h) hi (by decide)
theorem wa_109 {X : Nat} {μ : Mm} (h : Shp X (mm_K μ) (mm_P μ)) {i : Nat} (v : Int32) (hi : i < 16) : pa_I (X + 109) (nI i) v μ = some (ms_I μ (X + 109) i v) := e_paI (mk_109 h) hi (by decide)
theorem mk_110 {X : Nat} {μ : Mm} (h : Shp X (mm_K μ) (mm_P μ)) : mm_K μ (X + 110) = (21, 14833) := sk_110 h
theorem ln_110 {X : Nat} {μ : Mm} (h : Shp X (mm_K μ) (mm_P μ)) : ga_len (X + 110) μ = some (nI 14833) := e_len (mk_110 h) ⟨by decide, by decide⟩
theorem ra_110 {X : Nat} {μ : Mm} (h : Shp X (mm_K μ) (mm_P μ)) {i : Nat} (hi : i < 14833) : ga_L (X + 110) (nI i) μ = some (mm_L μ (X + 110) i) := e_gaL (mk_110 h) hi (by decide)
theorem wa_110 {X : Nat} {μ : Mm} (h : Shp X (mm_K μ) (mm_P μ)) {i : Nat} (v : Int64) (hi : i < 14833) : pa_L (X + 110) (nI i) v μ = some (ms_L μ (X + 110) i v) := e_paL (mk_110 h) hi (by decide)
theorem mk_111 {X : Nat} {μ : Mm} (h : Shp X (mm_K μ) (mm_P μ)) : mm_K μ (X + 111) = (20, 8) := sk_111 h
theorem ln_111 {X : Nat} {μ : Mm} (h : Shp X (mm_K μ) (mm_P μ)) : ga_len (X + 111) μ = some (nI 8) := e_len (mk_111 h) ⟨by decide, by decide⟩
theorem ra_111 {X : Nat} {μ : Mm} (h : Shp X (mm_K μ) (mm_P μ)) {i : Nat} (hi : i < 8) : ga_I (X + 111) (nI i) μ = some (mm_I μ (X + 111) i) := e_gaI (mk_111 h) hi (by decide)
theorem wa_111 {X : Nat} {μ : Mm} (h : Shp X (mm_K μ) (mm_P μ)) {i : Nat} (v : Int32) (hi : i < 8) : pa_I (X + 111) (nI i) v μ = some (ms_I μ (X + 111) i v) := e_paI (mk_111 h) hi (by decide)
theorem mk_112 {X : Nat} {μ : Mm} (h : Shp X (mm_K μ) (mm_P μ)) : mm_K μ (X + 112) = (20, 8) := sk_112 h
theorem ln_112 {X : Nat} {μ : Mm} (h : Shp X (mm_K μ) (mm_P μ)) : ga_len (X + 112) μ = some (nI 8) := e_len (mk_112 h) ⟨by decide, by decide⟩
theorem ra_112 {X : Nat} {μ : Mm} (h : Shp X (mm_K μ) (mm_P μ)) {i : Nat} (hi : i < 8) : ga_I (X + 112) (nI i) μ = some (mm_I μ (X + 112) i) := e_gaI (mk_112 h) hi (by decide)
theorem wa_112 {X : Nat} {μ : Mm} (h : Shp X (mm_K μ) (mm_P μ)) {i : Nat} (v : Int32) (hi : i < 8) : pa_I (X + 112) (nI i) v μ = some (ms_I μ (X + 112) i v) := e_paI (mk_112 h) hi (by decide)
theorem mk_113 {X : Nat} {μ : Mm} (h : Shp X (mm_K μ) (mm_P μ)) : mm_K μ (X + 113) = (20, 150) := sk_113 h
theorem ln_113 {X : Nat} {μ : Mm} (h : Shp X (mm_K μ) (mm_P μ)) : ga_len (X + 113) μ = some (nI 150) := e_len (mk_113 h) ⟨by decide, by decide⟩
theorem ra_113 {X : Nat} {μ : Mm} (h : Shp X (mm_K μ) (mm_P μ)) {i : Nat} (hi : i < 150) : ga_I (X + 113) (nI i) μ = some (mm_I μ (X + 113) i) := e_gaI (mk_113 h) hi (by decide)
theorem wa_113 {X : Nat} {μ : Mm} (h : Shp X (mm_K μ) (mm_P μ)) {i : Nat} (v : Int32) (hi : i < 150) : pa_I (X + 113) (nI i) v μ = some (ms_I μ (X + 113) i v) := e_paI (mk_113 h) hi (by decide)
theorem mk_114 {X : Nat} {μ : Mm} (h : Shp X (mm_K μ) (mm_P μ)) : mm_K μ (X + 114) = (20, 150) := sk_114 h
theorem ln_114 {X : Nat} {μ : Mm} (h : Shp X (mm_K μ) (mm_P μ)) : ga_len (X + 114) μ = some (nI 150) := e_len (mk_114 h) ⟨by decide, by decide⟩
theorem ra_114 {X : Nat} {μ : Mm} (h : Shp X (mm_K μ) (mm_P μ)) {i : Nat} (hi : i < 150) : ga_I (X + 114) (nI i) μ = some (mm_I μ (X + 114) i) := e_gaI (mk_114 h) hi (by decide)
theorem wa_114 {X : Nat} {μ : Mm} (h : Shp X (mm_K μ) (mm_P μ)) {i : Nat} (v : Int32) (hi : i < 150) : pa_I (X + 114) (nI i) v μ = some (ms_I μ (X + 114) i v) := e_paI (mk_114 h) hi (by decide)
theorem mk_115 {X : Nat} {μ : Mm} (h : Shp X (mm_K μ) (mm_P μ)) : mm_K μ (X + 115) = (20, 150) := sk_115 h
theorem ln_115 {X : Nat} {μ : Mm} (h : Shp X (mm_K μ) (mm_P μ)) : ga_len (X + 115) μ = some (nI 150) := e_len (mk_115 h) ⟨by decide, by decide⟩
theorem ra_115 {X : Nat} {μ : Mm} (h : Shp X (mm_K μ) (mm_P μ)) {i : Nat} (hi : i < 150) : ga_I (X + 115) (nI i) μ = some (mm_I μ (X + 115) i) := e_gaI (mk_115 h) hi (by decide)
theorem wa_115 {X : Nat} {μ : Mm} (h : Shp X (mm_K μ) (mm_P μ)) {i : Nat} (v : Int32) (hi : i < 150) : pa_I (X + 115) (nI i) v μ = some (ms_I μ (X + 115) i v) := e_paI (mk_115 h) hi (by decide)
theorem mk_116 {X : Nat} {μ : Mm} (h : Shp X (mm_K μ) (mm_P μ)) : mm_K μ (X + 116) = (20, 16) := sk_116 h
theorem ln_116 {X : Nat} {μ : Mm} (h : Shp X (mm_K μ) (mm_P μ)) : ga_len (X + 116) μ = some (nI 16) := e_len (mk_116 h) ⟨by decide, by decide⟩
theorem ra_116 {X : Nat} {μ : Mm} (h : Shp X (mm_K μ) (mm_P μ)) {i : Nat} (hi : i < 16) : ga_I (X + 116) (nI i) μ = some (mm_I μ (X + 116) i) := e_gaI (mk_116 h) hi (by decide)
theorem wa_116 {X : Nat} {μ : Mm} (h : Shp X (mm_K μ) (mm_P μ)) {i : Nat} (v : Int32) (hi : i < 16) : pa_I (X + 116) (nI i) v μ = some (ms_I μ (X + 116) i v) := e_paI (mk_116 h) hi (by decide)
theorem mk_117 {X : Nat} {μ : Mm} (h : Shp X (mm_K μ) (mm_P μ)) : mm_K μ (X + 117) = (20, 16) := sk_117 h
theorem ln_117 {X : Nat} {μ : Mm} (h : Shp X (mm_K μ) (mm_P μ)) : ga_len (X + 117) μ = some (nI 16) := e_len (mk_117 h) ⟨by decide, by decide⟩
theorem ra_117 {X : Nat} {μ : Mm} (h : Shp X (mm_K μ) (mm_P μ)) {i : Nat} (hi : i < 16) : ga_I (X + 117) (nI i) μ = some (mm_I μ (X + 117) i) := e_gaI (mk_117 h) hi (by decide)
theorem wa_117 {X : Nat} {μ : Mm} (h : Shp X (mm_K μ) (mm_P μ)) {i : Nat} (v : Int32) (hi : i < 16) : pa_I (X + 117) (nI i) v μ = some (ms_I μ (X + 117) i v) := e_paI (mk_117 h) hi (by decide)
theorem mk_118 {X : Nat} {μ : Mm} (h : Shp X (mm_K μ) (mm_P μ)) : mm_K μ (X + 118) = (20, 16) := sk_118 h
theorem ln_118 {X : Nat} {μ : Mm} (h : Shp X (mm_K μ) (mm_P μ)) : ga_len (X + 118) μ = some (nI 16) := e_len (mk_118 h) ⟨by decide, by decide⟩
theorem ra_118 {X : Nat} {μ : Mm} (h : Shp X (mm_K μ) (mm_P μ)) {i : Nat} (hi : i < 16) : ga_I (X + 118) (nI i) μ = some (mm_I μ (X + 118) i) := e_gaI (mk_118 h) hi (by decide)
theorem wa_118 {X : Nat} {μ : Mm} (h : Shp X (mm_K μ) (mm_P μ)) {i : Nat} (v : Int32) (hi : i < 16) : pa_I (X + 118) (nI i) v μ = some (ms_I μ (X + 118) i v) := e_paI (mk_118 h) hi (by decide)
theorem mk_119 {X : Nat} {μ : Mm} (h : Shp X (mm_K μ) (mm_P μ)) : mm_K μ (X + 119) = (20, 16) := sk_119 h
theorem ln_119 {X : Nat} {μ : Mm} (h : Shp X (mm_K μ) (mm_P μ)) : ga_len (X + 119) μ = some (nI 16) := e_len (mk_119 h) ⟨by decide, by decide⟩
theorem ra_119 {X : Nat} {μ : Mm} (h : Shp X (mm_K μ) (mm_P μ)) {i : Nat} (hi : i < 16) : ga_I (X + 119) (nI i) μ = some (mm_I μ (X + 119) i) := e_gaI (mk_119 h) hi (by decide)
theorem wa_119 {X : Nat} {μ : Mm} (h : Shp X (mm_K μ) (mm_P μ)) {i : Nat} (v : Int32) (hi : i < 16) : pa_I (X + 119) (nI i) v μ = some (ms_I μ (X + 119) i v) := e_paI (mk_119 h) hi (by decide)
theorem mk_120 {X : Nat} {μ : Mm} (h : Shp X (mm_K μ) (mm_P μ)) : mm_K μ (X + 120) = (20, 16) := sk_120 h
theorem ln_120 {X : Nat} {μ : Mm} (h : Shp X (mm_K μ) (mm_P μ)) : ga_len (X + 120) μ = some (nI 16) := e_len (mk_120 h) ⟨by decide, by decide⟩
theorem ra_120 {X : Nat} {μ : Mm} (h : Shp X (mm_K μ) (mm_P μ)) {i : Nat} (hi : i < 16) : ga_I (X + 120) (nI i) μ = some (mm_I μ (X + 120) i) := e_gaI (mk_120 h) hi (by decide)
theorem wa_120 {X : Nat} {μ : Mm} (h : Shp X (mm_K μ) (mm_P μ)) {i : Nat} (v : Int32) (hi : i < 16) : pa_I (X + 120) (nI i) v μ = some (ms_I μ (X + 120) i v) := e_paI (mk_120 h) hi (by decide)
theorem mk_121 {X : Nat} {μ : Mm} (h : Shp X (mm_K μ) (mm_P μ)) : mm_K μ (X + 121) = (20, 20) := sk_121 h
theorem ln_121 {X : Nat} {μ : Mm} (h : Shp X (mm_K μ) (mm_P μ)) : ga_len (X + 121) μ = some (nI 20) := e_len (mk_121 h) ⟨by decide, by decide⟩
theorem ra_121 {X : Nat} {μ : Mm} (h : Shp X (mm_K μ) (mm_P μ)) {i : Nat} (hi : i < 20) : ga_I (X + 121) (nI i) μ = some (mm_I μ (X + 121) i) := e_gaI (mk_121 h) hi (by decide)
theorem wa_121 {X : Nat} {μ : Mm} (h : Shp X (mm_K μ) (mm_P μ)) {i : Nat} (v : Int32) (hi : i < 20) : pa_I (X + 121) (nI i) v μ = some (ms_I μ (X + 121) i v) := e_paI (mk_121 h) hi (by decide)
theorem mk_122 {X : Nat} {μ : Mm} (h : Shp X (mm_K μ) (mm_P μ)) : mm_K μ (X + 122) = (20, 20) := sk_122 h
theorem ln_122 {X : Nat} {μ : Mm} (h : Shp X (mm_K μ) (mm_P μ)) : ga_len (X + 122) μ = some (nI 20) := e_len (mk_122 h) ⟨by decide, by decide⟩
theorem ra_122 {X : Nat} {μ : Mm} (h : Shp X (mm_K μ) (mm_P μ)) {i : Nat} (hi : i < 20) : ga_I (X + 122) (nI i) μ = some (mm_I μ (X + 122) i) := e_gaI (mk_122 h) hi (by decide)
theorem wa_122 {X : Nat} {μ : Mm} (h : Shp X (mm_K μ) (mm_P μ)) {i : Nat} (v : Int32) (hi : i < 20) : pa_I (X + 122) (nI i) v μ = some (ms_I μ (X + 122) i v) := e_paI (mk_122 h) hi (by decide)
theorem mk_123 {X : Nat} {μ : Mm} (h : Shp X (mm_K μ) (mm_P μ)) : mm_K μ (X + 123) = (20, 20) := sk_123 h
theorem ln_123 {X : Nat} {μ : Mm} (h : Shp X (mm_K μ) (mm_P μ)) : ga_len (X + 123) μ = some (nI 20) := e_len (mk_123 h) ⟨by decide, by decide⟩
theorem ra_123 {X : Nat} {μ : Mm} (h : Shp X (mm_K μ) (mm_P μ)) {i : Nat} (hi : i < 20) : ga_I (X + 123) (nI i) μ = some (mm_I μ (X + 123) i) := e_gaI (mk_123 h) hi (by decide)
theorem wa_123 {X : Nat} {μ : Mm} (h : Shp X (mm_K μ) (mm_P μ)) {i : Nat} (v : Int32) (hi : i < 20) : pa_I (X + 123) (nI i) v μ = some (ms_I μ (X + 123) i v) := e_paI (mk_123 h) hi (by decide)
theorem mk_124 {X : Nat} {μ : Mm} (h : Shp X (mm_K μ) (mm_P μ)) : mm_K μ (X + 124) = (21, 232) := sk_124 h
theorem ln_124 {X : Nat} {μ : Mm} (h : Shp X (mm_K μ) (mm_P μ)) : ga_len (X + 124) μ = some (nI 232) := e_len (mk_124 h) ⟨by decide, by decide⟩
theorem ra_124 {X : Nat} {μ : Mm} (h : Shp X (mm_K μ) (mm_P μ)) {i : Nat} (hi : i < 232) : ga_L (X + 124) (nI i) μ = some (mm_L μ (X + 124) i) := e_gaL (mk_124 h) hi (by decide)
theorem wa_124 {X : Nat} {μ : Mm} (h : Shp X (mm_K μ) (mm_P μ)) {i : Nat} (v : Int64) (hi : i < 232) : pa_L (X + 124) (nI i) v μ = some (ms_L μ (X + 124) i v) := e_paL (mk_124 h) hi (by decide)
theorem mk_125 {X : Nat} {μ : Mm} (h : Shp X (mm_K μ) (mm_P μ)) : mm_K μ (X + 125) = (20, 2688) := sk_125 h
theorem ln_125 {X : Nat} {μ : Mm} (h : Shp X (mm_K μ) (mm_P μ)) : ga_len (X + 125) μ = some (nI 2688) := e_len (mk_125 h) ⟨by decide, by decide⟩
theorem ra_125 {X : Nat} {μ : Mm} (h : Shp X (mm_K μ) (mm_P μ)) {i : Nat} (hi : i < 2688) : ga_I (X + 125) (nI i) μ = some (mm_I μ (X + 125) i) := e_gaI (mk_125 h) hi (by decide)
theorem wa_125 {X : Nat} {μ : Mm} (h : Shp X (mm_K μ) (mm_P μ)) {i : Nat} (v : Int32) (hi : i < 2688) : pa_I (X + 125) (nI i) v μ = some (ms_I μ (X + 125) i v) := e_paI (mk_125 h) hi (by decide)
theorem mk_126 {X : Nat} {μ : Mm} (h : Shp X (mm_K μ) (mm_P μ)) : mm_K μ (X + 126) = (20, 9) := sk_126 h
theorem ln_126 {X : Nat} {μ : Mm} (h : Shp X (mm_K μ) (mm_P μ)) : ga_len (X + 126) μ = some (nI 9) := e_len (mk_126 h) ⟨by decide, by decide⟩
theorem ra_126 {X : Nat} {μ : Mm} (h : Shp X (mm_K μ) (mm_P μ)) {i : Nat} (hi : i < 9) : ga_I (X + 126) (nI i) μ = some (mm_I μ (X + 126) i) := e_gaI (mk_126 h) hi (by decide)
theorem wa_126 {X : Nat} {μ : Mm} (h : Shp X (mm_K μ) (mm_P μ)) {i : Nat} (v : Int32) (hi : i < 9) : pa_I (X + 126) (nI i) v μ = some (ms_I μ (X + 126) i v) := e_paI (mk_126 h) hi (by decide)
theorem mk_127 {X : Nat} {μ : Mm} (h : Shp X (mm_K μ) (mm_P μ)) : mm_K μ (X + 127) = (20, 16) := sk_127 h
theorem ln_127 {X : Nat} {μ : Mm} (h : Shp X (mm_K μ) (mm_P μ)) : ga_len (X + 127) μ = some (nI 16) := e_len (mk_127 h) ⟨by decide, by decide⟩
theorem ra_127 {X : Nat} {μ : Mm} (h : Shp X (mm_K μ) (mm_P μ)) {i : Nat} (hi : i < 16) : ga_I (X + 127) (nI i) μ = some (mm_I μ (X + 127) i) := e_gaI (mk_127 h) hi (by decide)
theorem wa_127 {X : Nat} {μ : Mm} (h : Shp X (mm_K μ) (mm_P μ)) {i : Nat} (v : Int32) (hi : i < 16) : pa_I (X + 127) (nI i) v μ = some (ms_I μ (X + 127) i v) := e_paI (mk_127 h) hi (by decide)
theorem mk_128 {X : Nat} {μ : Mm} (h : Shp X (mm_K μ) (mm_P μ)) : mm_K μ (X + 128) = (20, 21) := sk_128 h
theorem ln_128 {X : Nat} {μ : Mm} (h : Shp X (mm_K μ) (mm_P μ)) : ga_len (X + 128) μ = some (nI 21) := e_len (mk_128 h) ⟨by decide, by decide⟩
theorem ra_128 {X : Nat} {μ : Mm} (h : Shp X (mm_K μ) (mm_P μ)) {i : Nat} (hi : i < 21) : ga_I (X + 128) (nI i) μ = some (mm_I μ (X + 128) i) := e_gaI (mk_128 h) hi (by decide)
theorem wa_128 {X : Nat} {μ : Mm} (h : Shp X (mm_K μ) (mm_P μ)) {i : Nat} (v : Int32) (hi : i < 21) : pa_I (X + 128) (nI i) v μ = some (ms_I μ (X + 128) i v) := e_paI (mk_128 h) hi (by decide)
theorem mk_129 {X : Nat} {μ : Mm} (h : Shp X (mm_K μ) (mm_P μ)) : mm_K μ (X + 129) = (21, 231) := sk_129 h
theorem ln_129 {X : Nat} {μ : Mm} (h : Shp X (mm_K μ) (mm_P μ)) : ga_len (X + 129) μ = some (nI 231) := e_len (mk_129 h) ⟨by decide, by decide⟩
theorem ra_129 {X : Nat} {μ : Mm} (h : Shp X (mm_K μ) (mm_P μ)) {i : Nat} (hi : i < 231) : ga_L (X + 129) (nI i) μ = some (mm_L μ (X + 129) i) := e_gaL (mk_129 h) hi (by decide)
theorem wa_129 {X : Nat} {μ : Mm} (h : Shp X (mm_K μ) (mm_P μ)) {i : Nat} (v : Int64) (hi : i < 231) : pa_L (X + 129) (nI i) v μ = some (ms_L μ (X + 129) i v) := e_paL (mk_129 h) hi (by decide)
theorem mk_130 {X : Nat} {μ : Mm} (h : Shp X (mm_K μ) (mm_P μ)) : mm_K μ (X + 130) = (20, 32) := sk_130 h
theorem ln_130 {X : Nat} {μ : Mm} (h : Shp X (mm_K μ) (mm_P μ)) : ga_len (X + 130) μ = some (nI 32) := e_len (mk_130 h) ⟨by decide, by decide⟩
theorem ra_130 {X : Nat} {μ : Mm} (h : Shp X (mm_K μ) (mm_P μ)) {i : Nat} (hi : i < 32) : ga_I (X + 130) (nI i) μ = some (mm_I μ (X + 130) i) := e_gaI (mk_130 h) hi (by decide)
theorem wa_130 {X : Nat} {μ : Mm} (h : Shp X (mm_K μ) (mm_P μ)) {i : Nat} (v : Int32) (hi : i < 32) : pa_I (X + 130) (nI i) v μ = some (ms_I μ (X + 130) i v) := e_paI (mk_130 h) hi (by decide)
theorem mk_131 {X : Nat} {μ : Mm} (h : Shp X (mm_K μ) (mm_P μ)) : mm_K μ (X + 131) = (20, 3) := sk_131 h
theorem ln_131 {X : Nat} {μ : Mm} (h : Shp X (mm_K μ) (mm_P μ)) : ga_len (X + 131) μ = some (nI 3) := e_len (mk_131 h) ⟨by decide, by decide⟩
theorem ra_131 {X : Nat} {μ : Mm} (h : Shp X (mm_K μ) (mm_P μ)) {i : Nat} (hi : i < 3) : ga_I (X + 131) (nI i) μ = some (mm_I μ (X + 131) i) := e_gaI (mk_131 h) hi (by decide)
theorem wa_131 {X : Nat} {μ : Mm} (h : Shp X (mm_K μ) (mm_P μ)) {i : Nat} (v : Int32) (hi : i < 3) : pa_I (X + 131) (nI i) v μ = some (ms_I μ (X + 131) i v) := e_paI (mk_131 h) hi (by decide)
theorem mk_132 {X : Nat} {μ : Mm} (h : Shp X (mm_K μ) (mm_P μ)) : mm_K μ (X + 132) = (20, 3) := sk_132 h
theorem ln_132 {X : Nat} {μ : Mm} (h : Shp X (mm_K μ) (mm_P μ)) : ga_len (X + 132) μ = some (nI 3) := e_len (mk_132 h) ⟨by decide, by decide⟩
theorem ra_132 {X : Nat} {μ : Mm} (h : Shp X (mm_K μ) (mm_P μ)) {i : Nat} (hi : i < 3) : ga_I (X + 132) (nI i) μ = some (mm_I μ (X + 132) i) := e_gaI (mk_132 h) hi (by decide)
theorem wa_132 {X : Nat} {μ : Mm} (h : Shp X (mm_K μ) (mm_P μ)) {i : Nat} (v : Int32) (hi : i < 3) : pa_I (X + 132) (nI i) v μ = some (ms_I μ (X + 132) i v) := e_paI (mk_132 h) hi (by decide)
theorem mk_133 {X : Nat} {μ : Mm} (h : Shp X (mm_K μ) (mm_P μ)) : mm_K μ (X + 133) = (21, 3) := sk_133 h
theorem ln_133 {X : Nat} {μ : Mm} (h : Shp X (mm_K μ) (mm_P μ)) : ga_len (X + 133) μ = some (nI 3) := e_len (mk_133 h) ⟨by decide, by decide⟩
theorem ra_133 {X : Nat} {μ : Mm} (h : Shp X (mm_K μ) (mm_P μ)) {i : Nat} (hi : i < 3) : ga_L (X + 133) (nI i) μ = some (mm_L μ (X + 133) i) := e_gaL (mk_133 h) hi (by decide)
theorem wa_133 {X : Nat} {μ : Mm} (h : Shp X (mm_K μ) (mm_P μ)) {i : Nat} (v : Int64) (hi : i < 3) : pa_L (X + 133) (nI i) v μ = some (ms_L μ (X + 133) i v) := e_paL (mk_133 h) hi (by decide)
theorem mk_134 {X : Nat} {μ : Mm} (h : Shp X (mm_K μ) (mm_P μ)) : mm_K μ (X + 134) = (23, 3) := sk_134 h
theorem ln_134 {X : Nat} {μ : Mm} (h : Shp X (mm_K μ) (mm_P μ)) : ga_len (X + 134) μ = some (nI 3) := e_len (mk_134 h) ⟨by decide, by decide⟩
theorem ra_134 {X : Nat} {μ : Mm} (h : Shp X (mm_K μ) (mm_P μ)) {i : Nat} (hi : i < 3) : ga_Z (X + 134) (nI i) μ = some (mm_I μ (X + 134) i) := e_gaZ (mk_134 h) hi (by decide)
theorem wa_134 {X : Nat} {μ : Mm} (h : Shp X (mm_K μ) (mm_P μ)) {i : Nat} (v : Int32) (hv : v = 0 ∨ v = 1) (hi : i < 3) : pa_Z (X + 134) (nI i) v μ = some (ms_I μ (X + 134) i v) := e_paZ (mk_134 h) hi (by decide) hv
theorem mp_0_0 {X : Nat} {μ : Mm} (h : Shp X (mm_K μ) (mm_P μ)) : mm_P μ X 0 = some (X + 1) := sp_0_0 h
theorem rp_0_0 {X : Nat} {μ : Mm} (h : Shp X (mm_K μ) (mm_P μ)) : gf_P 11 0 X μ = some (X + 1) := e_gfP (by rw [mk_0 h]) (mp_0_0 h)
theorem mp_0_1 {X : Nat} {μ : Mm} (h : Shp X (mm_K μ) (mm_P μ)) : mm_P μ X 1 = some (X + 3) := sp_0_1 h
theorem rp_0_1 {X : Nat} {μ : Mm} (h : Shp X (mm_K μ) (mm_P μ)) : gf_P 11 1 X μ = some (X + 3) := e_gfP (by rw [mk_0 h]) (mp_0_1 h)
theorem mp_0_2 {X : Nat} {μ : Mm} (h : Shp X (mm_K μ) (mm_P μ)) : mm_P μ X 2 = some (X + 57) := sp_0_2 h
theorem rp_0_2 {X : Nat} {μ : Mm} (h : Shp X (mm_K μ) (mm_P μ)) : gf_P 11 2 X μ = some (X + 57) := e_gfP (by rw [mk_0 h]) (mp_0_2 h)
theorem mp_0_3 {X : Nat} {μ : Mm} (h : Shp X (mm_K μ) (mm_P μ)) : mm_P μ X 3 = some (X + 58) := sp_0_3 h
theorem rp_0_3 {X : Nat} {μ : Mm} (h : Shp X (mm_K μ) (mm_P μ)) : gf_P 11 3 X μ = some (X + 58) := e_gfP (by rw [mk_0 h]) (mp_0_3 h)
theorem mp_0_4 {X : Nat} {μ : Mm} (h : Shp X (mm_K μ) (mm_P μ)) : mm_P μ X 4 = some (X + 4) := sp_0_4 h
theorem rp_0_4 {X : Nat} {μ : Mm} (h : Shp X (mm_K μ) (mm_P μ)) : gf_P 11 4 X μ = some (X + 4) := e_gfP (by rw [mk_0 h]) (mp_0_4 h)
theorem mp_0_5 {X : Nat} {μ : Mm} (h : Shp X (mm_K μ) (mm_P μ)) : mm_P μ X 5 = some (X + 66) := sp_0_5 h
theorem rp_0_5 {X : Nat} {μ : Mm} (h : Shp X (mm_K μ) (mm_P μ)) : gf_P 11 5 X μ = some (X + 66) := e_gfP (by rw [mk_0 h]) (mp_0_5 h)
theorem mp_0_6 {X : Nat} {μ : Mm} (h : Shp X (mm_K μ) (mm_P μ)) : mm_P μ X 6 = some (X + 13) := sp_0_6 h
theorem rp_0_6 {X : Nat} {μ : Mm} (h : Shp X (mm_K μ) (mm_P μ)) : gf_P 11 6 X μ = some (X + 13) := e_gfP (by rw [mk_0 h]) (mp_0_6 h)
theorem mp_0_7 {X : Nat} {μ : Mm} (h : Shp X (mm_K μ) (mm_P μ)) : mm_P μ X 7 = some (X + 15) := sp_0_7 h
theorem rp_0_7 {X : Nat} {μ : Mm} (h : Shp X (mm_K μ) (mm_P μ)) : gf_P 11 7 X μ = some (X + 15) := e_gfP (by rw [mk_0 h]) (mp_0_7 h)
theorem mp_0_8 {X : Nat} {μ : Mm} (h : Shp X (mm_K μ) (mm_P μ)) : mm_P μ X 8 = some (X + 16) := sp_0_8 h
theorem rp_0_8 {X : Nat} {μ : Mm} (h : Shp X (mm_K μ) (mm_P μ)) : gf_P 11 8 X μ = some (X + 16) := e_gfP (by rw [mk_0 h]) (mp_0_8 h)
theorem mp_0_9 {X : Nat} {μ : Mm} (h : Shp X (mm_K μ) (mm_P μ)) : mm_P μ X 9 = some (X + 17) := sp_0_9 h
theorem rp_0_9 {X : Nat} {μ : Mm} (h : Shp X (mm_K μ) (mm_P μ)) : gf_P 11 9 X μ = some (X + 17) := e_gfP (by rw [mk_0 h]) (mp_0_9 h)
theorem mp_0_10 {X : Nat} {μ : Mm} (h : Shp X (mm_K μ) (mm_P μ)) : mm_P μ X 10 = some (X + 18) := sp_0_10 h
theorem rp_0_10 {X : Nat} {μ : Mm} (h : Shp X (mm_K μ) (mm_P μ)) : gf_P 11 10 X μ = some (X + 18) := e_gfP (by rw [mk_0 h]) (mp_0_10 h)
theorem mp_0_11 {X : Nat} {μ : Mm} (h : Shp X (mm_K μ) (mm_P μ)) : mm_P μ X 11 = some (X + 19) := sp_0_11 h
theorem rp_0_11 {X : Nat} {μ : Mm} (h : Shp X (mm_K μ) (mm_P μ)) : gf_P 11 11 X μ = some (X + 19) := e_gfP (by rw [mk_0 h]) (mp_0_11 h)
theorem mp_0_12 {X : Nat} {μ : Mm} (h : Shp X (mm_K μ) (mm_P μ)) : mm_P μ X 12 = some (X + 20) := sp_0_12 h
theorem rp_0_12 {X : Nat} {μ : Mm} (h : Shp X (mm_K μ) (mm_P μ)) : gf_P 11 12 X μ = some (X + 20) := e_gfP (by rw [mk_0 h]) (mp_0_12 h)
theorem mp_1_0 {X : Nat} {μ : Mm} (h : Shp X (mm_K μ) (mm_P μ)) : mm_P μ (X + 1) 0 = some (X + 2) := sp_1_0 h
theorem rp_1_0 {X : Nat} {μ : Mm} (h : Shp X (mm_K μ) (mm_P μ)) : gf_P 6 0 (X + 1) μ = some (X + 2) := e_gfP (by rw [mk_1 h]) (mp_1_0 h)
theorem mp_3_0 {X : Nat} {μ : Mm} (h : Shp X (mm_K μ) (mm_P μ)) : mm_P μ (X + 3) 0 = some (X + 1) := sp_3_0 h
theorem rp_3_0 {X : Nat} {μ : Mm} (h : Shp X (mm_K μ) (mm_P μ)) : gf_P 7 0 (X + 3) μ = some (X + 1) := e_gfP (by rw [mk_3 h]) (mp_3_0 h)
theorem mp_4_0 {X : Nat} {μ : Mm} (h : Shp X (mm_K μ) (mm_P μ)) : mm_P μ (X + 4) 0 = some (X + 5) := sp_4_0 h
theorem rp_4_0 {X : Nat} {μ : Mm} (h : Shp X (mm_K μ) (mm_P μ)) : gf_P 1 0 (X + 4) μ = some (X + 5) := e_gfP (by rw [mk_4 h]) (mp_4_0 h)
theorem mp_4_1 {X : Nat} {μ : Mm} (h : Shp X (mm_K μ) (mm_P μ)) : mm_P μ (X + 4) 1 = some (X + 6) := sp_4_1 h
theorem rp_4_1 {X : Nat} {μ : Mm} (h : Shp X (mm_K μ) (mm_P μ)) : gf_P 1 1 (X + 4) μ = some (X + 6) := e_gfP (by rw [mk_4 h]) (mp_4_1 h)
theorem mp_4_2 {X : Nat} {μ : Mm} (h : Shp X (mm_K μ) (mm_P μ)) : mm_P μ (X + 4) 2 = some (X + 7) := sp_4_2 h
theorem rp_4_2 {X : Nat} {μ : Mm} (h : Shp X (mm_K μ) (mm_P μ)) : gf_P 1 2 (X + 4) μ = some (X + 7) := e_gfP (by rw [mk_4 h]) (mp_4_2 h)
theorem mp_4_3 {X : Nat} {μ : Mm} (h : Shp X (mm_K μ) (mm_P μ)) : mm_P μ (X + 4) 3 = some (X + 8) := sp_4_3 h
theorem rp_4_3 {X : Nat} {μ : Mm} (h : Shp X (mm_K μ) (mm_P μ)) : gf_P 1 3 (X + 4) μ = some (X + 8) := e_gfP (by rw [mk_4 h]) (mp_4_3 h)
theorem mp_4_4 {X : Nat} {μ : Mm} (h : Shp X (mm_K μ) (mm_P μ)) : mm_P μ (X + 4) 4 = some (X + 9) := sp_4_4 h
theorem rp_4_4 {X : Nat} {μ : Mm} (h : Shp X (mm_K μ) (mm_P μ)) : gf_P 1 4 (X + 4) μ = some (X + 9) := e_gfP (by rw [mk_4 h]) (mp_4_4 h)
theorem mp_4_5 {X : Nat} {μ : Mm} (h : Shp X (mm_K μ) (mm_P μ)) : mm_P μ (X + 4) 5 = some (X + 10) := sp_4_5 h
theorem rp_4_5 {X : Nat} {μ : Mm} (h : Shp X (mm_K μ) (mm_P μ)) : gf_P 1 5 (X + 4) μ = some (X + 10) := e_gfP (by rw [mk_4 h]) (mp_4_5 h)
theorem mp_4_6 {X : Nat} {μ : Mm} (h : Shp X (mm_K μ) (mm_P μ)) : mm_P μ (X + 4) 6 = some (X + 11) := sp_4_6 h
theorem rp_4_6 {X : Nat} {μ : Mm} (h : Shp X (mm_K μ) (mm_P μ)) : gf_P 1 6 (X + 4) μ = some (X + 11) := e_gfP (by rw [mk_4 h]) (mp_4_6 h)
theorem mp_4_7 {X : Nat} {μ : Mm} (h : Shp X (mm_K μ) (mm_P μ)) : mm_P μ (X + 4) 7 = some (X + 12) := sp_4_7 h
theorem rp_4_7 {X : Nat} {μ : Mm} (h : Shp X (mm_K μ) (mm_P μ)) : gf_P 1 7 (X + 4) μ = some (X + 12) := e_gfP (by rw [mk_4 h]) (mp_4_7 h)
theorem mp_13_0 {X : Nat} {μ : Mm} (h : Shp X (mm_K μ) (mm_P μ)) : mm_P μ (X + 13) 0 = some (X + 14) := sp_13_0 h
theorem rp_13_0 {X : Nat} {μ : Mm} (h : Shp X (mm_K μ) (mm_P μ)) : gf_P 4 0 (X + 13) μ = some (X + 14) := e_gfP (by rw [mk_13 h]) (mp_13_0 h)
theorem mp_15_0 {X : Nat} {μ : Mm} (h : Shp X (mm_K μ) (mm_P μ)) : mm_P μ (X + 15) 0 = some (X + 84) := sp_15_0 h
theorem mp_15_1 {X : Nat} {μ : Mm} (h : Shp X (mm_K μ) (mm_P μ)) : mm_P μ (X + 15) 1 = some (X + 86) := sp_15_1 h
theorem mp_15_2 {X : Nat} {μ : Mm} (h : Shp X (mm_K μ) (mm_P μ)) : mm_P μ (X + 15) 2 = some (X + 88) := sp_15_2 h
theorem mp_21_0 {X : Nat} {μ : Mm} (h : Shp X (mm_K μ) (mm_P μ)) : mm_P μ (X + 21) 0 = some (X + 22) := sp_21_0 h
theorem rp_21_0 {X : Nat} {μ : Mm} (h : Shp X (mm_K μ) (mm_P μ)) : gf_P 8 0 (X + 21) μ = some (X + 22) := e_gfP (by rw [mk_21 h]) (mp_21_0 h)
theorem mp_21_1 {X : Nat} {μ : Mm} (h : Shp X (mm_K μ) (mm_P μ)) : mm_P μ (X + 21) 1 = some (X + 23) := sp_21_1 h
theorem rp_21_1 {X : Nat} {μ : Mm} (h : Shp X (mm_K μ) (mm_P μ)) : gf_P 8 1 (X + 21) μ = some (X + 23) := e_gfP (by rw [mk_21 h]) (mp_21_1 h)
theorem mp_21_2 {X : Nat} {μ : Mm} (h : Shp X (mm_K μ) (mm_P μ)) : mm_P μ (X + 21) 2 = some (X + 24) := sp_21_2 h
theorem rp_21_2 {X : Nat} {μ : Mm} (h : Shp X (mm_K μ) (mm_P μ)) : gf_P 8 2 (X + 21) μ = some (X + 24) := e_gfP (by rw [mk_21 h]) (mp_21_2 h)
theorem mp_21_3 {X : Nat} {μ : Mm} (h : Shp X (mm_K μ) (mm_P μ)) : mm_P μ (X + 21) 3 = some (X + 25) := sp_21_3 h
theorem rp_21_3 {X : Nat} {μ : Mm} (h : Shp X (mm_K μ) (mm_P μ)) : gf_P 8 3 (X + 21) μ = some (X + 25) := e_gfP (by rw [mk_21 h]) (mp_21_3 h)
theorem mp_21_4 {X : Nat} {μ : Mm} (h : Shp X (mm_K μ) (mm_P μ)) : mm_P μ (X + 21) 4 = some (X + 27) := sp_21_4 h
theorem rp_21_4 {X : Nat} {μ : Mm} (h : Shp X (mm_K μ) (mm_P μ)) : gf_P 8 4 (X + 21) μ = some (X + 27) := e_gfP (by rw [mk_21 h]) (mp_21_4 h)
theorem mp_21_5 {X : Nat} {μ : Mm} (h : Shp X (mm_K μ) (mm_P μ)) : mm_P μ (X + 21) 5 = some (X + 29) := sp_21_5 h
theorem rp_21_5 {X : Nat} {μ : Mm} (h : Shp X (mm_K μ) (mm_P μ)) : gf_P 8 5 (X + 21) μ = some (X + 29) := e_gfP (by rw [mk_21 h]) (mp_21_5 h)
theorem mp_21_6 {X : Nat} {μ : Mm} (h : Shp X (mm_K μ) (mm_P μ)) : mm_P μ (X + 21) 6 = some (X + 31) := sp_21_6 h
theorem rp_21_6 {X : Nat} {μ : Mm} (h : Shp X (mm_K μ) (mm_P μ)) : gf_P 8 6 (X + 21) μ = some (X + 31) := e_gfP (by rw [mk_21 h]) (mp_21_6 h)
theorem mp_21_7 {X : Nat} {μ : Mm} (h : Shp X (mm_K μ) (mm_P μ)) : mm_P μ (X + 21) 7 = some (X + 33) := sp_21_7 h
theorem rp_21_7 {X : Nat} {μ : Mm} (h : Shp X (mm_K μ) (mm_P μ)) : gf_P 8 7 (X + 21) μ = some (X + 33) := e_gfP (by rw [mk_21 h]) (mp_21_7 h)
theorem mp_21_8 {X : Nat} {μ : Mm} (h : Shp X (mm_K μ) (mm_P μ)) : mm_P μ (X + 21) 8 = some (X + 35) := sp_21_8 h
theorem rp_21_8 {X : Nat} {μ : Mm} (h : Shp X (mm_K μ) (mm_P μ)) : gf_P 8 8 (X + 21) μ = some (X + 35) := e_gfP (by rw [mk_21 h]) (mp_21_8 h)
theorem mp_25_0 {X : Nat} {μ : Mm} (h : Shp X (mm_K μ) (mm_P μ)) : mm_P μ (X + 25) 0 = some (X + 26) := sp_25_0 h
theorem rp_25_0 {X : Nat} {μ : Mm} (h : Shp X (mm_K μ) (mm_P μ)) : gf_P 3 0 (X + 25) μ = some (X + 26) := e_gfP (by rw [mk_25 h]) (mp_25_0 h)
theorem mp_27_0 {X : Nat} {μ : Mm} (h : Shp X (mm_K μ) (mm_P μ)) : mm_P μ (X + 27) 0 = some (X + 28) := sp_27_0 h
theorem rp_27_0 {X : Nat} {μ : Mm} (h : Shp X (mm_K μ) (mm_P μ)) : gf_P 3 0 (X + 27) μ = some (X + 28) := e_gfP (by rw [mk_27 h]) (mp_27_0 h)
theorem mp_29_0 {X : Nat} {μ : Mm} (h : Shp X (mm_K μ) (mm_P μ)) : mm_P μ (X + 29) 0 = some (X + 30) := sp_29_0 h
theorem rp_29_0 {X : Nat} {μ : Mm} (h : Shp X (mm_K μ) (mm_P μ)) : gf_P 3 0 (X + 29) μ = some (X + 30) := e_gfP (by rw [mk_29 h]) (mp_29_0 h)
theorem mp_31_0 {X : Nat} {μ : Mm} (h : Shp X (mm_K μ) (mm_P μ)) : mm_P μ (X + 31) 0 = some (X + 32) := sp_31_0 h
theorem rp_31_0 {X : Nat} {μ : Mm} (h : Shp X (mm_K μ) (mm_P μ)) : gf_P 3 0 (X + 31) μ = some (X + 32) := e_gfP (by rw [mk_31 h]) (mp_31_0 h)
theorem mp_33_0 {X : Nat} {μ : Mm} (h : Shp X (mm_K μ) (mm_P μ)) : mm_P μ (X + 33) 0 = some (X + 34) := sp_33_0 h
theorem rp_33_0 {X : Nat} {μ : Mm} (h : Shp X (mm_K μ) (mm_P μ)) : gf_P 3 0 (X + 33) μ = some (X + 34) := e_gfP (by rw [mk_33 h]) (mp_33_0 h)
theorem mp_35_0 {X : Nat} {μ : Mm} (h : Shp X (mm_K μ) (mm_P μ)) : mm_P μ (X + 35) 0 = some (X + 36) := sp_35_0 h
theorem rp_35_0 {X : Nat} {μ : Mm} (h : Shp X (mm_K μ) (mm_P μ)) : gf_P 10 0 (X + 35) μ = some (X + 36) := e_gfP (by rw [mk_35 h]) (mp_35_0 h)
theorem mp_35_1 {X : Nat} {μ : Mm} (h : Shp X (mm_K μ) (mm_P μ)) : mm_P μ (X + 35) 1 = some (X + 37) := sp_35_1 h
theorem rp_35_1 {X : Nat} {μ : Mm} (h : Shp X (mm_K μ) (mm_P μ)) : gf_P 10 1 (X + 35) μ = some (X + 37) := e_gfP (by rw [mk_35 h]) (mp_35_1 h)
theorem mp_35_2 {X : Nat} {μ : Mm} (h : Shp X (mm_K μ) (mm_P μ)) : mm_P μ (X + 35) 2 = some (X + 38) := sp_35_2 h
theorem rp_35_2 {X : Nat} {μ : Mm} (h : Shp X (mm_K μ) (mm_P μ)) : gf_P 10 2 (X + 35) μ = some (X + 38) := e_gfP (by rw [mk_35 h]) (mp_35_2 h)
theorem mp_39_0 {X : Nat} {μ : Mm} (h : Shp X (mm_K μ) (mm_P μ)) : mm_P μ (X + 39) 0 = some (X + 40) := sp_39_0 h
theorem rp_39_0 {X : Nat} {μ : Mm} (h : Shp X (mm_K μ) (mm_P μ)) : gf_P 8 0 (X + 39) μ = some (X + 40) := e_gfP (by rw [mk_39 h]) (mp_39_0 h)
theorem mp_39_1 {X : Nat} {μ : Mm} (h : Shp X (mm_K μ) (mm_P μ)) : mm_P μ (X + 39) 1 = some (X + 41) := sp_39_1 h
theorem rp_39_1 {X : Nat} {μ : Mm} (h : Shp X (mm_K μ) (mm_P μ)) : gf_P 8 1 (X + 39) μ = some (X + 41) := e_gfP (by rw [mk_39 h]) (mp_39_1 h)
theorem mp_39_2 {X : Nat} {μ : Mm} (h : Shp X (mm_K μ) (mm_P μ)) : mm_P μ (X + 39) 2 = some (X + 42) := sp_39_2 h
theorem rp_39_2 {X : Nat} {μ : Mm} (h : Shp X (mm_K μ) (mm_P μ)) : gf_P 8 2 (X + 39) μ = some (X + 42) := e_gfP (by rw [mk_39 h]) (mp_39_2 h)
theorem mp_39_3 {X : Nat} {μ : Mm} (h : Shp X (mm_K μ) (mm_P μ)) : mm_P μ (X + 39) 3 = some (X + 43) := sp_39_3 h
theorem rp_39_3 {X : Nat} {μ : Mm} (h : Shp X (mm_K μ) (mm_P μ)) : gf_P 8 3 (X + 39) μ = some (X + 43) := e_gfP (by rw [mk_39 h]) (mp_39_3 h)
theorem mp_39_4 {X : Nat} {μ : Mm} (h : Shp X (mm_K μ) (mm_P μ)) : mm_P μ (X + 39) 4 = some (X + 45) := sp_39_4 h
theorem rp_39_4 {X : Nat} {μ : Mm} (h : Shp X (mm_K μ) (mm_P μ)) : gf_P 8 4 (X + 39) μ = some (X + 45) := e_gfP (by rw [mk_39 h]) (mp_39_4 h)
theorem mp_39_5 {X : Nat} {μ : Mm} (h : Shp X (mm_K μ) (mm_P μ)) : mm_P μ (X + 39) 5 = some (X + 47) := sp_39_5 h
theorem rp_39_5 {X : Nat} {μ : Mm} (h : Shp X (mm_K μ) (mm_P μ)) : gf_P 8 5 (X + 39) μ = some (X + 47) := e_gfP (by rw [mk_39 h]) (mp_39_5 h)
theorem mp_39_6 {X : Nat} {μ : Mm} (h : Shp X (mm_K μ) (mm_P μ)) : mm_P μ (X + 39) 6 = some (X + 49) := sp_39_6 h
theorem rp_39_6 {X : Nat} {μ : Mm} (h : Shp X (mm_K μ) (mm_P μ)) : gf_P 8 6 (X + 39) μ = some (X + 49) := e_gfP (by rw [mk_39 h]) (mp_39_6 h)
theorem mp_39_7 {X : Nat} {μ : Mm} (h : Shp X (mm_K μ) (mm_P μ)) : mm_P μ (X + 39) 7 = some (X + 51) := sp_39_7 h
theorem rp_39_7 {X : Nat} {μ : Mm} (h : Shp X (mm_K μ) (mm_P μ)) : gf_P 8 7 (X + 39) μ = some (X + 51) := e_gfP (by rw [mk_39 h]) (mp_39_7 h)
theorem mp_39_8 {X : Nat} {μ : Mm} (h : Shp X (mm_K μ) (mm_P μ)) : mm_P μ (X + 39) 8 = some (X + 53) := sp_39_8 h
theorem rp_39_8 {X : Nat} {μ : Mm} (h : Shp X (mm_K μ) (mm_P μ)) : gf_P 8 8 (X + 39) μ = some (X + 53) := e_gfP (by rw [mk_39 h]) (mp_39_8 h)
theorem mp_43_0 {X : Nat} {μ : Mm} (h : Shp X (mm_K μ) (mm_P μ)) : mm_P μ (X + 43) 0 = some (X + 44) := sp_43_0 h
theorem rp_43_0 {X : Nat} {μ : Mm} (h : Shp X (mm_K μ) (mm_P μ)) : gf_P 3 0 (X + 43) μ = some (X + 44) := e_gfP (by rw [mk_43 h]) (mp_43_0 h)
theorem mp_45_0 {X : Nat} {μ : Mm} (h : Shp X (mm_K μ) (mm_P μ)) : mm_P μ (X + 45) 0 = some (X + 46) := sp_45_0 h
theorem rp_45_0 {X : Nat} {μ : Mm} (h : Shp X (mm_K μ) (mm_P μ)) : gf_P 3 0 (X + 45) μ = some (X + 46) := e_gfP (by rw [mk_45 h]) (mp_45_0 h)
theorem mp_47_0 {X : Nat} {μ : Mm} (h : Shp X (mm_K μ) (mm_P μ)) : mm_P μ (X + 47) 0 = some (X + 48) := sp_47_0 h
theorem rp_47_0 {X : Nat} {μ : Mm} (h : Shp X (mm_K μ) (mm_P μ)) : gf_P 3 0 (X + 47) μ = some (X + 48) := e_gfP (by rw [mk_47 h]) (mp_47_0 h)
theorem mp_49_0 {X : Nat} {μ : Mm} (h : Shp X (mm_K μ) (mm_P μ)) : mm_P μ (X + 49) 0 = some (X + 50) := sp_49_0 h
theorem rp_49_0 {X : Nat} {μ : Mm} (h : Shp X (mm_K μ) (mm_P μ)) : gf_P 3 0 (X + 49) μ = some (X + 50) := e_gfP (by rw [mk_49 h]) (mp_49_0 h)
theorem mp_51_0 {X : Nat} {μ : Mm} (h : Shp X (mm_K μ) (mm_P μ)) : mm_P μ (X + 51) 0 = some (X + 52) := sp_51_0 h
theorem rp_51_0 {X : Nat} {μ : Mm} (h : Shp X (mm_K μ) (mm_P μ)) : gf_P 3 0 (X + 51) μ = some (X + 52) := e_gfP (by rw [mk_51 h]) (mp_51_0 h)
theorem mp_53_0 {X : Nat} {μ : Mm} (h : Shp X (mm_K μ) (mm_P μ)) : mm_P μ (X + 53) 0 = some (X + 54) := sp_53_0 h
theorem rp_53_0 {X : Nat} {μ : Mm} (h : Shp X (mm_K μ) (mm_P μ)) : gf_P 10 0 (X + 53) μ = some (X + 54) := e_gfP (by rw [mk_53 h]) (mp_53_0 h)
theorem mp_53_1 {X : Nat} {μ : Mm} (h : Shp X (mm_K μ) (mm_P μ)) : mm_P μ (X + 53) 1 = some (X + 55) := sp_53_1 h
theorem rp_53_1 {X : Nat} {μ : Mm} (h : Shp X (mm_K μ) (mm_P μ)) : gf_P 10 1 (X + 53) μ = some (X + 55) := e_gfP (by rw [mk_53 h]) (mp_53_1 h)
theorem mp_53_2 {X : Nat} {μ : Mm} (h : Shp X (mm_K μ) (mm_P μ)) : mm_P μ (X + 53) 2 = some (X + 56) := sp_53_2 h
theorem rp_53_2 {X : Nat} {μ : Mm} (h : Shp X (mm_K μ) (mm_P μ)) : gf_P 10 2 (X + 53) μ = some (X + 56) := e_gfP (by rw [mk_53 h]) (mp_53_2 h)
theorem mp_57_0 {X : Nat} {μ : Mm} (h : Shp X (mm_K μ) (mm_P μ)) : mm_P μ (X + 57) 0 = some (X + 3) := sp_57_0 h
theorem rp_57_0 {X : Nat} {μ : Mm} (h : Shp X (mm_K μ) (mm_P μ)) : gf_P 9 0 (X + 57) μ = some (X + 3) := e_gfP (by rw [mk_57 h]) (mp_57_0 h)
theorem mp_58_0 {X : Nat} {μ : Mm} (h : Shp X (mm_K μ) (mm_P μ)) : mm_P μ (X + 58) 0 = some (X + 59) := sp_58_0 h
theorem rp_58_0 {X : Nat} {μ : Mm} (h : Shp X (mm_K μ) (mm_P μ)) : gf_P 5 0 (X + 58) μ = some (X + 59) := e_gfP (by rw [mk_58 h]) (mp_58_0 h)
theorem mp_58_1 {X : Nat} {μ : Mm} (h : Shp X (mm_K μ) (mm_P μ)) : mm_P μ (X + 58) 1 = some (X + 60) := sp_58_1 h
theorem rp_58_1 {X : Nat} {μ : Mm} (h : Shp X (mm_K μ) (mm_P μ)) : gf_P 5 1 (X + 58) μ = some (X + 60) := e_gfP (by rw [mk_58 h]) (mp_58_1 h)
theorem mp_58_2 {X : Nat} {μ : Mm} (h : Shp X (mm_K μ) (mm_P μ)) : mm_P μ (X + 58) 2 = some (X + 61) := sp_58_2 h
theorem rp_58_2 {X : Nat} {μ : Mm} (h : Shp X (mm_K μ) (mm_P μ)) : gf_P 5 2 (X + 58) μ = some (X + 61) := e_gfP (by rw [mk_58 h]) (mp_58_2 h)
theorem mp_58_3 {X : Nat} {μ : Mm} (h : Shp X (mm_K μ) (mm_P μ)) : mm_P μ (X + 58) 3 = some (X + 62) := sp_58_3 h
theorem rp_58_3 {X : Nat} {μ : Mm} (h : Shp X (mm_K μ) (mm_P μ)) : gf_P 5 3 (X + 58) μ = some (X + 62) := e_gfP (by rw [mk_58 h]) (mp_58_3 h)
theorem mp_58_4 {X : Nat} {μ : Mm} (h : Shp X (mm_K μ) (mm_P μ)) : mm_P μ (X + 58) 4 = some (X + 63) := sp_58_4 h
theorem rp_58_4 {X : Nat} {μ : Mm} (h : Shp X (mm_K μ) (mm_P μ)) : gf_P 5 4 (X + 58) μ = some (X + 63) := e_gfP (by rw [mk_58 h]) (mp_58_4 h)
theorem mp_58_5 {X : Nat} {μ : Mm} (h : Shp X (mm_K μ) (mm_P μ)) : mm_P μ (X + 58) 5 = some (X + 64) := sp_58_5 h
theorem rp_58_5 {X : Nat} {μ : Mm} (h : Shp X (mm_K μ) (mm_P μ)) : gf_P 5 5 (X + 58) μ = some (X + 64) := e_gfP (by rw [mk_58 h]) (mp_58_5 h)
theorem mp_58_6 {X : Nat} {μ : Mm} (h : Shp X (mm_K μ) (mm_P μ)) : mm_P μ (X + 58) 6 = some (X + 65) := sp_58_6 h
theorem rp_58_6 {X : Nat} {μ : Mm} (h : Shp X (mm_K μ) (mm_P μ)) : gf_P 5 6 (X + 58) μ = some (X + 65) := e_gfP (by rw [mk_58 h]) (mp_58_6 h)
theorem mp_66_0 {X : Nat} {μ : Mm} (h : Shp X (mm_K μ) (mm_P μ)) : mm_P μ (X + 66) 0 = some (X + 58) := sp_66_0 h
theorem rp_66_0 {X : Nat} {μ : Mm} (h : Shp X (mm_K μ) (mm_P μ)) : gf_P 2 0 (X + 66) μ = some (X + 58) := e_gfP (by rw [mk_66 h]) (mp_66_0 h)
theorem mp_66_1 {X : Nat} {μ : Mm} (h : Shp X (mm_K μ) (mm_P μ)) : mm_P μ (X + 66) 1 = some (X + 4) := sp_66_1 h
theorem rp_66_1 {X : Nat} {μ : Mm} (h : Shp X (mm_K μ) (mm_P μ)) : gf_P 2 1 (X + 66) μ = some (X + 4) := e_gfP (by rw [mk_66 h]) (mp_66_1 h)
theorem mp_66_2 {X : Nat} {μ : Mm} (h : Shp X (mm_K μ) (mm_P μ)) : mm_P μ (X + 66) 2 = some (X + 67) := sp_66_2 h
theorem rp_66_2 {X : Nat} {μ : Mm} (h : Shp X (mm_K μ) (mm_P μ)) : gf_P 2 2 (X + 66) μ = some (X + 67) := e_gfP (by rw [mk_66 h]) (mp_66_2 h)
theorem mp_66_3 {X : Nat} {μ : Mm} (h : Shp X (mm_K μ) (mm_P μ)) : mm_P μ (X + 66) 3 = some (X + 80) := sp_66_3 h
theorem rp_66_3 {X : Nat} {μ : Mm} (h : Shp X (mm_K μ) (mm_P μ)) : gf_P 2 3 (X + 66) μ = some (X + 80) := e_gfP (by rw [mk_66 h]) (mp_66_3 h)
theorem mp_66_4 {X : Nat} {μ : Mm} (h : Shp X (mm_K μ) (mm_P μ)) : mm_P μ (X + 66) 4 = some (X + 81) := sp_66_4 h
theorem rp_66_4 {X : Nat} {μ : Mm} (h : Shp X (mm_K μ) (mm_P μ)) : gf_P 2 4 (X + 66) μ = some (X + 81) := e_gfP (by rw [mk_66 h]) (mp_66_4 h)
theorem mp_84_0 {X : Nat} {μ : Mm} (h : Shp X (mm_K μ) (mm_P μ)) : mm_P μ (X + 84) 0 = some (X + 85) := sp_84_0 h
theorem rp_84_0 {X : Nat} {μ : Mm} (h : Shp X (mm_K μ) (mm_P μ)) : gf_P 4 0 (X + 84) μ = some (X + 85) := e_gfP (by rw [mk_84 h]) (mp_84_0 h)
theorem mp_86_0 {X : Nat} {μ : Mm} (h : Shp X (mm_K μ) (mm_P μ)) : mm_P μ (X + 86) 0 = some (X + 87) := sp_86_0 h
theorem rp_86_0 {X : Nat} {μ : Mm} (h : Shp X (mm_K μ) (mm_P μ)) : gf_P 4 0 (X + 86) μ = some (X + 87) := e_gfP (by rw [mk_86 h]) (mp_86_0 h)
theorem mp_88_0 {X : Nat} {μ : Mm} (h : Shp X (mm_K μ) (mm_P μ)) : mm_P μ (X + 88) 0 = some (X + 89) := sp_88_0 h
theorem rp_88_0 {X : Nat} {μ : Mm} (h : Shp X (mm_K μ) (mm_P μ)) : gf_P 4 0 (X + 88) μ = some (X + 89) := e_gfP (by rw [mk_88 h]) (mp_88_0 h)
theorem mp_90_0 {X : Nat} {μ : Mm} (h : Shp X (mm_K μ) (mm_P μ)) : mm_P μ (X + 90) 0 = some (X + 91) := sp_90_0 h
theorem rp_90_0 {X : Nat} {μ : Mm} (h : Shp X (mm_K μ) (mm_P μ)) : gf_P 12 0 (X + 90) μ = some (X + 91) := e_gfP (by rw [mk_90 h]) (mp_90_0 h)
theorem mp_90_12 {X : Nat} {μ : Mm} (h : Shp X (mm_K μ) (mm_P μ)) : mm_P μ (X + 90) 12 = some (X + 92) := sp_90_12 h
theorem rp_90_12 {X : Nat} {μ : Mm} (h : Shp X (mm_K μ) (mm_P μ)) : gf_P 12 12 (X + 90) μ = some (X + 92) := e_gfP (by rw [mk_90 h]) (mp_90_12 h)
theorem mp_90_13 {X : Nat} {μ : Mm} (h : Shp X (mm_K μ) (mm_P μ)) : mm_P μ (X + 90) 13 = some (X + 93) := sp_90_13 h
theorem rp_90_13 {X : Nat} {μ : Mm} (h : Shp X (mm_K μ) (mm_P μ)) : gf_P 12 13 (X + 90) μ = some (X + 93) := e_gfP (by rw [mk_90 h]) (mp_90_13 h)
theorem mp_90_14 {X : Nat} {μ : Mm} (h : Shp X (mm_K μ) (mm_P μ)) : mm_P μ (X + 90) 14 = some (X + 94) := sp_90_14 h
theorem rp_90_14 {X : Nat} {μ : Mm} (h : Shp X (mm_K μ) (mm_P μ)) : gf_P 12 14 (X + 90) μ = some (X + 94) := e_gfP (by rw [mk_90 h]) (mp_90_14 h)
theorem mp_90_15 {X : Nat} {μ : Mm} (h : Shp X (mm_K μ) (mm_P μ)) : mm_P μ (X + 90) 15 = some (X + 95) := sp_90_15 h
theorem rp_90_15 {X : Nat} {μ : Mm} (h : Shp X (mm_K μ) (mm_P μ)) : gf_P 12 15 (X + 90) μ = some (X + 95) := e_gfP (by rw [mk_90 h]) (mp_90_15 h)
theorem mp_90_16 {X : Nat} {μ : Mm} (h : Shp X (mm_K μ) (mm_P μ)) : mm_P μ (X + 90) 16 = some (X + 96) := sp_90_16 h
theorem rp_90_16 {X : Nat} {μ : Mm} (h : Shp X (mm_K μ) (mm_P μ)) : gf_P 12 16 (X + 90) μ = some (X + 96) := e_gfP (by rw [mk_90 h]) (mp_90_16 h)
theorem mp_90_17 {X : Nat} {μ : Mm} (h : Shp X (mm_K μ) (mm_P μ)) : mm_P μ (X + 90) 17 = some (X + 97) := sp_90_17 h
theorem rp_90_17 {X : Nat} {μ : Mm} (h : Shp X (mm_K μ) (mm_P μ)) : gf_P 12 17 (X + 90) μ = some (X + 97) := e_gfP (by rw [mk_90 h]) (mp_90_17 h)
theorem mp_90_18 {X : Nat} {μ : Mm} (h : Shp X (mm_K μ) (mm_P μ)) : mm_P μ (X + 90) 18 = some (X + 98) := sp_90_18 h
theorem rp_90_18 {X : Nat} {μ : Mm} (h : Shp X (mm_K μ) (mm_P μ)) : gf_P 12 18 (X + 90) μ = some (X + 98) := e_gfP (by rw [mk_90 h]) (mp_90_18 h)
theorem mp_90_19 {X : Nat} {μ : Mm} (h : Shp X (mm_K μ) (mm_P μ)) : mm_P μ (X + 90) 19 = some (X + 99) := sp_90_19 h
theorem rp_90_19 {X : Nat} {μ : Mm} (h : Shp X (mm_K μ) (mm_P μ)) : gf_P 12 19 (X + 90) μ = some (X + 99) := e_gfP (by rw [mk_90 h]) (mp_90_19 h)
theorem mp_90_20 {X : Nat} {μ : Mm} (h : Shp X (mm_K μ) (mm_P μ)) : mm_P μ (X + 90) 20 = some (X + 100) := sp_90_20 h
theorem rp_90_20 {X : Nat} {μ : Mm} (h : Shp X (mm_K μ) (mm_P μ)) : gf_P 12 20 (X + 90) μ = some (X + 100) := e_gfP (by rw [mk_90 h]) (mp_90_20 h)
theorem mp_90_21 {X : Nat} {μ : Mm} (h : Shp X (mm_K μ) (mm_P μ)) : mm_P μ (X + 90) 21 = some (X + 101) := sp_90_21 h
theorem rp_90_21 {X : Nat} {μ : Mm} (h : Shp X (mm_K μ) (mm_P μ)) : gf_P 12 21 (X + 90) μ = some (X + 101) := e_gfP (by rw [mk_90 h]) (mp_90_21 h)
theorem mp_90_22 {X : Nat} {μ : Mm} (h : Shp X (mm_K μ) (mm_P μ)) : mm_P μ (X + 90) 22 = some (X + 102) := sp_90_22 h
theorem rp_90_22 {X : Nat} {μ : Mm} (h : Shp X (mm_K μ) (mm_P μ)) : gf_P 12 22 (X + 90) μ = some (X + 102) := e_gfP (by rw [mk_90 h]) (mp_90_22 h)
theorem mp_90_23 {X : Nat} {μ : Mm} (h : Shp X (mm_K μ) (mm_P μ)) : mm_P μ (X + 90) 23 = some (X + 103) := sp_90_23 h
theorem rp_90_23 {X : Nat} {μ : Mm} (h : Shp X (mm_K μ) (mm_P μ)) : gf_P 12 23 (X + 90) μ = some (X + 103) := e_gfP (by rw [mk_90 h]) (mp_90_23 h)
theorem mp_90_24 {X : Nat} {μ : Mm} (h : Shp X (mm_K μ) (mm_P μ)) : mm_P μ (X + 90) 24 = some (X + 104) := sp_90_24 h
theorem rp_90_24 {X : Nat} {μ : Mm} (h : Shp X (mm_K μ) (mm_P μ)) : gf_P 12 24 (X + 90) μ = some (X + 104) := e_gfP (by rw [mk_90 h]) (mp_90_24 h)
theorem mp_90_25 {X : Nat} {μ : Mm} (h : Shp X (mm_K μ) (mm_P μ)) : mm_P μ (X + 90) 25 = some (X + 105) := sp_90_25 h
theorem rp_90_25 {X : Nat} {μ : Mm} (h : Shp X (mm_K μ) (mm_P μ)) : gf_P 12 25 (X + 90) μ = some (X + 105) := e_gfP (by rw [mk_90 h]) (mp_90_25 h)
theorem mp_90_26 {X : Nat} {μ : Mm} (h : Shp X (mm_K μ) (mm_P μ)) : mm_P μ (X + 90) 26 = some (X + 106) := sp_90_26 h
theorem rp_90_26 {X : Nat} {μ : Mm} (h : Shp X (mm_K μ) (mm_P μ)) : gf_P 12 26 (X + 90) μ = some (X + 106) := e_gfP (by rw [mk_90 h]) (mp_90_26 h)
theorem mp_90_27 {X : Nat} {μ : Mm} (h : Shp X (mm_K μ) (mm_P μ)) : mm_P μ (X + 90) 27 = some (X + 107) := sp_90_27 h
theorem rp_90_27 {X : Nat} {μ : Mm} (h : Shp X (mm_K μ) (mm_P μ)) : gf_P 12 27 (X + 90) μ = some (X + 107) := e_gfP (by rw [mk_90 h]) (mp_90_27 h)
theorem mp_90_28 {X : Nat} {μ : Mm} (h : Shp X (mm_K μ) (mm_P μ)) : mm_P μ (X + 90) 28 = some (X + 108) := sp_90_28 h
theorem rp_90_28 {X : Nat} {μ : Mm} (h : Shp X (mm_K μ) (mm_P μ)) : gf_P 12 28 (X + 90) μ = some (X + 108) := e_gfP (by rw [mk_90 h]) (mp_90_28 h)
theorem mp_90_29 {X : Nat} {μ : Mm} (h : Shp X (mm_K μ) (mm_P μ)) : mm_P μ (X + 90) 29 = some (X + 109) := sp_90_29 h
theorem rp_90_29 {X : Nat} {μ : Mm} (h : Shp X (mm_K μ) (mm_P μ)) : gf_P 12 29 (X + 90) μ = some (X + 109) := e_gfP (by rw [mk_90 h]) (mp_90_29 h)
theorem mp_90_34 {X : Nat} {μ : Mm} (h : Shp X (mm_K μ) (mm_P μ)) : mm_P μ (X + 90) 34 = some (X + 110) := sp_90_34 h
theorem rp_90_34 {X : Nat} {μ : Mm} (h : Shp X (mm_K μ) (mm_P μ)) : gf_P 12 34 (X + 90) μ = some (X + 110) := e_gfP (by rw [mk_90 h]) (mp_90_34 h)
theorem mp_90_35 {X : Nat} {μ : Mm} (h : Shp X (mm_K μ) (mm_P μ)) : mm_P μ (X + 90) 35 = some (X + 111) := sp_90_35 h
theorem rp_90_35 {X : Nat} {μ : Mm} (h : Shp X (mm_K μ) (mm_P μ)) : gf_P 12 35 (X + 90) μ = some (X + 111) := e_gfP (by rw [mk_90 h]) (mp_90_35 h)
theorem mp_90_36 {X : Nat} {μ : Mm} (h : Shp X (mm_K μ) (mm_P μ)) : mm_P μ (X + 90) 36 = some (X + 112) := sp_90_36 h
theorem rp_90_36 {X : Nat} {μ : Mm} (h : Shp X (mm_K μ) (mm_P μ)) : gf_P 12 36 (X + 90) μ = some (X + 112) := e_gfP (by rw [mk_90 h]) (mp_90_36 h)
theorem mp_90_43 {X : Nat} {μ : Mm} (h : Shp X (mm_K μ) (mm_P μ)) : mm_P μ (X + 90) 43 = some (X + 113) := sp_90_43 h
theorem rp_90_43 {X : Nat} {μ : Mm} (h : Shp X (mm_K μ) (mm_P μ)) : gf_P 12 43 (X + 90) μ = some (X + 113) := e_gfP (by rw [mk_90 h]) (mp_90_43 h)
theorem mp_90_44 {X : Nat} {μ : Mm} (h : Shp X (mm_K μ) (mm_P μ)) : mm_P μ (X + 90) 44 = some (X + 114) := sp_90_44 h
theorem rp_90_44 {X : Nat} {μ : Mm} (h : Shp X (mm_K μ) (mm_P μ)) : gf_P 12 44 (X + 90) μ = some (X + 114) := e_gfP (by rw [mk_90 h]) (mp_90_44 h)
theorem mp_90_45 {X : Nat} {μ : Mm} (h : Shp X (mm_K μ) (mm_P μ)) : mm_P μ (X + 90) 45 = some (X + 115) := sp_90_45 h
theorem rp_90_45 {X : Nat} {μ : Mm} (h : Shp X (mm_K μ) (mm_P μ)) : gf_P 12 45 (X + 90) μ = some (X + 115) := e_gfP (by rw [mk_90 h]) (mp_90_45 h)
theorem mp_90_49 {X : Nat} {μ : Mm} (h : Shp X (mm_K μ) (mm_P μ)) : mm_P μ (X + 90) 49 = some (X + 116) := sp_90_49 h
theorem rp_90_49 {X : Nat} {μ : Mm} (h : Shp X (mm_K μ) (mm_P μ)) : gf_P 12 49 (X + 90) μ = some (X + 116) := e_gfP (by rw [mk_90 h]) (mp_90_49 h)
theorem mp_90_50 {X : Nat} {μ : Mm} (h : Shp X (mm_K μ) (mm_P μ)) : mm_P μ (X + 90) 50 = some (X + 117) := sp_90_50 h
theorem rp_90_50 {X : Nat} {μ : Mm} (h : Shp X (mm_K μ) (mm_P μ)) : gf_P 12 50 (X + 90) μ = some (X + 117) := e_gfP (by rw [mk_90 h]) (mp_90_50 h)
theorem mp_90_51 {X : Nat} {μ : Mm} (h : Shp X (mm_K μ) (mm_P μ)) : mm_P μ (X + 90) 51 = some (X + 118) := sp_90_51 h
theorem rp_90_51 {X : Nat} {μ : Mm} (h : Shp X (mm_K μ) (mm_P μ)) : gf_P 12 51 (X + 90) μ = some (X + 118) := e_gfP (by rw [mk_90 h]) (mp_90_51 h)
theorem mp_90_52 {X : Nat} {μ : Mm} (h : Shp X (mm_K μ) (mm_P μ)) : mm_P μ (X + 90) 52 = some (X + 119) := sp_90_52 h
theorem rp_90_52 {X : Nat} {μ : Mm} (h : Shp X (mm_K μ) (mm_P μ)) : gf_P 12 52 (X + 90) μ = some (X + 119) := e_gfP (by rw [mk_90 h]) (mp_90_52 h)
theorem mp_90_53 {X : Nat} {μ : Mm} (h : Shp X (mm_K μ) (mm_P μ)) : mm_P μ (X + 90) 53 = some (X + 120) := sp_90_53 h
theorem rp_90_53 {X : Nat} {μ : Mm} (h : Shp X (mm_K μ) (mm_P μ)) : gf_P 12 53 (X + 90) μ = some (X + 120) := e_gfP (by rw [mk_90 h]) (mp_90_53 h)
theorem mp_90_54 {X : Nat} {μ : Mm} (h : Shp X (mm_K μ) (mm_P μ)) : mm_P μ (X + 90) 54 = some (X + 121) := sp_90_54 h
theorem rp_90_54 {X : Nat} {μ : Mm} (h : Shp X (mm_K μ) (mm_P μ)) : gf_P 12 54 (X + 90) μ = some (X + 121) := e_gfP (by rw [mk_90 h]) (mp_90_54 h)
theorem mp_90_55 {X : Nat} {μ : Mm} (h : Shp X (mm_K μ) (mm_P μ)) : mm_P μ (X + 90) 55 = some (X + 122) := sp_90_55 h
theorem rp_90_55 {X : Nat} {μ : Mm} (h : Shp X (mm_K μ) (mm_P μ)) : gf_P 12 55 (X + 90) μ = some (X + 122) := e_gfP (by rw [mk_90 h]) (mp_90_55 h)
theorem mp_90_56 {X : Nat} {μ : Mm} (h : Shp X (mm_K μ) (mm_P μ)) : mm_P μ (X + 90) 56 = some (X + 123) := sp_90_56 h
theorem rp_90_56 {X : Nat} {μ : Mm} (h : Shp X (mm_K μ) (mm_P μ)) : gf_P 12 56 (X + 90) μ = some (X + 123) := e_gfP (by rw [mk_90 h]) (mp_90_56 h)
theorem mp_90_57 {X : Nat} {μ : Mm} (h : Shp X (mm_K μ) (mm_P μ)) : mm_P μ (X + 90) 57 = some (X + 124) := sp_90_57 h
theorem rp_90_57 {X : Nat} {μ : Mm} (h : Shp X (mm_K μ) (mm_P μ)) : gf_P 12 57 (X + 90) μ = some (X + 124) := e_gfP (by rw [mk_90 h]) (mp_90_57 h)
theorem mp_90_58 {X : Nat} {μ : Mm} (h : Shp X (mm_K μ) (mm_P μ)) : mm_P μ (X + 90) 58 = some (X + 125) := sp_90_58 h
theorem rp_90_58 {X : Nat} {μ : Mm} (h : Shp X (mm_K μ) (mm_P μ)) : gf_P 12 58 (X + 90) μ = some (X + 125) := e_gfP (by rw [mk_90 h]) (mp_90_58 h)
theorem mp_90_59 {X : Nat} {μ : Mm} (h : Shp X (mm_K μ) (mm_P μ)) : mm_P μ (X + 90) 59 = some (X + 126) := sp_90_59 h
theorem rp_90_59 {X : Nat} {μ : Mm} (h : Shp X (mm_K μ) (mm_P μ)) : gf_P 12 59 (X + 90) μ = some (X + 126) := e_gfP (by rw [mk_90 h]) (mp_90_59 h)
theorem mp_90_61 {X : Nat} {μ : Mm} (h : Shp X (mm_K μ) (mm_P μ)) : mm_P μ (X + 90) 61 = some (X + 127) := sp_90_61 h
theorem rp_90_61 {X : Nat} {μ : Mm} (h : Shp X (mm_K μ) (mm_P μ)) : gf_P 12 61 (X + 90) μ = some (X + 127) := e_gfP (by rw [mk_90 h]) (mp_90_61 h)
theorem mp_90_62 {X : Nat} {μ : Mm} (h : Shp X (mm_K μ) (mm_P μ)) : mm_P μ (X + 90) 62 = some (X + 128) := sp_90_62 h
theorem rp_90_62 {X : Nat} {μ : Mm} (h : Shp X (mm_K μ) (mm_P μ)) : gf_P 12 62 (X + 90) μ = some (X + 128) := e_gfP (by rw [mk_90 h]) (mp_90_62 h)
theorem mp_90_63 {X : Nat} {μ : Mm} (h : Shp X (mm_K μ) (mm_P μ)) : mm_P μ (X + 90) 63 = some (X + 129) := sp_90_63 h
theorem rp_90_63 {X : Nat} {μ : Mm} (h : Shp X (mm_K μ) (mm_P μ)) : gf_P 12 63 (X + 90) μ = some (X + 129) := e_gfP (by rw [mk_90 h]) (mp_90_63 h)
theorem mp_90_68 {X : Nat} {μ : Mm} (h : Shp X (mm_K μ) (mm_P μ)) : mm_P μ (X + 90) 68 = some (X + 130) := sp_90_68 h
theorem rp_90_68 {X : Nat} {μ : Mm} (h : Shp X (mm_K μ) (mm_P μ)) : gf_P 12 68 (X + 90) μ = some (X + 130) := e_gfP (by rw [mk_90 h]) (mp_90_68 h)
theorem mp_90_69 {X : Nat} {μ : Mm} (h : Shp X (mm_K μ) (mm_P μ)) : mm_P μ (X + 90) 69 = some (X + 131) := sp_90_69 h
theorem rp_90_69 {X : Nat} {μ : Mm} (h : Shp X (mm_K μ) (mm_P μ)) : gf_P 12 69 (X + 90) μ = some (X + 131) := e_gfP (by rw [mk_90 h]) (mp_90_69 h)
theorem mp_90_70 {X : Nat} {μ : Mm} (h : Shp X (mm_K μ) (mm_P μ)) : mm_P μ (X + 90) 70 = some (X + 132) := sp_90_70 h
theorem rp_90_70 {X : Nat} {μ : Mm} (h : Shp X (mm_K μ) (mm_P μ)) : gf_P 12 70 (X + 90) μ = some (X + 132) := e_gfP (by rw [mk_90 h]) (mp_90_70 h)
theorem mp_90_71 {X : Nat} {μ : Mm} (h : Shp X (mm_K μ) (mm_P μ)) : mm_P μ (X + 90) 71 = some (X + 133) := sp_90_71 h
theorem rp_90_71 {X : Nat} {μ : Mm} (h : Shp X (mm_K μ) (mm_P μ)) : gf_P 12 71 (X + 90) μ = some (X + 133) := e_gfP (by rw [mk_90 h]) (mp_90_71 h)
theorem mp_90_72 {X : Nat} {μ : Mm} (h : Shp X (mm_K μ) (mm_P μ)) : mm_P μ (X + 90) 72 = some (X + 134) := sp_90_72 h
theorem rp_90_72 {X : Nat} {μ : Mm} (h : Shp X (mm_K μ) (mm_P μ)) : gf_P 12 72 (X + 90) μ = some (X + 134) := e_gfP (by rw [mk_90 h]) (mp_90_72 h)
