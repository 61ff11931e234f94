/-! ===== the memory made at the start ===== -/
def kl : List (Nat × Nat) := [(11, 0), (6, 0), (20, 900), (7, 0), (1, 0), (20, 16), (20, 16), (20, 16), (20, 16), (20, 16), (20, 20), (20, 20), (20, 20), (4, 0), (20, 12), (24, 3), (20, 8), (20, 8), (20, 8), (20, 21), (21, 231), (8, 0), (21, 8), (20, 8), (20, 8), (3, 0), (20, 48), (3, 0), (20, 32), (3, 0), (20, 32), (3, 0), (20, 32), (3, 0), (20, 32), (10, 0), (20, 8), (20, 8), (20, 256), (8, 0), (21, 8), (20, 8), (20, 8), (3, 0), (20, 48), (3, 0), (20, 32), (3, 0), (20, 32), (3, 0), (20, 32), (3, 0), (20, 32), (10, 0), (20, 8), (20, 8), (20, 256), (9, 0), (5, 0), (20, 28), (20, 28), (20, 28), (20, 8), (20, 8), (20, 8), (20, 8), (2, 0), (25, 12), (21, 0), (21, 0), (21, 0), (21, 0), (21, 0), (21, 0), (21, 0), (21, 0), (21, 0), (21, 0), (21, 0), (21, 0), (20, 56), (20, 16), (20, 0), (20, 0), (4, 0), (20, 12), (4, 0), (20, 12), (4, 0), (20, 12), (12, 0), (22, 900), (20, 22), (21, 8), (20, 16), (20, 24), (20, 24), (20, 16), (20, 16), (20, 16), (20, 16), (20, 16), (20, 16), (20, 16), (20, 16), (20, 16), (20, 16), (20, 16), (20, 16), (20, 16), (21, 14833), (20, 8), (20, 8), (20, 150), (20, 150), (20, 150), (20, 16), (20, 16), (20, 16), (20, 16), (20, 16), (20, 20), (20, 20), (20, 20), (21, 232), (20, 2688), (20, 9), (20, 16), (20, 21), (21, 231), (20, 32), (20, 3), (20, 3), (21, 3), (23, 3)]
def pw : List (Nat × Nat × Nat) := [(1, 0, 2), (0, 0, 1), (3, 0, 1), (0, 1, 3), (4, 0, 5), (4, 1, 6), (4, 2, 7), (4, 3, 8), (4, 4, 9), (4, 5, 10), (4, 6, 11), (4, 7, 12), (0, 4, 4), (13, 0, 14), (0, 6, 13), (0, 7, 15), (0, 8, 16), (0, 9, 17), (0, 10, 18), (0, 11, 19), (0, 12, 20), (21, 0, 22), (21, 1, 23), (21, 2, 24), (25, 0, 26), (21, 3, 25), (27, 0, 28), (21, 4, 27), (29, 0, 30), (21, 5, 29), (31, 0, 32), (21, 6, 31), (33, 0, 34), (21, 7, 33), (35, 0, 36), (35, 1, 37), (35, 2, 38), (21, 8, 35), (0, 13, 21), (39, 0, 40), (39, 1, 41), (39, 2, 42), (43, 0, 44), (39, 3, 43), (45, 0, 46), (39, 4, 45), (47, 0, 48), (39, 5, 47), (49, 0, 50), (39, 6, 49), (51, 0, 52), (39, 7, 51), (53, 0, 54), (53, 1, 55), (53, 2, 56), (39, 8, 53), (0, 14, 39), (57, 0, 3), (57, 1, 39), (0, 2, 57), (58, 0, 59), (58, 1, 60), (58, 2, 61), (58, 3, 62), (58, 4, 63), (58, 5, 64), (58, 6, 65), (58, 7, 21), (0, 3, 58), (67, 0, 68), (67, 1, 69), (67, 2, 70), (67, 3, 71), (67, 4, 72), (67, 5, 73), (67, 6, 74), (67, 7, 75), (67, 8, 76), (67, 9, 77), (67, 10, 78), (67, 11, 79), (66, 2, 67), (66, 3, 80), (66, 4, 81), (66, 6, 82), (66, 7, 83), (66, 5, 21), (66, 0, 58), (66, 1, 4), (0, 5, 66), (84, 0, 85), (15, 0, 84), (86, 0, 87), (15, 1, 86), (88, 0, 89), (15, 2, 88), (90, 0, 91), (90, 12, 92), (90, 13, 93), (90, 14, 94), (90, 15, 95), (90, 16, 96), (90, 17, 97), (90, 18, 98), (90, 19, 99), (90, 20, 100), (90, 21, 101), (90, 22, 102), (90, 23, 103), (90, 24, 104), (90, 25, 105), (90, 26, 106), (90, 27, 107), (90, 28, 108), (90, 29, 109), (90, 34, 110), (90, 35, 111), (90, 36, 112), (90, 43, 113), (90, 44, 114), (90, 45, 115), (90, 49, 116), (90, 50, 117), (90, 51, 118), (90, 52, 119), (90, 53, 120), (90, 54, 121), (90, 55, 122), (90, 56, 123), (90, 57, 124), (90, 58, 125), (90, 59, 126), (90, 61, 127), (90, 62, 128), (90, 63, 129), (90, 68, 130), (90, 69, 131), (90, 70, 132), (90, 71, 133), (90, 72, 134)]
def iw : List (Nat × Nat × Int32) := [(57, 4, -1), (90, 9, -1)]
def kt (j : Nat) : Nat × Nat := kl.getD j (0, 0)
def lkp (w j k : Nat) : Option Nat := ((pw.take w).reverse.find? (fun e => e.1 == j && e.2.1 == k)).map (fun e => e.2.2)
def lki (i j k : Nat) : Int32 := (((iw.take i).reverse.find? (fun e => e.1 == j && e.2.1 == k)).map (fun e => e.2.2)).getD 0
/-- as many cells, slots, references and numbers as are made so far, upon an older memory -/
def Mx (X n0 : Nat) (ρ : Mm) (n z w i : Nat) : Mm := (fun a => if X + n0 ≤ a then (fun k => lki i (a - X) k) else mm_I ρ a, fun a => if X + n0 ≤ a then (fun _ => 0) else mm_L ρ a, fun a => if X + n0 ≤ a then (fun k => (lkp w (a - X) k).map (fun v => X + v)) else mm_P ρ a, fun a => if X + n0 ≤ a ∧ a < X + n then kt (a - X) else mm_K ρ a, mm_S ρ, X + n, z)
section MX
variable {X n0 : Nat} {ρ : Mm} {n z w i t m n' z' w' i' j k v a c : Nat}
theorem lkp_n (h : ∀ e ∈ pw.take w, e.1 < n) (k : Nat) : lkp w n k = none := by
  unfold lkp
  rw [List.find?_eq_none.mpr (fun e he => ?_)]
  · rfl
  · have := h e (List.mem_reverse.mp he)
    simp
    intro y
    omega
theorem lki_n (h : ∀ e ∈ iw.take i, e.1 < n) (k : Nat) : lki i n k = 0 := by
  unfold lki
  rw [List.find?_eq_none.mpr (fun e he => ?_)]
  · rfl
  · have := h e (List.mem_reverse.mp he)
    simp
    intro y
    omega
theorem lkp_s (h : pw[w]? = some (j, k, v)) (a c : Nat) : lkp (w + 1) a c = if a = j ∧ c = k then some v else lkp w a c := by
  unfold lkp
  rw [List.take_succ, h]
  show ((pw.take w ++ [(j, k, v)]).reverse.find? _).map _ = _
  rw [List.reverse_append]
  show (((j, k, v) :: (pw.take w).reverse).find? _).map _ = _
  rw [List.find?_cons]
  by_cases e : a = j ∧ c = k
  · rw [if_pos e, e.1, e.2]
    simp
  · rw [if_neg e]
    have : ((j == a) && (k == c)) = false := by
      cases e2 : ((j == a) && (k == c)) with
      | false => rfl
      | true =>
        simp at e2
        exact absurd ⟨e2.1.symm, e2.2.symm⟩ e
    show (match ((j == a) && (k == c)) with | true => some (j, k, v) | false => _).map _ = _
    rw [this]
theorem lki_s {v : Int32} (h : iw[i]? = some (j, k, v)) (a c : Nat) : lki (i + 1) a c = if a = j ∧ c = k then v else lki i a c := by
  unfold lki
  rw [List.take_succ, h]
  show (((iw.take i ++ [(j, k, v)]).reverse.find? _).map _).getD 0 = _
  rw [List.reverse_append]
  show ((((j, k, v) :: (iw.take i).reverse).find? _).map _).getD 0 = _
  rw [List.find?_cons]
  by_cases e : a = j ∧ c = k
  · rw [if_pos e, e.1, e.2]
    simp
  · rw [if_neg e]
    have : ((j == a) && (k == c)) = false := by
      cases e2 : ((j == a) && (k == c)) with
      | false => rfl
      | true =>
        simp at e2
        exact absurd ⟨e2.1.symm, e2.2.symm⟩ e
    simp only [this]
theorem x_KK (h : n0 ≤ j ∧ j < n) : mm_K (Mx X n0 ρ n z w i) (X + j) = kt j := by
  show (if X + n0 ≤ X + j ∧ X + j < X + n then kt (X + j - X) else _) = _
  rw [if_pos ⟨by omega, by omega⟩, Nat.add_sub_cancel_left]
theorem x_K (h : n0 ≤ j ∧ j < n ∧ (kt j).1 = t) : (mm_K (Mx X n0 ρ n z w i) (X + j)).1 = t := by
  rw [x_KK ⟨h.1, h.2.1⟩]
  exact h.2.2
theorem x_PP (h : n0 ≤ j) : mm_P (Mx X n0 ρ n z w i) (X + j) k = (lkp w j k).map (fun v => X + v) := by
  show (if X + n0 ≤ X + j then (fun k => (lkp w (X + j - X) k).map (fun v => X + v)) else _) k = _
  rw [if_pos (by omega), Nat.add_sub_cancel_left]
theorem x_II (h : n0 ≤ j) : mm_I (Mx X n0 ρ n z w i) (X + j) k = lki i j k := by
  show (if X + n0 ≤ X + j then (fun k => lki i (X + j - X) k) else _) k = _
  rw [if_pos (by omega), Nat.add_sub_cancel_left]
theorem x_mn (h : n0 ≤ n ∧ kt n = (t, m) ∧ z + (if t ≤ 12 then cfn t else m) = z' ∧ n + 1 = n' ∧ (∀ e ∈ pw.take w, e.1 < n) ∧ (∀ e ∈ iw.take i, e.1 < n)) : mn_C (Mx X n0 ρ n z w i) t m = Mx X n0 ρ n' z' w i := by
  obtain ⟨h1, h2, h3, h4, h5, h6⟩ := h
  subst h3
  subst h4
  have e1 : u1 (fun a => if X + n0 ≤ a then (fun k => lki i (a - X) k) else mm_I ρ a) (X + n) (fun _ => 0) = fun a => if X + n0 ≤ a then (fun k => lki i (a - X) k) else mm_I ρ a := by
    funext a
    by_cases e : a = X + n
    · rw [e, u1_s, if_pos (by omega)]
      funext k
      rw [Nat.add_sub_cancel_left, lki_n h6]
    · rw [u1_n _ _ e]
  have e2 : u1 (fun a => if X + n0 ≤ a then (fun _ => (0 : Int64)) else mm_L ρ a) (X + n) (fun _ => 0) = fun a => if X + n0 ≤ a then (fun _ => 0) else mm_L ρ a := by
    funext a
    by_cases e : a = X + n
    · rw [e, u1_s, if_pos (by omega)]
    · rw [u1_n _ _ e]
  have e3 : u1 (fun a => if X + n0 ≤ a then (fun k => (lkp w (a - X) k).map (fun v => X + v)) else mm_P ρ a) (X + n) (fun _ => none) = fun a => if X + n0 ≤ a then (fun k => (lkp w (a - X) k).map (fun v => X + v)) else mm_P ρ a := by
    funext a
    by_cases e : a = X + n
    · rw [e, u1_s, if_pos (by omega)]
      funext k
      rw [Nat.add_sub_cancel_left, lkp_n h5]
      rfl
    · rw [u1_n _ _ e]
  have e4 : u1 (fun a => if X + n0 ≤ a ∧ a < X + n then kt (a - X) else mm_K ρ a) (X + n) (t, m) = fun a => if X + n0 ≤ a ∧ a < X + (n + 1) then kt (a - X) else mm_K ρ a := by
    funext a
    by_cases e : a = X + n
    · rw [e, u1_s, if_pos ⟨by omega, by omega⟩, Nat.add_sub_cancel_left, h2]
    · rw [u1_n _ _ e]
      by_cases y : X + n0 ≤ a ∧ a < X + n
      · rw [if_pos y, if_pos ⟨y.1, by omega⟩]
      · rw [if_neg y, if_neg (by omega)]
  show (u1 (fun a => if X + n0 ≤ a then (fun k => lki i (a - X) k) else mm_I ρ a) (X + n) (fun _ => 0), u1 (fun a => if X + n0 ≤ a then (fun _ => (0 : Int64)) else mm_L ρ a) (X + n) (fun _ => 0), u1 (fun a => if X + n0 ≤ a then (fun k => (lkp w (a - X) k).map (fun v => X + v)) else mm_P ρ a) (X + n) (fun _ => none), u1 (fun a => if X + n0 ≤ a ∧ a < X + n then kt (a - X) else mm_K ρ a) (X + n) (t, m), mm_S ρ, X + n + 1, z + (if t ≤ 12 then cfn t else m)) = _
  rw [e1, e2, e3, e4]
  rfl
theorem x_O (_ : t ≤ 12) (h : n0 ≤ n ∧ kt n = (t, 0) ∧ z + (if t ≤ 12 then cfn t else 0) = z' ∧ n + 1 = n' ∧ (∀ e ∈ pw.take w, e.1 < n) ∧ (∀ e ∈ iw.take i, e.1 < n)) : nw_O t (Mx X n0 ρ n z w i) = some (X + n, Mx X n0 ρ n' z' w i) := by
  show some (X + n, mn_C (Mx X n0 ρ n z w i) t 0) = _
  rw [x_mn h]
theorem x_A {v : Int32} (hv : v = nI m) (hm : m ≤ 100000) (_ : 12 < t) (h : n0 ≤ n ∧ kt n = (t, m) ∧ z + (if t ≤ 12 then cfn t else m) = z' ∧ n + 1 = n' ∧ (∀ e ∈ pw.take w, e.1 < n) ∧ (∀ e ∈ iw.take i, e.1 < n)) : nw_A t v (Mx X n0 ρ n z w i) = some (X + n, Mx X n0 ρ n' z' w i) := by
  rw [hv, e_nwA hm]
  show some (X + n, mn_C (Mx X n0 ρ n z w i) t m) = _
  rw [x_mn h]
theorem x_ms (h : n0 ≤ j) (h2 : pw[w]? = some (j, k, v)) : ms_P (Mx X n0 ρ n z w i) (X + j) k (some (X + v)) = Mx X n0 ρ n z (w + 1) i := by
  have e3 : u1 (fun a => if X + n0 ≤ a then (fun k => (lkp w (a - X) k).map (fun v => X + v)) else mm_P ρ a) (X + j) (u1 (mm_P (Mx X n0 ρ n z w i) (X + j)) k (some (X + v))) = fun a => if X + n0 ≤ a then (fun k => (lkp (w + 1) (a - X) k).map (fun v => X + v)) else mm_P ρ a := by
    funext a
    by_cases e : a = X + j
    · rw [e, u1_s, if_pos (by omega)]
      funext c
      rw [Nat.add_sub_cancel_left, lkp_s h2]
      by_cases y : c = k
      · rw [y, u1_s, if_pos ⟨rfl, rfl⟩]
        rfl
      · rw [u1_n _ _ y, if_neg (fun u => y u.2), x_PP h]
    · rw [u1_n _ _ e]
      by_cases y : X + n0 ≤ a
      · rw [if_pos y, if_pos y]
        funext c
        rw [lkp_s h2, if_neg (fun u => e (by omega))]
      · rw [if_neg y, if_neg y]
  show (_, _, u1 (fun a => if X + n0 ≤ a then (fun k => (lkp w (a - X) k).map (fun v => X + v)) else mm_P ρ a) (X + j) (u1 (mm_P (Mx X n0 ρ n z w i) (X + j)) k (some (X + v))), _) = _
  rw [e3]
  rfl
theorem x_P (h : (n0 ≤ j ∧ j < n ∧ (kt j).1 = t) ∧ pw[w]? = some (j, k, v) ∧ w + 1 = w') : pf_P t k (X + j) (X + v) (Mx X n0 ρ n z w i) = some (Mx X n0 ρ n z w' i) := by
  unfold pf_P
  rw [if_pos (x_K h.1), x_ms h.1.1 h.2.1, h.2.2]
theorem x_I {v : Int32} (h : (n0 ≤ j ∧ j < n ∧ (kt j).1 = t) ∧ iw[i]? = some (j, k, v) ∧ i + 1 = i') : pf_I t k (X + j) v (Mx X n0 ρ n z w i) = some (Mx X n0 ρ n z w i') := by
  obtain ⟨h1, h2, h3⟩ := h
  subst h3
  unfold pf_I
  rw [if_pos (x_K h1)]
  have e3 : u1 (fun a => if X + n0 ≤ a then (fun k => lki i (a - X) k) else mm_I ρ a) (X + j) (u1 (mm_I (Mx X n0 ρ n z w i) (X + j)) k v) = fun a => if X + n0 ≤ a then (fun k => lki (i + 1) (a - X) k) else mm_I ρ a := by
    funext a
    by_cases e : a = X + j
    · rw [e, u1_s, if_pos (by omega)]
      funext c
      rw [Nat.add_sub_cancel_left, lki_s h2]
      by_cases y : c = k
      · rw [y, u1_s, if_pos ⟨rfl, rfl⟩]
      · rw [u1_n _ _ y, if_neg (fun u => y u.2), x_II h1.1]
    · rw [u1_n _ _ e]
      by_cases y : X + n0 ≤ a
      · rw [if_pos y, if_pos y]
        funext c
        rw [lki_s h2, if_neg (fun u => e (by omega))]
      · rw [if_neg y, if_neg y]
  show some (u1 (fun a => if X + n0 ≤ a then (fun k => lki i (a - X) k) else mm_I ρ a) (X + j) (u1 (mm_I (Mx X n0 ρ n z w i) (X + j)) k v), _) = _
  rw [e3]
  rfl
theorem x_G (h : (n0 ≤ j ∧ j < n ∧ (kt j).1 = t) ∧ lkp w j k = some v) : gf_P t k (X + j) (Mx X n0 ρ n z w i) = some (X + v) := by
  unfold gf_P
  rw [if_pos (x_K h.1), x_PP h.1.1, h.2]
  rfl
theorem x_len (h : (n0 ≤ j ∧ j < n) ∧ (20 ≤ (kt j).1 ∧ (kt j).1 ≤ 25) ∧ (kt j).2 = m) : ga_len (X + j) (Mx X n0 ρ n z w i) = some (nI m) := by
  unfold ga_len
  rw [x_KK h.1, if_pos h.2.1, h.2.2]
theorem x_paP (h : ((n0 ≤ j ∧ j < n) ∧ kt j = (24, 3) ∧ k < 3) ∧ (n0 ≤ v ∧ v < n ∧ (kt v).1 = 4) ∧ pw[w]? = some (j, k, v) ∧ w + 1 = w') : pa_P 24 (X + j) (nI k) (X + v) (Mx X n0 ρ n z w i) = some (Mx X n0 ρ n z w' i) := by
  unfold pa_P
  rw [x_KK h.1.1, h.1.2.1, x_K h.2.1, if_pos ⟨rfl, nI_ix h.1.2.2 (by decide), rfl⟩, nI_clamp (by have := h.1.2.2; omega), x_ms h.1.1.1 h.2.2.1, h.2.2.2]
end MX
