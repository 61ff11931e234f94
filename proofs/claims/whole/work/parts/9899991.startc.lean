/-! ===== the class alone: its shape before the reference is there ===== -/
def k_tab_q : List (Nat × Nat × Nat) := [(0, 11, 0), (1, 6, 0), (2, 20, 900), (3, 7, 0), (4, 1, 0), (5, 20, 16), (6, 20, 16), (7, 20, 16), (8, 20, 16), (9, 20, 16), (10, 20, 20), (11, 20, 20), (12, 20, 20), (13, 4, 0), (14, 20, 12), (15, 24, 3), (16, 20, 8), (17, 20, 8), (18, 20, 8), (19, 20, 21), (20, 21, 231), (21, 8, 0), (22, 21, 8), (23, 20, 8), (24, 20, 8), (25, 3, 0), (26, 20, 48), (27, 3, 0), (28, 20, 32), (29, 3, 0), (30, 20, 32), (31, 3, 0), (32, 20, 32), (33, 3, 0), (34, 20, 32), (35, 10, 0), (36, 20, 8), (37, 20, 8), (38, 20, 256), (39, 8, 0), (40, 21, 8), (41, 20, 8), (42, 20, 8), (43, 3, 0), (44, 20, 48), (45, 3, 0), (46, 20, 32), (47, 3, 0), (48, 20, 32), (49, 3, 0), (50, 20, 32), (51, 3, 0), (52, 20, 32), (53, 10, 0), (54, 20, 8), (55, 20, 8), (56, 20, 256), (57, 9, 0), (58, 5, 0), (59, 20, 28), (60, 20, 28), (61, 20, 28), (62, 20, 8), (63, 20, 8), (64, 20, 8), (65, 20, 8), (66, 2, 0), (67, 25, 12), (80, 20, 56), (81, 20, 16), (84, 4, 0), (85, 20, 12), (86, 4, 0), (87, 20, 12), (88, 4, 0), (89, 20, 12)]
def p_tab_q : List (Nat × Nat × Nat) := [(0, 0, 1), (0, 1, 3), (0, 2, 57), (0, 3, 58), (0, 4, 4), (0, 5, 66), (0, 6, 13), (0, 7, 15), (0, 8, 16), (0, 9, 17), (0, 10, 18), (0, 11, 19), (0, 12, 20), (1, 0, 2), (3, 0, 1), (4, 0, 5), (4, 1, 6), (4, 2, 7), (4, 3, 8), (4, 4, 9), (4, 5, 10), (4, 6, 11), (4, 7, 12), (13, 0, 14), (15, 0, 84), (15, 1, 86), (15, 2, 88), (21, 0, 22), (21, 1, 23), (21, 2, 24), (21, 3, 25), (21, 4, 27), (21, 5, 29), (21, 6, 31), (21, 7, 33), (21, 8, 35), (25, 0, 26), (27, 0, 28), (29, 0, 30), (31, 0, 32), (33, 0, 34), (35, 0, 36), (35, 1, 37), (35, 2, 38), (39, 0, 40), (39, 1, 41), (39, 2, 42), (39, 3, 43), (39, 4, 45), (39, 5, 47), (39, 6, 49), (39, 7, 51), (39, 8, 53), (43, 0, 44), (45, 0, 46), (47, 0, 48), (49, 0, 50), (51, 0, 52), (53, 0, 54), (53, 1, 55), (53, 2, 56), (57, 0, 3), (58, 0, 59), (58, 1, 60), (58, 2, 61), (58, 3, 62), (58, 4, 63), (58, 5, 64), (58, 6, 65), (66, 0, 58), (66, 1, 4), (66, 2, 67), (66, 3, 80), (66, 4, 81), (84, 0, 85), (86, 0, 87), (88, 0, 89)]
def Shp_q (X : Nat) (K : Nat → Nat × Nat) (P : Nat → Nat → Option Nat) : Prop := (∀ q ∈ k_tab_q, K (X + q.1) = (q.2.1, q.2.2)) ∧ (∀ q ∈ p_tab_q, P (X + q.1) q.2.1 = some (X + q.2.2))
abbrev Sh_q (X : Nat) (μ : Mm) : Prop := Shp_q X (mm_K μ) (mm_P μ)
theorem sk_0_q {X : Nat} {K : Nat → Nat × Nat} {P : Nat → Nat → Option Nat} (h : Shp_q X K P) : K (X + 0) = (11, 0) := h.1 (0, 11, 0) (by decide)
theorem sk_4_q {X : Nat} {K : Nat → Nat × Nat} {P : Nat → Nat → Option Nat} (h : Shp_q X K P) : K (X + 4) = (1, 0) := h.1 (4, 1, 0) (by decide)
theorem sk_13_q {X : Nat} {K : Nat → Nat × Nat} {P : Nat → Nat → Option Nat} (h : Shp_q X K P) : K (X + 13) = (4, 0) := h.1 (13, 4, 0) (by decide)
theorem sk_15_q {X : Nat} {K : Nat → Nat × Nat} {P : Nat → Nat → Option Nat} (h : Shp_q X K P) : K (X + 15) = (24, 3) := h.1 (15, 24, 3) (by decide)
theorem sk_21_q {X : Nat} {K : Nat → Nat × Nat} {P : Nat → Nat → Option Nat} (h : Shp_q X K P) : K (X + 21) = (8, 0) := h.1 (21, 8, 0) (by decide)
theorem sk_22_q {X : Nat} {K : Nat → Nat × Nat} {P : Nat → Nat → Option Nat} (h : Shp_q X K P) : K (X + 22) = (21, 8) := h.1 (22, 21, 8) (by decide)
theorem sk_23_q {X : Nat} {K : Nat → Nat × Nat} {P : Nat → Nat → Option Nat} (h : Shp_q X K P) : K (X + 23) = (20, 8) := h.1 (23, 20, 8) (by decide)
theorem sk_24_q {X : Nat} {K : Nat → Nat × Nat} {P : Nat → Nat → Option Nat} (h : Shp_q X K P) : K (X + 24) = (20, 8) := h.1 (24, 20, 8) (by decide)
theorem sk_25_q {X : Nat} {K : Nat → Nat × Nat} {P : Nat → Nat → Option Nat} (h : Shp_q X K P) : K (X + 25) = (3, 0) := h.1 (25, 3, 0) (by decide)
theorem sk_26_q {X : Nat} {K : Nat → Nat × Nat} {P : Nat → Nat → Option Nat} (h : Shp_q X K P) : K (X + 26) = (20, 48) := h.1 (26, 20, 48) (by decide)
theorem sk_27_q {X : Nat} {K : Nat → Nat × Nat} {P : Nat → Nat → Option Nat} (h : Shp_q X K P) : K (X + 27) = (3, 0) := h.1 (27, 3, 0) (by decide)
theorem sk_28_q {X : Nat} {K : Nat → Nat × Nat} {P : Nat → Nat → Option Nat} (h : Shp_q X K P) : K (X + 28) = (20, 32) := h.1 (28, 20, 32) (by decide)
theorem sk_29_q {X : Nat} {K : Nat → Nat × Nat} {P : Nat → Nat → Option Nat} (h : Shp_q X K P) : K (X + 29) = (3, 0) := h.1 (29, 3, 0) (by decide)
theorem sk_30_q {X : Nat} {K : Nat → Nat × Nat} {P : Nat → Nat → Option Nat} (h : Shp_q X K P) : K (X + 30) = (20, 32) := h.1 (30, 20, 32) (by decide)
theorem sk_31_q {X : Nat} {K : Nat → Nat × Nat} {P : Nat → Nat → Option Nat} (h : Shp_q X K P) : K (X + 31) = (3, 0) := h.1 (31, 3, 0) (by decide)
theorem sk_32_q {X : Nat} {K : Nat → Nat × Nat} {P : Nat → Nat → Option Nat} (h : Shp_q X K P) : K (X + 32) = (20, 32) := h.1 (32, 20, 32) (by decide)
theorem sk_33_q {X : Nat} {K : Nat → Nat × Nat} {P : Nat → Nat → Option Nat} (h : Shp_q X K P) : K (X + 33) = (3, 0) := h.1 (33, 3, 0) (by decide)
theorem sk_34_q {X : Nat} {K : Nat → Nat × Nat} {P : Nat → Nat → Option Nat} (h : Shp_q X K P) : K (X + 34) = (20, 32) := h.1 (34, 20, 32) (by decide)
theorem sk_35_q {X : Nat} {K : Nat → Nat × Nat} {P : Nat → Nat → Option Nat} (h : Shp_q X K P) : K (X + 35) = (10, 0) := h.1 (35, 10, 0) (by decide)
theorem sk_36_q {X : Nat} {K : Nat → Nat × Nat} {P : Nat → Nat → Option Nat} (h : Shp_q X K P) : K (X + 36) = (20, 8) := h.1 (36, 20, 8) (by decide)
theorem sk_37_q {X : Nat} {K : Nat → Nat × Nat} {P : Nat → Nat → Option Nat} (h : Shp_q X K P) : K (X + 37) = (20, 8) := h.1 (37, 20, 8) (by decide)
theorem sk_38_q {X : Nat} {K : Nat → Nat × Nat} {P : Nat → Nat → Option Nat} (h : Shp_q X K P) : K (X + 38) = (20, 256) := h.1 (38, 20, 256) (by decide)
theorem sk_39_q {X : Nat} {K : Nat → Nat × Nat} {P : Nat → Nat → Option Nat} (h : Shp_q X K P) : K (X + 39) = (8, 0) := h.1 (39, 8, 0) (by decide)
theorem sk_40_q {X : Nat} {K : Nat → Nat × Nat} {P : Nat → Nat → Option Nat} (h : Shp_q X K P) : K (X + 40) = (21, 8) := h.1 (40, 21, 8) (by decide)
theorem sk_41_q {X : Nat} {K : Nat → Nat × Nat} {P : Nat → Nat → Option Nat} (h : Shp_q X K P) : K (X + 41) = (20, 8) := h.1 (41, 20, 8) (by decide)
theorem sk_42_q {X : Nat} {K : Nat → Nat × Nat} {P : Nat → Nat → Option Nat} (h : Shp_q X K P) : K (X + 42) = (20, 8) := h.1 (42, 20, 8) (by decide)
theorem sk_43_q {X : Nat} {K : Nat → Nat × Nat} {P : Nat → Nat → Option Nat} (h : Shp_q X K P) : K (X + 43) = (3, 0) := h.1 (43, 3, 0) (by decide)
theorem sk_44_q {X : Nat} {K : Nat → Nat × Nat} {P : Nat → Nat → Option Nat} (h : Shp_q X K P) : K (X + 44) = (20, 48) := h.1 (44, 20, 48) (by decide)
theorem sk_45_q {X : Nat} {K : Nat → Nat × Nat} {P : Nat → Nat → Option Nat} (h : Shp_q X K P) : K (X + 45) = (3, 0) := h.1 (45, 3, 0) (by decide)
theorem sk_46_q {X : Nat} {K : Nat → Nat × Nat} {P : Nat → Nat → Option Nat} (h : Shp_q X K P) : K (X + 46) = (20, 32) := h.1 (46, 20, 32) (by decide)
theorem sk_47_q {X : Nat} {K : Nat → Nat × Nat} {P : Nat → Nat → Option Nat} (h : Shp_q X K P) : K (X + 47) = (3, 0) := h.1 (47, 3, 0) (by decide)
theorem sk_48_q {X : Nat} {K : Nat → Nat × Nat} {P : Nat → Nat → Option Nat} (h : Shp_q X K P) : K (X + 48) = (20, 32) := h.1 (48, 20, 32) (by decide)
theorem sk_49_q {X : Nat} {K : Nat → Nat × Nat} {P : Nat → Nat → Option Nat} (h : Shp_q X K P) : K (X + 49) = (3, 0) := h.1 (49, 3, 0) (by decide)
theorem sk_50_q {X : Nat} {K : Nat → Nat × Nat} {P : Nat → Nat → Option Nat} (h : Shp_q X K P) : K (X + 50) = (20, 32) := h.1 (50, 20, 32) (by decide)
theorem sk_51_q {X : Nat} {K : Nat → Nat × Nat} {P : Nat → Nat → Option Nat} (h : Shp_q X K P) : K (X + 51) = (3, 0) := h.1 (51, 3, 0) (by decide)
theorem sk_52_q {X : Nat} {K : Nat → Nat × Nat} {P : Nat → Nat → Option Nat} (h : Shp_q X K P) : K (X + 52) = (20, 32) := h.1 (52, 20, 32) (by decide)
theorem sk_53_q {X : Nat} {K : Nat → Nat × Nat} {P : Nat → Nat → Option Nat} (h : Shp_q X K P) : K (X + 53) = (10, 0) := h.1 (53, 10, 0) (by decide)
theorem sk_54_q {X : Nat} {K : Nat → Nat × Nat} {P : Nat → Nat → Option Nat} (h : Shp_q X K P) : K (X + 54) = (20, 8) := h.1 (54, 20, 8) (by decide)
theorem sk_55_q {X : Nat} {K : Nat → Nat × Nat} {P : Nat → Nat → Option Nat} (h : Shp_q X K P) : K (X + 55) = (20, 8) := h.1 (55, 20, 8) (by decide)
theorem sk_56_q {X : Nat} {K : Nat → Nat × Nat} {P : Nat → Nat → Option Nat} (h : Shp_q X K P) : K (X + 56) = (20, 256) := h.1 (56, 20, 256) (by decide)
theorem sk_58_q {X : Nat} {K : Nat → Nat × Nat} {P : Nat → Nat → Option Nat} (h : Shp_q X K P) : K (X + 58) = (5, 0) := h.1 (58, 5, 0) (by decide)
theorem sk_59_q {X : Nat} {K : Nat → Nat × Nat} {P : Nat → Nat → Option Nat} (h : Shp_q X K P) : K (X + 59) = (20, 28) := h.1 (59, 20, 28) (by decide)
theorem sk_60_q {X : Nat} {K : Nat → Nat × Nat} {P : Nat → Nat → Option Nat} (h : Shp_q X K P) : K (X + 60) = (20, 28) := h.1 (60, 20, 28) (by decide)
theorem sk_61_q {X : Nat} {K : Nat → Nat × Nat} {P : Nat → Nat → Option Nat} (h : Shp_q X K P) : K (X + 61) = (20, 28) := h.1 (61, 20, 28) (by decide)
theorem sk_64_q {X : Nat} {K : Nat → Nat × Nat} {P : Nat → Nat → Option Nat} (h : Shp_q X K P) : K (X + 64) = (20, 8) := h.1 (64, 20, 8) (by decide)
theorem sk_65_q {X : Nat} {K : Nat → Nat × Nat} {P : Nat → Nat → Option Nat} (h : Shp_q X K P) : K (X + 65) = (20, 8) := h.1 (65, 20, 8) (by decide)
theorem sk_66_q {X : Nat} {K : Nat → Nat × Nat} {P : Nat → Nat → Option Nat} (h : Shp_q X K P) : K (X + 66) = (2, 0) := h.1 (66, 2, 0) (by decide)
theorem sk_84_q {X : Nat} {K : Nat → Nat × Nat} {P : Nat → Nat → Option Nat} (h : Shp_q X K P) : K (X + 84) = (4, 0) := h.1 (84, 4, 0) (by decide)
theorem sk_86_q {X : Nat} {K : Nat → Nat × Nat} {P : Nat → Nat → Option Nat} (h : Shp_q X K P) : K (X + 86) = (4, 0) := h.1 (86, 4, 0) (by decide)
theorem sk_88_q {X : Nat} {K : Nat → Nat × Nat} {P : Nat → Nat → Option Nat} (h : Shp_q X K P) : K (X + 88) = (4, 0) := h.1 (88, 4, 0) (by decide)
theorem sp_0_3_q {X : Nat} {K : Nat → Nat × Nat} {P : Nat → Nat → Option Nat} (h : Shp_q X K P) : P (X + 0) 3 = some (X + 58) := h.2 (0, 3, 58) (by decide)
theorem sp_0_4_q {X : Nat} {K : Nat → Nat × Nat} {P : Nat → Nat → Option Nat} (h : Shp_q X K P) : P (X + 0) 4 = some (X + 4) := h.2 (0, 4, 4) (by decide)
theorem sp_0_5_q {X : Nat} {K : Nat → Nat × Nat} {P : Nat → Nat → Option Nat} (h : Shp_q X K P) : P (X + 0) 5 = some (X + 66) := h.2 (0, 5, 66) (by decide)
theorem sp_0_6_q {X : Nat} {K : Nat → Nat × Nat} {P : Nat → Nat → Option Nat} (h : Shp_q X K P) : P (X + 0) 6 = some (X + 13) := h.2 (0, 6, 13) (by decide)
theorem sp_0_7_q {X : Nat} {K : Nat → Nat × Nat} {P : Nat → Nat → Option Nat} (h : Shp_q X K P) : P (X + 0) 7 = some (X + 15) := h.2 (0, 7, 15) (by decide)
theorem sp_15_0_q {X : Nat} {K : Nat → Nat × Nat} {P : Nat → Nat → Option Nat} (h : Shp_q X K P) : P (X + 15) 0 = some (X + 84) := h.2 (15, 0, 84) (by decide)
theorem sp_15_1_q {X : Nat} {K : Nat → Nat × Nat} {P : Nat → Nat → Option Nat} (h : Shp_q X K P) : P (X + 15) 1 = some (X + 86) := h.2 (15, 1, 86) (by decide)
theorem sp_15_2_q {X : Nat} {K : Nat → Nat × Nat} {P : Nat → Nat → Option Nat} (h : Shp_q X K P) : P (X + 15) 2 = some (X + 88) := h.2 (15, 2, 88) (by decide)
theorem sp_21_0_q {X : Nat} {K : Nat → Nat × Nat} {P : Nat → Nat → Option Nat} (h : Shp_q X K P) : P (X + 21) 0 = some (X + 22) := h.2 (21, 0, 22) (by decide)
theorem sp_21_1_q {X : Nat} {K : Nat → Nat × Nat} {P : Nat → Nat → Option Nat} (h : Shp_q X K P) : P (X + 21) 1 = some (X + 23) := h.2 (21, 1, 23) (by decide)
theorem sp_21_2_q {X : Nat} {K : Nat → Nat × Nat} {P : Nat → Nat → Option Nat} (h : Shp_q X K P) : P (X + 21) 2 = some (X + 24) := h.2 (21, 2, 24) (by decide)
theorem sp_21_3_q {X : Nat} {K : Nat → Nat × Nat} {P : Nat → Nat → Option Nat} (h : Shp_q X K P) : P (X + 21) 3 = some (X + 25) := h.2 (21, 3, 25) (by decide)
theorem sp_21_4_q {X : Nat} {K : Nat → Nat × Nat} {P : Nat → Nat → Option Nat} (h : Shp_q X K P) : P (X + 21) 4 = some (X + 27) := h.2 (21, 4, 27) (by decide)
theorem sp_21_5_q {X : Nat} {K : Nat → Nat × Nat} {P : Nat → Nat → Option Nat} (h : Shp_q X K P) : P (X + 21) 5 = some (X + 29) := h.2 (21, 5, 29) (by decide)
theorem sp_21_6_q {X : Nat} {K : Nat → Nat × Nat} {P : Nat → Nat → Option Nat} (h : Shp_q X K P) : P (X + 21) 6 = some (X + 31) := h.2 (21, 6, 31) (by decide)
theorem sp_21_7_q {X : Nat} {K : Nat → Nat × Nat} {P : Nat → Nat → Option Nat} (h : Shp_q X K P) : P (X + 21) 7 = some (X + 33) := h.2 (21, 7, 33) (by decide)
theorem sp_21_8_q {X : Nat} {K : Nat → Nat × Nat} {P : Nat → Nat → Option Nat} (h : Shp_q X K P) : P (X + 21) 8 = some (X + 35) := h.2 (21, 8, 35) (by decide)
theorem sp_25_0_q {X : Nat} {K : Nat → Nat × Nat} {P : Nat → Nat → Option Nat} (h : Shp_q X K P) : P (X + 25) 0 = some (X + 26) := h.2 (25, 0, 26) (by decide)
theorem sp_27_0_q {X : Nat} {K : Nat → Nat × Nat} {P : Nat → Nat → Option Nat} (h : Shp_q X K P) : P (X + 27) 0 = some (X + 28) := h.2 (27, 0, 28) (by decide)
theorem sp_29_0_q {X : Nat} {K : Nat → Nat × Nat} {P : Nat → Nat → Option Nat} (h : Shp_q X K P) : P (X + 29) 0 = some (X + 30) := h.2 (29, 0, 30) (by decide)
theorem sp_31_0_q {X : Nat} {K : Nat → Nat × Nat} {P : Nat → Nat → Option Nat} (h : Shp_q X K P) : P (X + 31) 0 = some (X + 32) := h.2 (31, 0, 32) (by decide)
theorem sp_33_0_q {X : Nat} {K : Nat → Nat × Nat} {P : Nat → Nat → Option Nat} (h : Shp_q X K P) : P (X + 33) 0 = some (X + 34) := h.2 (33, 0, 34) (by decide)
theorem sp_35_0_q {X : Nat} {K : Nat → Nat × Nat} {P : Nat → Nat → Option Nat} (h : Shp_q X K P) : P (X + 35) 0 = some (X + 36) := h.2 (35, 0, 36) (by decide)
theorem sp_35_1_q {X : Nat} {K : Nat → Nat × Nat} {P : Nat → Nat → Option Nat} (h : Shp_q X K P) : P (X + 35) 1 = some (X + 37) := h.2 (35, 1, 37) (by decide)
theorem sp_35_2_q {X : Nat} {K : Nat → Nat × Nat} {P : Nat → Nat → Option Nat} (h : Shp_q X K P) : P (X + 35) 2 = some (X + 38) := h.2 (35, 2, 38) (by decide)
theorem sp_39_0_q {X : Nat} {K : Nat → Nat × Nat} {P : Nat → Nat → Option Nat} (h : Shp_q X K P) : P (X + 39) 0 = some (X + 40) := h.2 (39, 0, 40) (by decide)
theorem sp_39_1_q {X : Nat} {K : Nat → Nat × Nat} {P : Nat → Nat → Option Nat} (h : Shp_q X K P) : P (X + 39) 1 = some (X + 41) := h.2 (39, 1, 41) (by decide)
theorem sp_39_2_q {X : Nat} {K : Nat → Nat × Nat} {P : Nat → Nat → Option Nat} (h : Shp_q X K P) : P (X + 39) 2 = some (X + 42) := h.2 (39, 2, 42) (by decide)
theorem sp_39_3_q {X : Nat} {K : Nat → Nat × Nat} {P : Nat → Nat → Option Nat} (h : Shp_q X K P) : P (X + 39) 3 = some (X + 43) := h.2 (39, 3, 43) (by decide)
theorem sp_39_4_q {X : Nat} {K : Nat → Nat × Nat} {P : Nat → Nat → Option Nat} (h : Shp_q X K P) : P (X + 39) 4 = some (X + 45) := h.2 (39, 4, 45) (by decide)
theorem sp_39_5_q {X : Nat} {K : Nat → Nat × Nat} {P : Nat → Nat → Option Nat} (h : Shp_q X K P) : P (X + 39) 5 = some (X + 47) := h.2 (39, 5, 47) (by decide)
theorem sp_39_6_q {X : Nat} {K : Nat → Nat × Nat} {P : Nat → Nat → Option Nat} (h : Shp_q X K P) : P (X + 39) 6 = some (X + 49) := h.2 (39, 6, 49) (by decide)
theorem sp_39_7_q {X : Nat} {K : Nat → Nat × Nat} {P : Nat → Nat → Option Nat} (h : Shp_q X K P) : P (X + 39) 7 = some (X + 51) := h.2 (39, 7, 51) (by decide)
theorem sp_39_8_q {X : Nat} {K : Nat → Nat × Nat} {P : Nat → Nat → Option Nat} (h : Shp_q X K P) : P (X + 39) 8 = some (X + 53) := h.2 (39, 8, 53) (by decide)
theorem sp_43_0_q {X : Nat} {K : Nat → Nat × Nat} {P : Nat → Nat → Option Nat} (h : Shp_q X K P) : P (X + 43) 0 = some (X + 44) := h.2 (43, 0, 44) (by decide)
theorem sp_45_0_q {X : Nat} {K : Nat → Nat × Nat} {P : Nat → Nat → Option Nat} (h : Shp_q X K P) : P (X + 45) 0 = some (X + 46) := h.2 (45, 0, 46) (by decide)
theorem sp_47_0_q {X : Nat} {K : Nat → Nat × Nat} {P : Nat → Nat → Option Nat} (h : Shp_q X K P) : P (X + 47) 0 = some (X + 48) := h.2 (47, 0, 48) (by decide)
theorem sp_49_0_q {X : Nat} {K : Nat → Nat × Nat} {P : Nat → Nat → Option Nat} (h : Shp_q X K P) : P (X + 49) 0 = some (X + 50) := h.2 (49, 0, 50) (by decide)
theorem sp_51_0_q {X : Nat} {K : Nat → Nat × Nat} {P : Nat → Nat → Option Nat} (h : Shp_q X K P) : P (X + 51) 0 = some (X + 52) := h.2 (51, 0, 52) (by decide)
theorem sp_53_0_q {X : Nat} {K : Nat → Nat × Nat} {P : Nat → Nat → Option Nat} (h : Shp_q X K P) : P (X + 53) 0 = some (X + 54) := h.2 (53, 0, 54) (by decide)
theorem sp_53_1_q {X : Nat} {K : Nat → Nat × Nat} {P : Nat → Nat → Option Nat} (h : Shp_q X K P) : P (X + 53) 1 = some (X + 55) := h.2 (53, 1, 55) (by decide)
theorem sp_53_2_q {X : Nat} {K : Nat → Nat × Nat} {P : Nat → Nat → Option Nat} (h : Shp_q X K P) : P (X + 53) 2 = some (X + 56) := h.2 (53, 2, 56) (by decide)
theorem sp_58_0_q {X : Nat} {K : Nat → Nat × Nat} {P : Nat → Nat → Option Nat} (h : Shp_q X K P) : P (X + 58) 0 = some (X + 59) := h.2 (58, 0, 59) (by decide)
theorem sp_58_1_q {X : Nat} {K : Nat → Nat × Nat} {P : Nat → Nat → Option Nat} (h : Shp_q X K P) : P (X + 58) 1 = some (X + 60) := h.2 (58, 1, 60) (by decide)
theorem sp_58_2_q {X : Nat} {K : Nat → Nat × Nat} {P : Nat → Nat → Option Nat} (h : Shp_q X K P) : P (X + 58) 2 = some (X + 61) := h.2 (58, 2, 61) (by decide)
theorem sp_58_5_q {X : Nat} {K : Nat → Nat × Nat} {P : Nat → Nat → Option Nat} (h : Shp_q X K P) : P (X + 58) 5 = some (X + 64) := h.2 (58, 5, 64) (by decide)
theorem sp_58_6_q {X : Nat} {K : Nat → Nat × Nat} {P : Nat → Nat → Option Nat} (h : Shp_q X K P) : P (X + 58) 6 = some (X + 65) := h.2 (58, 6, 65) (by decide)
theorem tws_21_q {X : Nat} {K : Nat → Nat × Nat} {P : Nat → Nat → Option Nat} (h : Shp_q X K P) : TwS (X + 21) K P := ⟨sk_21_q h, ⟨sk_22_q h, sk_23_q h, sk_24_q h⟩, ⟨sp_21_0_q h, sp_21_1_q h, sp_21_2_q h⟩, ⟨sp_21_3_q h, sk_25_q h, sp_25_0_q h, sk_26_q h⟩, ⟨sp_21_4_q h, sk_27_q h, sp_27_0_q h, sk_28_q h⟩, ⟨sp_21_5_q h, sk_29_q h, sp_29_0_q h, sk_30_q h⟩, ⟨sp_21_6_q h, sk_31_q h, sp_31_0_q h, sk_32_q h⟩, ⟨sp_21_7_q h, sk_33_q h, sp_33_0_q h, sk_34_q h⟩, ⟨sp_21_8_q h, sk_35_q h, sp_35_0_q h, sp_35_1_q h, sp_35_2_q h, sk_36_q h, sk_37_q h, sk_38_q h⟩⟩
theorem tws_39_q {X : Nat} {K : Nat → Nat × Nat} {P : Nat → Nat → Option Nat} (h : Shp_q X K P) : TwS (X + 39) K P := ⟨sk_39_q h, ⟨sk_40_q h, sk_41_q h, sk_42_q h⟩, ⟨sp_39_0_q h, sp_39_1_q h, sp_39_2_q h⟩, ⟨sp_39_3_q h, sk_43_q h, sp_43_0_q h, sk_44_q h⟩, ⟨sp_39_4_q h, sk_45_q h, sp_45_0_q h, sk_46_q h⟩, ⟨sp_39_5_q h, sk_47_q h, sp_47_0_q h, sk_48_q h⟩, ⟨sp_39_6_q h, sk_49_q h, sp_49_0_q h, sk_50_q h⟩, ⟨sp_39_7_q h, sk_51_q h, sp_51_0_q h, sk_52_q h⟩, ⟨sp_39_8_q h, sk_53_q h, sp_53_0_q h, sp_53_1_q h, sp_53_2_q h, sk_54_q h, sk_55_q h, sk_56_q h⟩⟩
theorem mk_0_q {X : Nat} {μ : Mm} (h : Shp_q X (mm_K μ) (mm_P μ)) : mm_K μ X = (11, 0) := sk_0_q h
theorem wf_0_q {X : Nat} {μ : Mm} (h : Shp_q X (mm_K μ) (mm_P μ)) (k : Nat) (v : Int32) : pf_I 11 k X v μ = some (ms_I μ X k v) := e_pfI (by rw [mk_0_q h])
theorem mk_4_q {X : Nat} {μ : Mm} (h : Shp_q X (mm_K μ) (mm_P μ)) : mm_K μ (X + 4) = (1, 0) := sk_4_q h
theorem wf_4_q {X : Nat} {μ : Mm} (h : Shp_q X (mm_K μ) (mm_P μ)) (k : Nat) (v : Int32) : pf_I 1 k (X + 4) v μ = some (ms_I μ (X + 4) k v) := e_pfI (by rw [mk_4_q h])
theorem mk_13_q {X : Nat} {μ : Mm} (h : Shp_q X (mm_K μ) (mm_P μ)) : mm_K μ (X + 13) = (4, 0) := sk_13_q h
theorem wz_13_q {X : Nat} {μ : Mm} (h : Shp_q X (mm_K μ) (mm_P μ)) (k : Nat) (v : Int32) (hv : v = 0 ∨ v = 1) : pf_Z 4 k (X + 13) v μ = some (ms_I μ (X + 13) k v) := e_pfZ (by rw [mk_13_q h]) hv
theorem wz0_13_q {X : Nat} {μ : Mm} (h : Shp_q X (mm_K μ) (mm_P μ)) (k : Nat) : pf_Z 4 k (X + 13) 0 μ = some (ms_I μ (X + 13) k 0) := wz_13_q h k 0 (Or.inl rfl)
theorem mk_15_q {X : Nat} {μ : Mm} (h : Shp_q X (mm_K μ) (mm_P μ)) : mm_K μ (X + 15) = (24, 3) := sk_15_q h
theorem ln_15_q {X : Nat} {μ : Mm} (h : Shp_q X (mm_K μ) (mm_P μ)) : ga_len (X + 15) μ = some (nI 3) := e_len (mk_15_q h) ⟨by decide, by decide⟩
theorem mk_58_q {X : Nat} {μ : Mm} (h : Shp_q X (mm_K μ) (mm_P μ)) : mm_K μ (X + 58) = (5, 0) := sk_58_q h
theorem mk_59_q {X : Nat} {μ : Mm} (h : Shp_q X (mm_K μ) (mm_P μ)) : mm_K μ (X + 59) = (20, 28) := sk_59_q h
theorem wa_59_q {X : Nat} {μ : Mm} (h : Shp_q X (mm_K μ) (mm_P μ)) {i : Nat} (v : Int32) (hi : i < 28) : pa_I (X + 59) (nI i) v μ = some (ms_I μ (X + 59) i v) := e_paI (mk_59_q h) hi (by decide)
theorem mk_60_q {X : Nat} {μ : Mm} (h : Shp_q X (mm_K μ) (mm_P μ)) : mm_K μ (X + 60) = (20, 28) := sk_60_q h
theorem wa_60_q {X : Nat} {μ : Mm} (h : Shp_q X (mm_K μ) (mm_P μ)) {i : Nat} (v : Int32) (hi : i < 28) : pa_I (X + 60) (nI i) v μ = some (ms_I μ (X + 60) i v) := e_paI (mk_60_q h) hi (by decide)
theorem mk_61_q {X : Nat} {μ : Mm} (h : Shp_q X (mm_K μ) (mm_P μ)) : mm_K μ (X + 61) = (20, 28) := sk_61_q h
theorem wa_61_q {X : Nat} {μ : Mm} (h : Shp_q X (mm_K μ) (mm_P μ)) {i : Nat} (v : Int32) (hi : i < 28) : pa_I (X + 61) (nI i) v μ = some (ms_I μ (X + 61) i v) := e_paI (mk_61_q h) hi (by decide)
theorem mk_64_q {X : Nat} {μ : Mm} (h : Shp_q X (mm_K μ) (mm_P μ)) : mm_K μ (X + 64) = (20, 8) := sk_64_q h
theorem ln_64_q {X : Nat} {μ : Mm} (h : Shp_q X (mm_K μ) (mm_P μ)) : ga_len (X + 64) μ = some (nI 8) := e_len (mk_64_q h) ⟨by decide, by decide⟩
theorem wa_64_q {X : Nat} {μ : Mm} (h : Shp_q X (mm_K μ) (mm_P μ)) {i : Nat} (v : Int32) (hi : i < 8) : pa_I (X + 64) (nI i) v μ = some (ms_I μ (X + 64) i v) := e_paI (mk_64_q h) hi (by decide)
theorem mk_65_q {X : Nat} {μ : Mm} (h : Shp_q X (mm_K μ) (mm_P μ)) : mm_K μ (X + 65) = (20, 8) := sk_65_q h
theorem ln_65_q {X : Nat} {μ : Mm} (h : Shp_q X (mm_K μ) (mm_P μ)) : ga_len (X + 65) μ = some (nI 8) := e_len (mk_65_q h) ⟨by decide, by decide⟩
theorem wa_65_q {X : Nat} {μ : Mm} (h : Shp_q X (mm_K μ) (mm_P μ)) {i : Nat} (v : Int32) (hi : i < 8) : pa_I (X + 65) (nI i) v μ = some (ms_I μ (X + 65) i v) := e_paI (mk_65_q h) hi (by decide)
theorem mk_66_q {X : Nat} {μ : Mm} (h : Shp_q X (mm_K μ) (mm_P μ)) : mm_K μ (X + 66) = (2, 0) := sk_66_q h
theorem wf_66_q {X : Nat} {μ : Mm} (h : Shp_q X (mm_K μ) (mm_P μ)) (k : Nat) (v : Int32) : pf_I 2 k (X + 66) v μ = some (ms_I μ (X + 66) k v) := e_pfI (by rw [mk_66_q h])
theorem mk_84_q {X : Nat} {μ : Mm} (h : Shp_q X (mm_K μ) (mm_P μ)) : mm_K μ (X + 84) = (4, 0) := sk_84_q h
theorem mk_86_q {X : Nat} {μ : Mm} (h : Shp_q X (mm_K μ) (mm_P μ)) : mm_K μ (X + 86) = (4, 0) := sk_86_q h
theorem mk_88_q {X : Nat} {μ : Mm} (h : Shp_q X (mm_K μ) (mm_P μ)) : mm_K μ (X + 88) = (4, 0) := sk_88_q h
theorem mp_0_3_q {X : Nat} {μ : Mm} (h : Shp_q X (mm_K μ) (mm_P μ)) : mm_P μ X 3 = some (X + 58) := sp_0_3_q h
theorem rp_0_3_q {X : Nat} {μ : Mm} (h : Shp_q X (mm_K μ) (mm_P μ)) : gf_P 11 3 X μ = some (X + 58) := e_gfP (by rw [mk_0_q h]) (mp_0_3_q h)
theorem mp_0_4_q {X : Nat} {μ : Mm} (h : Shp_q X (mm_K μ) (mm_P μ)) : mm_P μ X 4 = some (X + 4) := sp_0_4_q h
theorem rp_0_4_q {X : Nat} {μ : Mm} (h : Shp_q X (mm_K μ) (mm_P μ)) : gf_P 11 4 X μ = some (X + 4) := e_gfP (by rw [mk_0_q h]) (mp_0_4_q h)
theorem mp_0_5_q {X : Nat} {μ : Mm} (h : Shp_q X (mm_K μ) (mm_P μ)) : mm_P μ X 5 = some (X + 66) := sp_0_5_q h
theorem rp_0_5_q {X : Nat} {μ : Mm} (h : Shp_q X (mm_K μ) (mm_P μ)) : gf_P 11 5 X μ = some (X + 66) := e_gfP (by rw [mk_0_q h]) (mp_0_5_q h)
theorem mp_0_6_q {X : Nat} {μ : Mm} (h : Shp_q X (mm_K μ) (mm_P μ)) : mm_P μ X 6 = some (X + 13) := sp_0_6_q h
theorem rp_0_6_q {X : Nat} {μ : Mm} (h : Shp_q X (mm_K μ) (mm_P μ)) : gf_P 11 6 X μ = some (X + 13) := e_gfP (by rw [mk_0_q h]) (mp_0_6_q h)
theorem mp_0_7_q {X : Nat} {μ : Mm} (h : Shp_q X (mm_K μ) (mm_P μ)) : mm_P μ X 7 = some (X + 15) := sp_0_7_q h
theorem rp_0_7_q {X : Nat} {μ : Mm} (h : Shp_q X (mm_K μ) (mm_P μ)) : gf_P 11 7 X μ = some (X + 15) := e_gfP (by rw [mk_0_q h]) (mp_0_7_q h)
theorem mp_15_0_q {X : Nat} {μ : Mm} (h : Shp_q X (mm_K μ) (mm_P μ)) : mm_P μ (X + 15) 0 = some (X + 84) := sp_15_0_q h
theorem mp_15_1_q {X : Nat} {μ : Mm} (h : Shp_q X (mm_K μ) (mm_P μ)) : mm_P μ (X + 15) 1 = some (X + 86) := sp_15_1_q h
theorem mp_15_2_q {X : Nat} {μ : Mm} (h : Shp_q X (mm_K μ) (mm_P μ)) : mm_P μ (X + 15) 2 = some (X + 88) := sp_15_2_q h
theorem mp_58_0_q {X : Nat} {μ : Mm} (h : Shp_q X (mm_K μ) (mm_P μ)) : mm_P μ (X + 58) 0 = some (X + 59) := sp_58_0_q h
theorem rp_58_0_q {X : Nat} {μ : Mm} (h : Shp_q X (mm_K μ) (mm_P μ)) : gf_P 5 0 (X + 58) μ = some (X + 59) := e_gfP (by rw [mk_58_q h]) (mp_58_0_q h)
theorem mp_58_1_q {X : Nat} {μ : Mm} (h : Shp_q X (mm_K μ) (mm_P μ)) : mm_P μ (X + 58) 1 = some (X + 60) := sp_58_1_q h
theorem rp_58_1_q {X : Nat} {μ : Mm} (h : Shp_q X (mm_K μ) (mm_P μ)) : gf_P 5 1 (X + 58) μ = some (X + 60) := e_gfP (by rw [mk_58_q h]) (mp_58_1_q h)
theorem mp_58_2_q {X : Nat} {μ : Mm} (h : Shp_q X (mm_K μ) (mm_P μ)) : mm_P μ (X + 58) 2 = some (X + 61) := sp_58_2_q h
theorem rp_58_2_q {X : Nat} {μ : Mm} (h : Shp_q X (mm_K μ) (mm_P μ)) : gf_P 5 2 (X + 58) μ = some (X + 61) := e_gfP (by rw [mk_58_q h]) (mp_58_2_q h)
theorem mp_58_5_q {X : Nat} {μ : Mm} (h : Shp_q X (mm_K μ) (mm_P μ)) : mm_P μ (X + 58) 5 = some (X + 64) := sp_58_5_q h
theorem rp_58_5_q {X : Nat} {μ : Mm} (h : Shp_q X (mm_K μ) (mm_P μ)) : gf_P 5 5 (X + 58) μ = some (X + 64) := e_gfP (by rw [mk_58_q h]) (mp_58_5_q h)
theorem mp_58_6_q {X : Nat} {μ : Mm} (h : Shp_q X (mm_K μ) (mm_P μ)) : mm_P μ (X + 58) 6 = some (X + 65) := sp_58_6_q h
theorem rp_58_6_q {X : Nat} {μ : Mm} (h : Shp_q X (mm_K μ) (mm_P μ)) : gf_P 5 6 (X + 58) μ = some (X + 65) := e_gfP (by rw [mk_58_q h]) (mp_58_6_q h)
theorem e_napsOf_q {X c day : Nat} {T : Tn} {μ : Mm} (h : Sh_q X μ) (hP : mm_P μ (X + 58) 7 = some c) (hc : TwS c (mm_K μ) (mm_P μ)) (ht : CTn c T μ) (ok : OkT T) (hd : day < 28) : f_X4_napsOf (X + 58) (nI day) μ = some (nI (bm (fun k => decide (k < T 0 3) && T 8 k == day) 8)) := by
  have hn := ok.1.2.2.2.1
  have g5 : gf_P 5 7 (X + 58) μ = some c := e_gfP (by rw [mk_58_q h]) hP
  unfold f_X4_napsOf
  rw [if_pos (by rw [mk_58_q h])]
  refine whl_b (T 0 3) (fun i => (nI (bm (fun k => decide (k < i) && T 8 k == day) 8), nI i)) (b := nI (bm (fun k => decide (k < T 0 3) && T 8 k == day) 8)) ?_ (fun i hi => ?_) ?_
  · have : (fun k => decide (k < 0) && T 8 k == day) = fun _ => false := by funext k; simp
    rw [this, ← bm_0]; rfl
  · have hw := ok.2.2.2.2.2.2.1 i hi
    simp only [f_X4_napsOf_L4, f_X4_napsOf_J40, g5, tc_p5 hc, ob, ct_s8 hc ht, ct_8_1 hc ht ok hi, b_one (by omega : i < 32), nI_or, bm_set _ (by omega : i < 8), nI_1]
    rw [if_neg (by rw [nI_le_i (by omega) (by omega)]; omega)]
    by_cases e1 : T 8 i = day
    · rw [if_pos (by rw [e1])]
      refine st2 rfl (fun p hp => ?_)
      grind
    · rw [if_neg (by rw [nI_eq_i (by omega) (by omega)]; exact e1)]
      refine st2 rfl (fun p hp => ?_)
      grind
  · simp only [f_X4_napsOf_L4, g5, tc_p5 hc, ob, ct_s8 hc ht]
    rw [if_pos (nI_le (Nat.le_refl _) (by omega))]
theorem e_talksOf_q {X c day : Nat} {T : Tn} {μ : Mm} (h : Sh_q X μ) (hP : mm_P μ (X + 58) 7 = some c) (hc : TwS c (mm_K μ) (mm_P μ)) (ht : CTn c T μ) (ok : OkT T) (hd : day < 28) : f_X4_talksOf (X + 58) (nI day) μ = some (nI (bm (fun k => decide (k < T 0 2) && day % T 6 k == 0) 8)) := by
  have hn := ok.1.2.2.1
  have g5 : gf_P 5 7 (X + 58) μ = some c := e_gfP (by rw [mk_58_q h]) hP
  unfold f_X4_talksOf
  rw [if_pos (by rw [mk_58_q h])]
  refine whl_b (T 0 2) (fun i => (nI (bm (fun k => decide (k < i) && day % T 6 k == 0) 8), nI i)) (b := nI (bm (fun k => decide (k < T 0 2) && day % T 6 k == 0) 8)) ?_ (fun i hi => ?_) ?_
  · have : (fun k => decide (k < 0) && day % T 6 k == 0) = fun _ => false := by funext k; simp
    rw [this, ← bm_0]; rfl
  · have hw := ok.2.2.2.2.2.1 i hi
    have hm : day % T 6 i < 28 := Nat.lt_of_le_of_lt (Nat.mod_le _ _) hd
    simp only [f_X4_talksOf_L4, f_X4_talksOf_J50, g5, tc_p4 hc, ob, ct_s6 hc ht, ct_6_2 hc ht ok hi, b_one (by omega : i < 32), nI_or, bm_set _ (by omega : i < 8), nI_1, pk_rem (by omega : day < 2 ^ 31) (by omega : 0 < T 6 i) (by omega)]
    rw [if_neg (by rw [nI_le_i (by omega) (by omega)]; omega), if_neg (nI_nle (by omega) (by omega)), if_neg (nI_ne0 (by omega) (by omega))]
    by_cases e1 : day % T 6 i = 0
    · rw [if_pos (by rw [e1]; rfl)]
      refine st2 rfl (fun p hp => ?_)
      grind
    · rw [if_neg (by rw [nI_z (by omega)]; exact e1)]
      refine st2 rfl (fun p hp => ?_)
      grind
  · simp only [f_X4_talksOf_L4, g5, tc_p4 hc, ob, ct_s6 hc ht]
    rw [if_pos (nI_le (Nat.le_refl _) (by omega))]
theorem e_setTown_q {X c : Nat} {T : Tn} {μ : Mm} (h : Shp_q X (mm_K μ) (mm_P (ms_P μ (X + 58) 7 (some c)))) (hc : TwS c (mm_K μ) (mm_P (ms_P μ (X + 58) 7 (some c)))) (hcX : c + 18 ≤ X + 57) (ht : CTn c T μ) (ok : OkT T) : f_X4_setTown (X + 58) c μ = some (m_st X c T μ) := by
  have hn0 := ok.1.1
  have hnp := ok.1.2.2.2.1
  have hnt := ok.1.2.2.1
  have e28 : (28 : Int32) = nI 28 := rfl
  unfold f_X4_setTown
  rw [if_pos (by rw [sk_58_q h]), e_pfP (by rw [sk_58_q h]), ob]
  have hS0 : ∀ ν : Mm, mm_K ν = mm_K μ → mm_P ν = mm_P (ms_P μ (X + 58) 7 (some c)) → Sh_q X ν := fun ν h1 h2 => by show Shp_q X (mm_K ν) (mm_P ν); rw [h1, h2]; exact h
  have hC0 : ∀ ν : Mm, mm_K ν = mm_K μ → mm_P ν = mm_P (ms_P μ (X + 58) 7 (some c)) → TwS c (mm_K ν) (mm_P ν) := fun ν h1 h2 => by rw [h1, h2]; exact hc
  have hP0 : ∀ ν : Mm, mm_K ν = mm_K μ → mm_P ν = mm_P (ms_P μ (X + 58) 7 (some c)) → mm_P ν (X + 58) 7 = some c := fun ν h1 h2 => by rw [h2, rP, if_pos ⟨rfl, rfl⟩]
  have hG0 : ∀ ν : Mm, mm_K ν = mm_K μ → mm_P ν = mm_P (ms_P μ (X + 58) 7 (some c)) → gf_P 5 7 (X + 58) ν = some c := fun ν h1 h2 => e_gfP (by rw [h1, sk_58_q h]) (hP0 ν h1 h2)
  refine (whl_b (T 0 3) (fun i => (nI i, ms_A (ms_P μ (X + 58) 7 (some c)) (X + 64) (fun k => if k < i then nI (T 7 k) else mm_I μ (X + 64) k))) (b := ms_A (ms_P μ (X + 58) 7 (some c)) (X + 64) (fun k => if k < T 0 3 then nI (T 7 k) else mm_I μ (X + 64) k)) ?_ (fun i hi => ?_) ?_).trans ?_
  · rw [fill_0]
    have := sA_id (ms_P μ (X + 58) 7 (some c)) (X + 64)
    rw [iP] at this
    rw [this]; rfl
  · have h1 : CTn c T (ms_A (ms_P μ (X + 58) 7 (some c)) (X + 64) (fun k => if k < i then nI (T 7 k) else mm_I μ (X + 64) k)) := ctn_x (fun q h1 h2 => by rw [rA, if_neg (by omega)]; rfl) ht
    generalize hν : ms_A (ms_P μ (X + 58) 7 (some c)) (X + 64) (fun k => if k < i then nI (T 7 k) else mm_I μ (X + 64) k) = ν at h1 ⊢
    have k1 : mm_K ν = mm_K μ := by rw [← hν]; rfl
    have k2 : mm_P ν = mm_P (ms_P μ (X + 58) 7 (some c)) := by rw [← hν]; rfl
    simp only [f_X4_setTown_L7, hG0 ν k1 k2, tc_p5 (hC0 ν k1 k2), ct_s8 (hC0 ν k1 k2) h1, ob, rp_58_5_q (hS0 ν k1 k2), ln_64_q (hS0 ν k1 k2), ct_8_0 (hC0 ν k1 k2) h1 ok hi, wa_64_q (hS0 ν k1 k2) _ (by omega : i < 8), nI_1]
    rw [if_neg (by rw [nI_le_i (by omega) (by omega)]; omega), if_neg (by rw [nI_le_i (by omega) (by omega)]; omega), ← hν, sA_I, u1_fill (fun k => nI (T 7 k))]
  · have h1 : CTn c T (ms_A (ms_P μ (X + 58) 7 (some c)) (X + 64) (fun k => if k < T 0 3 then nI (T 7 k) else mm_I μ (X + 64) k)) := ctn_x (fun q h1 h2 => by rw [rA, if_neg (by omega)]; rfl) ht
    generalize hν : ms_A (ms_P μ (X + 58) 7 (some c)) (X + 64) (fun k => if k < T 0 3 then nI (T 7 k) else mm_I μ (X + 64) k) = ν at h1 ⊢
    have k1 : mm_K ν = mm_K μ := by rw [← hν]; rfl
    have k2 : mm_P ν = mm_P (ms_P μ (X + 58) 7 (some c)) := by rw [← hν]; rfl
    simp only [f_X4_setTown_L7, hG0 ν k1 k2, tc_p5 (hC0 ν k1 k2), ct_s8 (hC0 ν k1 k2) h1, ob]
    rw [if_pos (nI_le (Nat.le_refl _) (by omega))]
  · unfold f_X4_setTown_J54
    refine (whl_b (T 0 2) (fun i => (nI i, ms_A (ms_A (ms_P μ (X + 58) 7 (some c)) (X + 64) (fun k => if k < T 0 3 then nI (T 7 k) else mm_I μ (X + 64) k)) (X + 65) (fun k => if k < i then nI (bm (fun p => p == T 4 k || p == T 5 k) 8) else mm_I μ (X + 65) k))) (b := m_s1 X c T μ) ?_ (fun i hi => ?_) ?_).trans ?_
    · rw [fill_0]
      have := sA_id (ms_A (ms_P μ (X + 58) 7 (some c)) (X + 64) (fun k => if k < T 0 3 then nI (T 7 k) else mm_I μ (X + 64) k)) (X + 65)
      rw [rA, if_neg (by omega), iP] at this
      rw [this]; rfl
    · have h1 : CTn c T (ms_A (ms_A (ms_P μ (X + 58) 7 (some c)) (X + 64) (fun k => if k < T 0 3 then nI (T 7 k) else mm_I μ (X + 64) k)) (X + 65) (fun k => if k < i then nI (bm (fun p => p == T 4 k || p == T 5 k) 8) else mm_I μ (X + 65) k)) := ctn_x (fun q h1 h2 => by rw [rA, if_neg (by omega), rA, if_neg (by omega)]; rfl) ht
      have hw := ok.2.2.2.2.2.1 i hi
      generalize hν : ms_A (ms_A (ms_P μ (X + 58) 7 (some c)) (X + 64) (fun k => if k < T 0 3 then nI (T 7 k) else mm_I μ (X + 64) k)) (X + 65) (fun k => if k < i then nI (bm (fun p => p == T 4 k || p == T 5 k) 8) else mm_I μ (X + 65) k) = ν at h1 ⊢
      have k1 : mm_K ν = mm_K μ := by rw [← hν]; rfl
      have k2 : mm_P ν = mm_P (ms_P μ (X + 58) 7 (some c)) := by rw [← hν]; rfl
      simp only [f_X4_setTown_L56, hG0 ν k1 k2, tc_p4 (hC0 ν k1 k2), ct_s6 (hC0 ν k1 k2) h1, ob, rp_58_6_q (hS0 ν k1 k2), ln_65_q (hS0 ν k1 k2), ct_6_0 (hC0 ν k1 k2) h1 ok hi, ct_6_1 (hC0 ν k1 k2) h1 ok hi, wa_65_q (hS0 ν k1 k2) _ (by omega : i < 8), nI_1]
      rw [if_neg (by rw [nI_le_i (by omega) (by omega)]; omega), if_neg (by rw [nI_le_i (by omega) (by omega)]; omega), ← hν, sA_I, u1_fill' (fun k => nI (bm (fun p => p == T 4 k || p == T 5 k) 8))]
      rw [b_one (by omega), b_one (by omega), nI_or, bm_1 (by omega : T 4 i < 8), bm_1 (by omega : T 5 i < 8), bm_or]
    · have h1 : CTn c T (m_s1 X c T μ) := ctn_x (fun q h1 h2 => by unfold m_s1; rw [rA, if_neg (by omega), rA, if_neg (by omega)]; rfl) ht
      show f_X4_setTown_L56 (X + 58) (nI (T 0 2), m_s1 X c T μ) = _
      have k1 : mm_K (m_s1 X c T μ) = mm_K μ := rfl
      have k2 : mm_P (m_s1 X c T μ) = mm_P (ms_P μ (X + 58) 7 (some c)) := rfl
      simp only [f_X4_setTown_L56, hG0 _ k1 k2, tc_p4 (hC0 _ k1 k2), ct_s6 (hC0 _ k1 k2) h1, ob]
      rw [if_pos (nI_le (Nat.le_refl _) (by omega))]
    · unfold f_X4_setTown_J120
      have k1 : mm_K (m_s1 X c T μ) = mm_K μ := rfl
      have k2 : mm_P (m_s1 X c T μ) = mm_P (ms_P μ (X + 58) 7 (some c)) := rfl
      have h1 : CTn c T (m_s1 X c T μ) := ctn_x (fun q h1 h2 => by unfold m_s1; rw [rA, if_neg (by omega), rA, if_neg (by omega)]; rfl) ht
      have r59 : mm_I (m_s1 X c T μ) (X + 59) = mm_I μ (X + 59) := by unfold m_s1; rw [rA, if_neg (by omega), rA, if_neg (by omega)]; rfl
      have r60 : mm_I (m_s1 X c T μ) (X + 60) = mm_I μ (X + 60) := by unfold m_s1; rw [rA, if_neg (by omega), rA, if_neg (by omega)]; rfl
      have r61 : mm_I (m_s1 X c T μ) (X + 61) = mm_I μ (X + 61) := by unfold m_s1; rw [rA, if_neg (by omega), rA, if_neg (by omega)]; rfl
      unfold m_st
      rw [← r59, ← r60, ← r61]
      generalize m_s1 X c T μ = α at k1 k2 h1
      refine whl_b 28 (fun i => (nI i, ms_A (ms_A (ms_A α (X + 59) (fun day => if day < i then nI (bm (fun p => dl T p day) 8) else mm_I α (X + 59) day)) (X + 60) (fun day => if day < i then nI (bm (fun k => decide (k < T 0 3) && T 8 k == day) 8) else mm_I α (X + 60) day)) (X + 61) (fun day => if day < i then nI (bm (fun k => decide (k < T 0 2) && day % T 6 k == 0) 8) else mm_I α (X + 61) day))) ?_ (fun i hi => ?_) ?_
      · rw [fill_0, fill_0, fill_0, sA_id]
        have e1 := sA_id α (X + 60)
        rw [e1, sA_id]
        rfl
      · have hx : ∀ f g k, CTn c T (ms_A (ms_A (ms_A α (X + 59) f) (X + 60) g) (X + 61) k) := fun f g k => ctn_x (fun q h1 h2 => by rw [rA, if_neg (by omega), rA, if_neg (by omega), rA, if_neg (by omega)]) h1
        have kk : ∀ f g k, mm_K (ms_A (ms_A (ms_A α (X + 59) f) (X + 60) g) (X + 61) k) = mm_K μ := fun f g k => k1
        have kp : ∀ f g k, mm_P (ms_A (ms_A (ms_A α (X + 59) f) (X + 60) g) (X + 61) k) = mm_P (ms_P μ (X + 58) 7 (some c)) := fun f g k => k2
        simp only [f_X4_setTown_L122]
        rw [if_neg (by rw [e28, nI_le_i (by omega) (by omega)]; omega), rp_58_0_q (hS0 _ (kk _ _ _) (kp _ _ _)), ob, hG0 _ (kk _ _ _) (kp _ _ _), ob, e_dullOn (hC0 _ (kk _ _ _) (kp _ _ _)) (hx _ _ _) ok (by omega), ob, wa_59_q (hS0 _ (kk _ _ _) (kp _ _ _)) _ hi, ob, sI_A, sA_3 _ (by omega) (by omega)]
        rw [rA, if_neg (by omega), rA, if_neg (by omega), rA, if_pos rfl, u1_fill (fun day => nI (bm (fun p => dl T p day) 8))]
        rw [rp_58_1_q (hS0 _ (kk _ _ _) (kp _ _ _)), ob, e_napsOf_q (hS0 _ (kk _ _ _) (kp _ _ _)) (hP0 _ (kk _ _ _) (kp _ _ _)) (hC0 _ (kk _ _ _) (kp _ _ _)) (hx _ _ _) ok hi, ob, wa_60_q (hS0 _ (kk _ _ _) (kp _ _ _)) _ hi, ob, sI_A, sA_2 _ (by omega)]
        rw [rA, if_neg (by omega), rA, if_pos rfl, u1_fill (fun day => nI (bm (fun k => decide (k < T 0 3) && T 8 k == day) 8))]
        rw [rp_58_2_q (hS0 _ (kk _ _ _) (kp _ _ _)), ob, e_talksOf_q (hS0 _ (kk _ _ _) (kp _ _ _)) (hP0 _ (kk _ _ _) (kp _ _ _)) (hC0 _ (kk _ _ _) (kp _ _ _)) (hx _ _ _) ok hi, ob, wa_61_q (hS0 _ (kk _ _ _) (kp _ _ _)) _ hi, ob, sA_I, u1_fill (fun day => nI (bm (fun k => decide (k < T 0 2) && day % T 6 k == 0) 8)), ob, nI_1]
      · simp only [f_X4_setTown_L122]
        rw [if_pos (by decide)]
theorem shIx_q {X : Nat} {μ : Mm} (h : Shp_q X (mm_K μ) (mm_P μ)) (a k : Nat) (v : Int32) : Shp_q X (mm_K (ms_I μ a k v)) (mm_P (ms_I μ a k v)) := h
section
variable {X n x c : Nat} {B : Nat → Nat} {s : Drf} {μ ν ρ : Mm}
theorem tws_c_q (h : Sh_q X μ) (hc : c = X + 21 ∨ c = X + 39) : TwS c (mm_K μ) (mm_P μ) := by
  rcases hc with e | e
  · rw [e]; exact tws_21_q h
  · rw [e]; exact tws_39_q h
end
section
variable {X n i c c' : Nat} {B : Nat → Nat} {s : Sv} {μ ν ρ : Mm} {D : Tn}
theorem sh_P58_q {v : Option Nat} (h : Sh_q X μ) : Sh_q X (ms_P μ (X + 58) 7 v) := by
  refine ⟨h.1, fun q hq => ?_⟩
  have key : ∀ q ∈ p_tab_q, ¬ (q.1 = 58 ∧ q.2.1 = 7) := by decide +kernel
  rw [rP, if_neg (fun z => key q hq ⟨by omega, z.2⟩)]
  exact h.2 q hq
end
section
variable {X n i c c' : Nat} {B : Nat → Nat} {s : Sv} {μ ν ρ : Mm} {D : Tn}
theorem sh_P66_q {v : Option Nat} (h : Sh_q X μ) : Sh_q X (ms_P μ (X + 66) 5 v) := by
  refine ⟨h.1, fun q hq => ?_⟩
  have key : ∀ q ∈ p_tab_q, ¬ (q.1 = 66 ∧ q.2.1 = 5) := by decide +kernel
  rw [rP, if_neg (fun z => key q hq ⟨by omega, z.2⟩)]
  exact h.2 q hq
end
section
variable {X n i c c' : Nat} {B : Nat → Nat} {s : Sv} {μ ν ρ : Mm} {D : Tn}
theorem e_settC_q (h : Sh_q X μ) (hc : c = X + 21 ∨ c = X + 39) (h13 : mm_P μ X 13 = some c) (ok : OkT D) (ht : CTn c D μ) (hu : TuP c D μ) (hn : 0 < (EN D).length) : ∃ ν, f_X10_settle X μ = some ν ∧ tl ν = tl μ ∧ (∀ q k, mm_P ν q k = if (q = X + 58 ∧ k = 7) ∨ (q = X + 66 ∧ k = 5) then some c else mm_P μ q k) ∧ mm_L ν = mm_L μ ∧ SpT X c D ν ∧ mm_I ν X 15 = nI (cr D (rwT D 0)) ∧ (mm_I ν (X + 4) 8 = 0 ∧ mm_I ν (X + 4) 9 = 0 ∧ mm_I ν (X + 4) 10 = 0) ∧ (mm_I ν (X + 66) 9 = 0 ∧ mm_I ν (X + 66) 10 = 0 ∧ mm_I ν (X + 66) 11 = 0) ∧ (mm_I ν (X + 13) 1 = 0 ∧ mm_I ν (X + 84) 1 = 0 ∧ mm_I ν (X + 86) 1 = 0 ∧ mm_I ν (X + 88) 1 = 0) ∧ (∀ q, q ≠ X → q ≠ X + 4 → q ≠ X + 13 → q < X + 59 ∨ X + 66 < q → q ≠ X + 84 → q ≠ X + 86 → q ≠ X + 88 → mm_I ν q = mm_I μ q) := by
  have hT := tws_c_q h hc
  have row0 : f_X9_rowOf (c + 14) 0 μ = some (nI (cr D (rwT D 0))) := by
    rw [rwT_e hn]
    exact e_rowOf (k := 0) hT ok hu hn
  unfold f_X10_settle
  have hS1 : Sh_q X (ms_I μ X 15 (nI (cr D (rwT D 0)))) := h
  have ht1 : CTn c D (ms_I μ X 15 (nI (cr D (rwT D 0)))) := ctn_x (fun q _ _ => by rw [iI, if_neg (by omega)]) ht
  have hP1 : mm_P (ms_I μ X 15 (nI (cr D (rwT D 0)))) X 13 = some c := h13
  have hst := e_setTown_q (c := c) (sh_P58_q hS1) (tws_c_q (sh_P58_q hS1) hc) (by omega) ht1 ok
  rw [if_pos (by rw [mk_0_q h]), e_gfP (by rw [mk_0_q h]) h13, ob, tc_p8 hT, ob, row0, ob, wf_0_q h, ob, rp_0_3_q hS1, ob, e_gfP (by rw [mk_0_q hS1]) hP1, ob, hst, ob]
  have sS : Sh_q X (m_st X c D (ms_I μ X 15 (nI (cr D (rwT D 0))))) := sh_P58_q (v := some c) hS1
  have sT : SpT X c D (m_st X c D (ms_I μ X 15 (nI (cr D (rwT D 0))))) := m_st_T
  have sP : ∀ q k, mm_P (m_st X c D (ms_I μ X 15 (nI (cr D (rwT D 0))))) q k = if q = X + 58 ∧ k = 7 then some c else mm_P μ q k := fun q k => rP μ (X + 58) 7 (some c) q k
  have sL : mm_L (m_st X c D (ms_I μ X 15 (nI (cr D (rwT D 0))))) = mm_L μ := rfl
  have sTl : tl (m_st X c D (ms_I μ X 15 (nI (cr D (rwT D 0))))) = tl μ := rfl
  have sI : ∀ q, q < X + 59 ∨ X + 65 < q → mm_I (m_st X c D (ms_I μ X 15 (nI (cr D (rwT D 0))))) q = mm_I (ms_I μ X 15 (nI (cr D (rwT D 0)))) q := fun q hq => by
    unfold m_st m_s1
    rw [iA, if_neg (by omega), iA, if_neg (by omega), iA, if_neg (by omega), iA, if_neg (by omega), iA, if_neg (by omega), iP]
  generalize m_st X c D (ms_I μ X 15 (nI (cr D (rwT D 0)))) = μ1 at sS sT sP sL sTl sI ⊢
  unfold f_X0_clear f_X1_setTown
  rw [rp_0_4_q sS, ob, if_pos (by rw [mk_4_q sS]), wf_4_q sS, ob, wf_4_q (shIx_q sS _ _ _), ob, wf_4_q (shIx_q (shIx_q sS _ _ _) _ _ _), ob, ob]
  have tS : Sh_q X (ms_I (ms_I (ms_I μ1 (X + 4) 8 0) (X + 4) 9 0) (X + 4) 10 0) := sS
  have tP' : mm_P (ms_I (ms_I (ms_I μ1 (X + 4) 8 0) (X + 4) 9 0) (X + 4) 10 0) = mm_P μ1 := rfl
  have tL : mm_L (ms_I (ms_I (ms_I μ1 (X + 4) 8 0) (X + 4) 9 0) (X + 4) 10 0) = mm_L μ1 := rfl
  have tT : tl (ms_I (ms_I (ms_I μ1 (X + 4) 8 0) (X + 4) 9 0) (X + 4) 10 0) = tl μ1 := rfl
  have t4 : mm_I (ms_I (ms_I (ms_I μ1 (X + 4) 8 0) (X + 4) 9 0) (X + 4) 10 0) (X + 4) 8 = 0 ∧ mm_I (ms_I (ms_I (ms_I μ1 (X + 4) 8 0) (X + 4) 9 0) (X + 4) 10 0) (X + 4) 9 = 0 ∧ mm_I (ms_I (ms_I (ms_I μ1 (X + 4) 8 0) (X + 4) 9 0) (X + 4) 10 0) (X + 4) 10 = 0 := ⟨by rw [rI, if_neg (by omega), rI, if_neg (by omega), rI, if_pos ⟨rfl, rfl⟩], by rw [rI, if_neg (by omega), rI, if_pos ⟨rfl, rfl⟩], by rw [rI, if_pos ⟨rfl, rfl⟩]⟩
  have tI : ∀ q, q ≠ X + 4 → mm_I (ms_I (ms_I (ms_I μ1 (X + 4) 8 0) (X + 4) 9 0) (X + 4) 10 0) q = mm_I μ1 q := fun q hq => by rw [iI, if_neg hq, iI, if_neg hq, iI, if_neg hq]
  generalize ms_I (ms_I (ms_I μ1 (X + 4) 8 0) (X + 4) 9 0) (X + 4) 10 0 = μ2 at tS tP' tL tT t4 tI ⊢
  have p13 : mm_P μ2 X 13 = some c := by rw [tP', sP, if_neg (by omega)]; exact h13
  rw [rp_0_5_q tS, ob, e_gfP (by rw [mk_0_q tS]) p13, ob, if_pos (by rw [mk_66_q tS]), e_pfP (by rw [mk_66_q tS]), ob]
  have uS : Sh_q X (ms_P μ2 (X + 66) 5 (some c)) := sh_P66_q tS
  rw [wf_66_q uS, ob, wf_66_q (shIx_q uS _ _ _), ob, e_pfZ (by rw [mk_66_q (shIx_q (shIx_q uS _ _ _) _ _ _)]) (Or.inl rfl), ob, ob]
  have vS : Sh_q X (ms_I (ms_I (ms_I (ms_P μ2 (X + 66) 5 (some c)) (X + 66) 9 0) (X + 66) 10 0) (X + 66) 11 0) := uS
  have vP : ∀ q k, mm_P (ms_I (ms_I (ms_I (ms_P μ2 (X + 66) 5 (some c)) (X + 66) 9 0) (X + 66) 10 0) (X + 66) 11 0) q k = if q = X + 66 ∧ k = 5 then some c else mm_P μ2 q k := fun q k => rP μ2 (X + 66) 5 (some c) q k
  have vL : mm_L (ms_I (ms_I (ms_I (ms_P μ2 (X + 66) 5 (some c)) (X + 66) 9 0) (X + 66) 10 0) (X + 66) 11 0) = mm_L μ2 := rfl
  have vT : tl (ms_I (ms_I (ms_I (ms_P μ2 (X + 66) 5 (some c)) (X + 66) 9 0) (X + 66) 10 0) (X + 66) 11 0) = tl μ2 := rfl
  have v66 : mm_I (ms_I (ms_I (ms_I (ms_P μ2 (X + 66) 5 (some c)) (X + 66) 9 0) (X + 66) 10 0) (X + 66) 11 0) (X + 66) 9 = 0 ∧ mm_I (ms_I (ms_I (ms_I (ms_P μ2 (X + 66) 5 (some c)) (X + 66) 9 0) (X + 66) 10 0) (X + 66) 11 0) (X + 66) 10 = 0 ∧ mm_I (ms_I (ms_I (ms_I (ms_P μ2 (X + 66) 5 (some c)) (X + 66) 9 0) (X + 66) 10 0) (X + 66) 11 0) (X + 66) 11 = 0 := ⟨by rw [rI, if_neg (by omega), rI, if_neg (by omega), rI, if_pos ⟨rfl, rfl⟩], by rw [rI, if_neg (by omega), rI, if_pos ⟨rfl, rfl⟩], by rw [rI, if_pos ⟨rfl, rfl⟩]⟩
  have vI : ∀ q, q ≠ X + 66 → mm_I (ms_I (ms_I (ms_I (ms_P μ2 (X + 66) 5 (some c)) (X + 66) 9 0) (X + 66) 10 0) (X + 66) 11 0) q = mm_I μ2 q := fun q hq => by rw [iI, if_neg hq, iI, if_neg hq, iI, if_neg hq, iP]
  generalize ms_I (ms_I (ms_I (ms_P μ2 (X + 66) 5 (some c)) (X + 66) 9 0) (X + 66) 10 0) (X + 66) 11 0 = μ3 at vS vP vL vT v66 vI ⊢
  rw [rp_0_6_q vS, ob, wz0_13_q vS, ob]
  have wS : Sh_q X (ms_I μ3 (X + 13) 1 0) := vS
  have l4 : whl (f_X10_settle_L54 X) ((0 : Int32), ms_I μ3 (X + 13) 1 0) = some (ms_I (ms_I (ms_I (ms_I μ3 (X + 13) 1 0) (X + 84) 1 0) (X + 86) 1 0) (X + 88) 1 0) := by
    have st : ∀ (ν : Mm) (j q : Nat), Sh_q X ν → j < 3 → mm_P ν (X + 15) j = some q → mm_K ν q = (4, 0) → f_X10_settle_L54 X (nI j, ν) = some (.inl (nI (j + 1), ms_I ν q 1 0)) := by
      intro ν j q hS hj hp hK
      simp only [f_X10_settle_L54]
      rw [rp_0_7_q hS, ob, ln_15_q hS, ob, if_neg (by rw [nI_le_i (by omega) (by omega)]; omega), ob, e_gaP (mk_15_q hS) (by omega) (by decide) hp, ob, e_pfZ (by rw [hK]) (Or.inl rfl), ob, ob, nI_1]
    have S0' : Sh_q X (ms_I μ3 (X + 13) 1 0) := vS
    have S1 : Sh_q X (ms_I (ms_I μ3 (X + 13) 1 0) (X + 84) 1 0) := vS
    have S2 : Sh_q X (ms_I (ms_I (ms_I μ3 (X + 13) 1 0) (X + 84) 1 0) (X + 86) 1 0) := vS
    have S3 : Sh_q X (ms_I (ms_I (ms_I (ms_I μ3 (X + 13) 1 0) (X + 84) 1 0) (X + 86) 1 0) (X + 88) 1 0) := vS
    rw [show ((0 : Int32), ms_I μ3 (X + 13) 1 0) = (nI 0, ms_I μ3 (X + 13) 1 0) from rfl, whl_l (st _ 0 _ S0' (by decide) (mp_15_0_q S0') (mk_84_q S0')), whl_l (st _ 1 _ S1 (by decide) (mp_15_1_q S1) (mk_86_q S1)), whl_l (st _ 2 _ S2 (by decide) (mp_15_2_q S2) (mk_88_q S2))]
    refine whl_r ?_
    simp only [f_X10_settle_L54]
    rw [rp_0_7_q S3, ob, ln_15_q S3, ob, if_pos (nI_le (Nat.le_refl _) (by decide))]
  rw [l4, ob]
  have fI : ∀ q, q ≠ X + 13 → q ≠ X + 84 → q ≠ X + 86 → q ≠ X + 88 → mm_I (ms_I (ms_I (ms_I (ms_I μ3 (X + 13) 1 0) (X + 84) 1 0) (X + 86) 1 0) (X + 88) 1 0) q = mm_I μ3 q := fun q h1 h2 h3 h4 => by rw [iI, if_neg h4, iI, if_neg h3, iI, if_neg h2, iI, if_neg h1]
  have fP : ∀ q k, mm_P (ms_I (ms_I (ms_I (ms_I μ3 (X + 13) 1 0) (X + 84) 1 0) (X + 86) 1 0) (X + 88) 1 0) q k = if (q = X + 58 ∧ k = 7) ∨ (q = X + 66 ∧ k = 5) then some c else mm_P μ q k := fun q k => by
    show mm_P μ3 q k = _
    rw [vP]
    by_cases z : q = X + 66 ∧ k = 5
    · rw [if_pos z, if_pos (Or.inr z)]
    · rw [if_neg z, tP', sP]
      by_cases w : q = X + 58 ∧ k = 7
      · rw [if_pos w, if_pos (Or.inl w)]
      · rw [if_neg w, if_neg (fun y => y.elim w z)]
  refine ⟨_, rfl, vT.trans (tT.trans sTl), fP, vL.trans (tL.trans sL), ?_, ?_, ?_, ?_, ?_, fun q h1 h2 h3 h4 h5 h6 h7 => ?_⟩
  · obtain ⟨z1, z2⟩ := sT
    unfold SpT
    rw [fI _ (by omega) (by omega) (by omega) (by omega), fI _ (by omega) (by omega) (by omega) (by omega), fI _ (by omega) (by omega) (by omega) (by omega), fI _ (by omega) (by omega) (by omega) (by omega), fI _ (by omega) (by omega) (by omega) (by omega), vI _ (by omega), vI _ (by omega), vI _ (by omega), vI _ (by omega), vI _ (by omega), tI _ (by omega), tI _ (by omega), tI _ (by omega), tI _ (by omega), tI _ (by omega)]
    exact ⟨by rw [fP, if_pos (Or.inl ⟨rfl, rfl⟩)], z2⟩
  · rw [fI _ (by omega) (by omega) (by omega) (by omega), vI _ (by omega), tI _ (by omega), sI _ (by omega), rI, if_pos ⟨rfl, rfl⟩]
  · rw [fI _ (by omega) (by omega) (by omega) (by omega), vI _ (by omega)]
    exact t4
  · rw [fI _ (by omega) (by omega) (by omega) (by omega)]
    exact v66
  · exact ⟨by rw [rI, if_neg (by omega), rI, if_neg (by omega), rI, if_neg (by omega), rI, if_pos ⟨rfl, rfl⟩], by rw [rI, if_neg (by omega), rI, if_neg (by omega), rI, if_pos ⟨rfl, rfl⟩], by rw [rI, if_neg (by omega), rI, if_pos ⟨rfl, rfl⟩], by rw [rI, if_pos ⟨rfl, rfl⟩]⟩
  · rw [fI _ (by omega) (by omega) (by omega) (by omega), vI _ (by omega), tI _ (by omega), sI _ (by omega), iI, if_neg (by omega)]
end
