noncomputable def f_L_law_J1398 (l0 : Nat) (l1 : Nat) (l2 : Nat) (l3 : Int32) (μ : Mm) : Option ((Int32 × Mm) ⊕ (Mm)) :=
  (some (l3 + (6 : Int32))).bind fun v1398 => some (.inl (v1398, μ))
noncomputable def f_L_law_J1145 (l0 : Nat) (l1 : Nat) (l2 : Nat) (l3 : Int32) (k0 : Int32) (k1 : Nat) (k2 : Int32) (k3 : Int32) (k4 : Int32) (k5 : Int32) (μ : Mm) : Option ((Int32 × Mm) ⊕ (Mm)) :=
  (f_X11_lot k1 k2 k3 k4 k5 μ).bind fun x1145 => if k0 = x1145.1 then f_L_law_J1398 l0 l1 l2 l3 x1145.2 else none
noncomputable def f_L_law_J1113 (l0 : Nat) (l1 : Nat) (l2 : Nat) (l3 : Int32) (k0 : Nat) (k1 : Int32) (k2 : Int32) (k3 : Int32) (k4 : Int32) (μ : Mm) : Option ((Int32 × Mm) ⊕ (Mm)) :=
  (f_X10_lot k0 k1 k2 k3 k4 μ).bind fun x1113 => (gs_I l0 (l3 + (1 : Int32)) x1113.2).bind fun x1121 => (gs_I l0 (l3 + (2 : Int32)) x1113.2).bind fun x1126 => (gs_I l0 (l3 + (3 : Int32)) x1113.2).bind fun x1131 => (gs_I l0 (l3 + (4 : Int32)) x1113.2).bind fun x1136 => if x1136 = 0 then f_L_law_J1145 l0 l1 l2 l3 x1113.1 l2 x1121 x1126 x1131 (0 : Int32) x1113.2 else f_L_law_J1145 l0 l1 l2 l3 x1113.1 l2 x1121 x1126 x1131 (1 : Int32) x1113.2
noncomputable def f_L_law_J1194 (l0 : Nat) (l1 : Nat) (l2 : Nat) (l3 : Int32) (k0 : Int32) (k1 : Nat) (k2 : Int32) (k3 : Int32) (μ : Mm) : Option ((Int32 × Mm) ⊕ (Mm)) :=
  (f_X11_lotDay k1 k2 k3 μ).bind fun x1194 => if k0 = x1194.1 then f_L_law_J1398 l0 l1 l2 l3 x1194.2 else none
noncomputable def f_L_law_J1172 (l0 : Nat) (l1 : Nat) (l2 : Nat) (l3 : Int32) (k0 : Nat) (k1 : Int32) (k2 : Int32) (μ : Mm) : Option ((Int32 × Mm) ⊕ (Mm)) :=
  (f_X10_lotDay k0 k1 k2 μ).bind fun x1172 => (gs_I l0 (l3 + (1 : Int32)) x1172.2).bind fun x1180 => (gs_I l0 (l3 + (2 : Int32)) x1172.2).bind fun x1185 => if x1185 = 0 then f_L_law_J1194 l0 l1 l2 l3 x1172.1 l2 x1180 (0 : Int32) x1172.2 else f_L_law_J1194 l0 l1 l2 l3 x1172.1 l2 x1180 (1 : Int32) x1172.2
noncomputable def f_L_law_L18 (l0 : Nat) (l1 : Nat) (l2 : Nat) (s18 : Int32 × Mm) : Option ((Int32 × Mm) ⊕ (Mm)) :=
  (gs_len l0 s18.2).bind fun x20 => if (x20 - (6 : Int32)) < s18.1 then some (.inr s18.2) else (gs_I l0 s18.1 s18.2).bind fun x29 => if (x29 &&& (63 : Int32)) = 0 then (gs_I l0 (s18.1 + (1 : Int32)) s18.2).bind fun x205 => (gs_I l0 (s18.1 + (2 : Int32)) s18.2).bind fun x210 => (gs_I l0 (s18.1 + (3 : Int32)) s18.2).bind fun x215 => (gs_I l0 (s18.1 + (4 : Int32)) s18.2).bind fun x220 => (gs_I l0 (s18.1 + (5 : Int32)) s18.2).bind fun x225 => (f_X10_feed l1 x205 x210 x215 x220 x225 s18.2).bind fun x226 => (gs_I l0 (s18.1 + (1 : Int32)) x226.2).bind fun x234 => (gs_I l0 (s18.1 + (2 : Int32)) x226.2).bind fun x239 => (gs_I l0 (s18.1 + (3 : Int32)) x226.2).bind fun x244 => (gs_I l0 (s18.1 + (4 : Int32)) x226.2).bind fun x249 => (gs_I l0 (s18.1 + (5 : Int32)) x226.2).bind fun x254 => (f_X11_feed l2 x234 x239 x244 x249 x254 x226.2).bind fun x255 => if x226.1 = x255.1 then f_L_law_J1398 l0 l1 l2 s18.1 x255.2 else none else if (x29 &&& (63 : Int32)) = 1 then (gs_I l0 (s18.1 + (1 : Int32)) s18.2).bind fun x268 => (f_X10_end l1 x268 s18.2).bind fun x269 => (gs_I l0 (s18.1 + (1 : Int32)) x269.2).bind fun x277 => (f_X11_end l2 x277 x269.2).bind fun x278 => if x269.1 = x278.1 then f_L_law_J1398 l0 l1 l2 s18.1 x278.2 else none else if (x29 &&& (63 : Int32)) = 2 then (f_X10_town l1 s18.2).bind fun x287 => (f_X11_town l2 x287.2).bind fun x291 => if x287.1 = x291.1 then f_L_law_J1398 l0 l1 l2 s18.1 x291.2 else none else if (x29 &&& (63 : Int32)) = 3 then (gs_I l0 (s18.1 + (1 : Int32)) s18.2).bind fun x304 => (f_X10_fault l1 x304 s18.2).bind fun x305 => (gs_I l0 (s18.1 + (1 : Int32)) s18.2).bind fun x313 => (f_X11_fault l2 x313 s18.2).bind fun x314 => if x305 = x314 then f_L_law_J1398 l0 l1 l2 s18.1 s18.2 else none else if (x29 &&& (63 : Int32)) = 4 then (gs_I l0 (s18.1 + (1 : Int32)) s18.2).bind fun x327 => (f_X10_told l1 x327 s18.2).bind fun x328 => (gs_I l0 (s18.1 + (1 : Int32)) s18.2).bind fun x336 => (f_X11_told l2 x336 s18.2).bind fun x337 => if x328 = x337 then f_L_law_J1398 l0 l1 l2 s18.1 s18.2 else none else if (x29 &&& (63 : Int32)) = 5 then (f_X10_turnings l1 s18.2).bind fun x346 => (f_X11_turnings l2 s18.2).bind fun x350 => if x346 = x350 then f_L_law_J1398 l0 l1 l2 s18.1 s18.2 else none else if (x29 &&& (63 : Int32)) = 6 then (gs_I l0 (s18.1 + (1 : Int32)) s18.2).bind fun x363 => (f_X10_turn l1 x363 s18.2).bind fun x364 => (gs_I l0 (s18.1 + (1 : Int32)) x364.2).bind fun x372 => (f_X11_turn l2 x372 x364.2).bind fun x373 => if x364.1 = x373.1 then f_L_law_J1398 l0 l1 l2 s18.1 x373.2 else none else if (x29 &&& (63 : Int32)) = 7 then (gs_I l0 (s18.1 + (1 : Int32)) s18.2).bind fun x386 => (f_X10_dreams l1 x386 s18.2).bind fun x387 => (gs_I l0 (s18.1 + (1 : Int32)) s18.2).bind fun x395 => (f_X11_dreams l2 x395 s18.2).bind fun x396 => if x387 = x396 then f_L_law_J1398 l0 l1 l2 s18.1 s18.2 else none else if (x29 &&& (63 : Int32)) = 8 then (f_X10_number l1 s18.2).bind fun x405 => (f_X11_number l2 x405.2).bind fun x409 => if x405.1 = x409.1 then f_L_law_J1398 l0 l1 l2 s18.1 x409.2 else none else if (x29 &&& (63 : Int32)) = 9 then (gs_I l0 (s18.1 + (1 : Int32)) s18.2).bind fun x422 => (gs_I l0 (s18.1 + (2 : Int32)) s18.2).bind fun x427 => (gs_I l0 (s18.1 + (3 : Int32)) s18.2).bind fun x432 => (f_X10_knows l1 x422 x427 x432 s18.2).bind fun x433 => (gs_I l0 (s18.1 + (1 : Int32)) x433.2).bind fun x441 => (gs_I l0 (s18.1 + (2 : Int32)) x433.2).bind fun x446 => (gs_I l0 (s18.1 + (3 : Int32)) x433.2).bind fun x451 => (f_X11_knows l2 x441 x446 x451 x433.2).bind fun x452 => if x433.1 = x452.1 then f_L_law_J1398 l0 l1 l2 s18.1 x452.2 else none else if (x29 &&& (63 : Int32)) = 10 then (gs_I l0 (s18.1 + (1 : Int32)) s18.2).bind fun x465 => (gs_I l0 (s18.1 + (2 : Int32)) s18.2).bind fun x470 => (gs_I l0 (s18.1 + (3 : Int32)) s18.2).bind fun x475 => (gs_I l0 (s18.1 + (4 : Int32)) s18.2).bind fun x480 => (f_X10_comes l1 x465 x470 x475 x480 s18.2).bind fun x481 => (gs_I l0 (s18.1 + (1 : Int32)) x481.2).bind fun x489 => (gs_I l0 (s18.1 + (2 : Int32)) x481.2).bind fun x494 => (gs_I l0 (s18.1 + (3 : Int32)) x481.2).bind fun x499 => (gs_I l0 (s18.1 + (4 : Int32)) x481.2).bind fun x504 => (f_X11_comes_ l2 x489 x494 x499 x504 x481.2).bind fun x505 => if x481.1 = x505.1 then f_L_law_J1398 l0 l1 l2 s18.1 x505.2 else none else if (x29 &&& (63 : Int32)) = 11 then (gs_I l0 (s18.1 + (1 : Int32)) s18.2).bind fun x518 => (gs_I l0 (s18.1 + (2 : Int32)) s18.2).bind fun x523 => (f_X10_all l1 x518 x523 s18.2).bind fun x524 => (gs_I l0 (s18.1 + (1 : Int32)) x524.2).bind fun x532 => (gs_I l0 (s18.1 + (2 : Int32)) x524.2).bind fun x537 => (f_X11_all l2 x532 x537 x524.2).bind fun x538 => if x524.1 = x538.1 then f_L_law_J1398 l0 l1 l2 s18.1 x538.2 else none else if (x29 &&& (63 : Int32)) = 12 then (f_X10_judge l1 s18.2).bind fun x547 => (f_X11_judge l2 x547.2).bind fun x551 => if x547.1 = x551.1 then f_L_law_J1398 l0 l1 l2 s18.1 x551.2 else none else if (x29 &&& (63 : Int32)) = 13 then (gs_I l0 (s18.1 + (1 : Int32)) s18.2).bind fun x564 => (gs_I l0 (s18.1 + (2 : Int32)) s18.2).bind fun x569 => (gs_I l0 (s18.1 + (3 : Int32)) s18.2).bind fun x574 => (gs_I l0 (s18.1 + (4 : Int32)) s18.2).bind fun x579 => (gs_I l0 (s18.1 + (5 : Int32)) s18.2).bind fun x584 => (f_X10_act l1 x564 x569 x574 x579 x584 s18.2).bind fun x585 => (gs_I l0 (s18.1 + (1 : Int32)) x585.2).bind fun x593 => (gs_I l0 (s18.1 + (2 : Int32)) x585.2).bind fun x598 => (gs_I l0 (s18.1 + (3 : Int32)) x585.2).bind fun x603 => (gs_I l0 (s18.1 + (4 : Int32)) x585.2).bind fun x608 => (gs_I l0 (s18.1 + (5 : Int32)) x585.2).bind fun x613 => (f_X11_act l2 x593 x598 x603 x608 x613 x585.2).bind fun x614 => if x585.1 = x614.1 then f_L_law_J1398 l0 l1 l2 s18.1 x614.2 else none else if (x29 &&& (63 : Int32)) = 14 then (gs_I l0 (s18.1 + (1 : Int32)) s18.2).bind fun x627 => (gs_I l0 (s18.1 + (2 : Int32)) s18.2).bind fun x632 => (gs_I l0 (s18.1 + (3 : Int32)) s18.2).bind fun x637 => (f_X10_right l1 x627 x632 x637 s18.2).bind fun x638 => (gs_I l0 (s18.1 + (1 : Int32)) x638.2).bind fun x646 => (gs_I l0 (s18.1 + (2 : Int32)) x638.2).bind fun x651 => (gs_I l0 (s18.1 + (3 : Int32)) x638.2).bind fun x656 => (f_X11_right l2 x646 x651 x656 x638.2).bind fun x657 => if x638.1 = x657.1 then f_L_law_J1398 l0 l1 l2 s18.1 x657.2 else none else if (x29 &&& (63 : Int32)) = 15 then (gs_I l0 (s18.1 + (1 : Int32)) s18.2).bind fun x670 => (gs_I l0 (s18.1 + (2 : Int32)) s18.2).bind fun x675 => (f_X10_fit l1 x670 x675 s18.2).bind fun x676 => (gs_I l0 (s18.1 + (1 : Int32)) x676.2).bind fun x684 => (gs_I l0 (s18.1 + (2 : Int32)) x676.2).bind fun x689 => (f_X11_fit l2 x684 x689 x676.2).bind fun x690 => if x676.1 = x690.1 then f_L_law_J1398 l0 l1 l2 s18.1 x690.2 else none else if (x29 &&& (63 : Int32)) = 16 then (gs_I l0 (s18.1 + (1 : Int32)) s18.2).bind fun x703 => (gs_I l0 (s18.1 + (2 : Int32)) s18.2).bind fun x708 => (f_X10_sure l1 x703 x708 s18.2).bind fun x709 => (gs_I l0 (s18.1 + (1 : Int32)) x709.2).bind fun x717 => (gs_I l0 (s18.1 + (2 : Int32)) x709.2).bind fun x722 => (f_X11_sure l2 x717 x722 x709.2).bind fun x723 => if x709.1 = x723.1 then f_L_law_J1398 l0 l1 l2 s18.1 x723.2 else none else if (x29 &&& (63 : Int32)) = 17 then (gs_I l0 (s18.1 + (1 : Int32)) s18.2).bind fun x736 => (f_X10_ask l1 x736 s18.2).bind fun x737 => (gs_I l0 (s18.1 + (1 : Int32)) x737.2).bind fun x745 => (f_X11_ask l2 x745 x737.2).bind fun x746 => if x737.1 = x746.1 then f_L_law_J1398 l0 l1 l2 s18.1 x746.2 else none else if (x29 &&& (63 : Int32)) = 18 then (gs_I l0 (s18.1 + (1 : Int32)) s18.2).bind fun x759 => (gs_I l0 (s18.1 + (2 : Int32)) s18.2).bind fun x764 => (gs_I l0 (s18.1 + (3 : Int32)) s18.2).bind fun x769 => (gs_I l0 (s18.1 + (4 : Int32)) s18.2).bind fun x774 => (f_X10_knowers l1 x759 x764 x769 x774 s18.2).bind fun x775 => (gs_I l0 (s18.1 + (1 : Int32)) x775.2).bind fun x783 => (gs_I l0 (s18.1 + (2 : Int32)) x775.2).bind fun x788 => (gs_I l0 (s18.1 + (3 : Int32)) x775.2).bind fun x793 => (gs_I l0 (s18.1 + (4 : Int32)) x775.2).bind fun x798 => (f_X11_knowers l2 x783 x788 x793 x798 x775.2).bind fun x799 => if x775.1 = x799.1 then f_L_law_J1398 l0 l1 l2 s18.1 x799.2 else none else if (x29 &&& (63 : Int32)) = 19 then (f_X10_wishes l1 s18.2).bind fun x808 => (f_X11_wishes l2 s18.2).bind fun x812 => if x808 = x812 then f_L_law_J1398 l0 l1 l2 s18.1 s18.2 else none else if (x29 &&& (63 : Int32)) = 20 then (gs_I l0 (s18.1 + (1 : Int32)) s18.2).bind fun x825 => (f_X10_met l1 x825 s18.2).bind fun x826 => (gs_I l0 (s18.1 + (1 : Int32)) x826.2).bind fun x834 => (f_X11_met l2 x834 x826.2).bind fun x835 => if x826.1 = x835.1 then f_L_law_J1398 l0 l1 l2 s18.1 x835.2 else none else if (x29 &&& (63 : Int32)) = 21 then (f_X10_plan l1 s18.2).bind fun x844 => (f_X11_plan l2 x844.2).bind fun x848 => if x844.1 = x848.1 then f_L_law_J1398 l0 l1 l2 s18.1 x848.2 else none else if (x29 &&& (63 : Int32)) = 22 then (gs_I l0 (s18.1 + (1 : Int32)) s18.2).bind fun x861 => (gs_I l0 (s18.1 + (2 : Int32)) s18.2).bind fun x866 => (gs_I l0 (s18.1 + (3 : Int32)) s18.2).bind fun x871 => (f_X10_said l1 x861 x866 x871 s18.2).bind fun x872 => (gs_I l0 (s18.1 + (1 : Int32)) x872.2).bind fun x880 => (gs_I l0 (s18.1 + (2 : Int32)) x872.2).bind fun x885 => (gs_I l0 (s18.1 + (3 : Int32)) x872.2).bind fun x890 => (f_X11_said l2 x880 x885 x890 x872.2).bind fun x891 => if x872.1 = x891.1 then f_L_law_J1398 l0 l1 l2 s18.1 x891.2 else none else if (x29 &&& (63 : Int32)) = 23 then (gs_I l0 (s18.1 + (1 : Int32)) s18.2).bind fun x904 => (gs_I l0 (s18.1 + (2 : Int32)) s18.2).bind fun x909 => (gs_I l0 (s18.1 + (3 : Int32)) s18.2).bind fun x914 => (gs_I l0 (s18.1 + (4 : Int32)) s18.2).bind fun x919 => (f_X10_over l1 x904 x909 x914 x919 s18.2).bind fun x920 => (gs_I l0 (s18.1 + (1 : Int32)) x920.2).bind fun x928 => (gs_I l0 (s18.1 + (2 : Int32)) x920.2).bind fun x933 => (gs_I l0 (s18.1 + (3 : Int32)) x920.2).bind fun x938 => (gs_I l0 (s18.1 + (4 : Int32)) x920.2).bind fun x943 => (f_X11_over l2 x928 x933 x938 x943 x920.2).bind fun x944 => if x920.1 = x944.1 then f_L_law_J1398 l0 l1 l2 s18.1 x944.2 else none else if (x29 &&& (63 : Int32)) = 24 then (gs_I l0 (s18.1 + (1 : Int32)) s18.2).bind fun x957 => (gs_I l0 (s18.1 + (2 : Int32)) s18.2).bind fun x962 => (f_X10_skill l1 x957 x962 s18.2).bind fun x963 => (gs_I l0 (s18.1 + (1 : Int32)) x963.2).bind fun x971 => (gs_I l0 (s18.1 + (2 : Int32)) x963.2).bind fun x976 => (f_X11_skill l2 x971 x976 x963.2).bind fun x977 => if x963.1 = x977.1 then f_L_law_J1398 l0 l1 l2 s18.1 x977.2 else none else if (x29 &&& (63 : Int32)) = 25 then (gs_I l0 (s18.1 + (1 : Int32)) s18.2).bind fun x990 => (f_X10_ring l1 x990 s18.2).bind fun x991 => (gs_I l0 (s18.1 + (1 : Int32)) s18.2).bind fun x999 => (f_X11_ring l2 x999 s18.2).bind fun x1000 => if x991 = x1000 then f_L_law_J1398 l0 l1 l2 s18.1 s18.2 else none else if (x29 &&& (63 : Int32)) = 26 then (gs_I l0 (s18.1 + (1 : Int32)) s18.2).bind fun x1013 => (gs_I l0 (s18.1 + (2 : Int32)) s18.2).bind fun x1018 => (f_X10_marry l1 x1013 x1018 s18.2).bind fun x1019 => (gs_I l0 (s18.1 + (1 : Int32)) s18.2).bind fun x1027 => (gs_I l0 (s18.1 + (2 : Int32)) s18.2).bind fun x1032 => (f_X11_marry l2 x1027 x1032 s18.2).bind fun x1033 => if x1019 = x1033 then f_L_law_J1398 l0 l1 l2 s18.1 s18.2 else none else if (x29 &&& (63 : Int32)) = 27 then (gs_I l0 (s18.1 + (1 : Int32)) s18.2).bind fun x1046 => (gs_I l0 (s18.1 + (2 : Int32)) s18.2).bind fun x1051 => (gs_I l0 (s18.1 + (3 : Int32)) s18.2).bind fun x1056 => (f_X10_kept l1 x1046 x1051 x1056 s18.2).bind fun x1057 => (gs_I l0 (s18.1 + (1 : Int32)) x1057.2).bind fun x1065 => (gs_I l0 (s18.1 + (2 : Int32)) x1057.2).bind fun x1070 => (gs_I l0 (s18.1 + (3 : Int32)) x1057.2).bind fun x1075 => (f_X11_kept l2 x1065 x1070 x1075 x1057.2).bind fun x1076 => if x1057.1 = x1076.1 then f_L_law_J1398 l0 l1 l2 s18.1 x1076.2 else none else if (x29 &&& (63 : Int32)) = 28 then (gs_I l0 (s18.1 + (1 : Int32)) s18.2).bind fun x1089 => (gs_I l0 (s18.1 + (2 : Int32)) s18.2).bind fun x1094 => (gs_I l0 (s18.1 + (3 : Int32)) s18.2).bind fun x1099 => (gs_I l0 (s18.1 + (4 : Int32)) s18.2).bind fun x1104 => if x1104 = 0 then f_L_law_J1113 l0 l1 l2 s18.1 l1 x1089 x1094 x1099 (0 : Int32) s18.2 else f_L_law_J1113 l0 l1 l2 s18.1 l1 x1089 x1094 x1099 (1 : Int32) s18.2 else if (x29 &&& (63 : Int32)) = 29 then (gs_I l0 (s18.1 + (1 : Int32)) s18.2).bind fun x1158 => (gs_I l0 (s18.1 + (2 : Int32)) s18.2).bind fun x1163 => if x1163 = 0 then f_L_law_J1172 l0 l1 l2 s18.1 l1 x1158 (0 : Int32) s18.2 else f_L_law_J1172 l0 l1 l2 s18.1 l1 x1158 (1 : Int32) s18.2 else if (x29 &&& (63 : Int32)) = 30 then (f_X10_rings l1 s18.2).bind fun x1203 => (f_X11_rings l2 x1203.2).bind fun x1207 => if (lg_cmp x1203.1 x1207.1) = 0 then f_L_law_J1398 l0 l1 l2 s18.1 x1207.2 else none else if (x29 &&& (63 : Int32)) = 31 then (gs_I l0 (s18.1 + (1 : Int32)) s18.2).bind fun x1221 => (gs_I l0 (s18.1 + (2 : Int32)) s18.2).bind fun x1226 => (f_X10_parts l1 x1221 x1226 s18.2).bind fun x1227 => (gs_I l0 (s18.1 + (1 : Int32)) x1227.2).bind fun x1235 => (gs_I l0 (s18.1 + (2 : Int32)) x1227.2).bind fun x1240 => (f_X11_parts l2 x1235 x1240 x1227.2).bind fun x1241 => if (lg_cmp x1227.1 x1241.1) = 0 then f_L_law_J1398 l0 l1 l2 s18.1 x1241.2 else none else if (x29 &&& (63 : Int32)) = 32 then (gs_I l0 (s18.1 + (1 : Int32)) s18.2).bind fun x1255 => (f_X10_begin l1 x1255 s18.2).bind fun x1256 => (gs_I l0 (s18.1 + (1 : Int32)) x1256.2).bind fun x1264 => (f_X11_begin_ l2 x1264 x1256.2).bind fun x1265 => if x1256.1 = x1265.1 then f_L_law_J1398 l0 l1 l2 s18.1 x1265.2 else none else if (x29 &&& (63 : Int32)) = 33 then (gs_I l0 (s18.1 + (1 : Int32)) s18.2).bind fun x1278 => (f_X10_go l1 x1278 s18.2).bind fun x1279 => (gs_I l0 (s18.1 + (1 : Int32)) x1279.2).bind fun x1287 => (f_X11_go l2 x1287 x1279.2).bind fun x1288 => if x1279.1 = x1288.1 then f_L_law_J1398 l0 l1 l2 s18.1 x1288.2 else none else if (x29 &&& (63 : Int32)) = 34 then (gs_I l0 (s18.1 + (1 : Int32)) s18.2).bind fun x1301 => (gs_I l0 (s18.1 + (2 : Int32)) s18.2).bind fun x1306 => (f_X10_now l1 x1301 x1306 s18.2).bind fun x1307 => (gs_I l0 (s18.1 + (1 : Int32)) s18.2).bind fun x1315 => (gs_I l0 (s18.1 + (2 : Int32)) s18.2).bind fun x1320 => (f_X11_now l2 x1315 x1320 s18.2).bind fun x1321 => if x1307 = x1321 then f_L_law_J1398 l0 l1 l2 s18.1 s18.2 else none else if (x29 &&& (63 : Int32)) = 35 then (gs_I l0 (s18.1 + (1 : Int32)) s18.2).bind fun x1334 => (f_X10_keep l1 x1334 s18.2).bind fun x1335 => (gs_I l0 (s18.1 + (1 : Int32)) x1335.2).bind fun x1343 => (f_X11_keep l2 x1343 x1335.2).bind fun x1344 => if x1335.1 = x1344.1 then f_L_law_J1398 l0 l1 l2 s18.1 x1344.2 else none else if (x29 &&& (63 : Int32)) = 36 then (gs_I l0 (s18.1 + (1 : Int32)) s18.2).bind fun x1357 => (f_X10_take l1 x1357 s18.2).bind fun x1358 => (gs_I l0 (s18.1 + (1 : Int32)) x1358.2).bind fun x1366 => (f_X11_take l2 x1366 x1358.2).bind fun x1367 => if x1358.1 = x1367.1 then f_L_law_J1398 l0 l1 l2 s18.1 x1367.2 else none else if (x29 &&& (63 : Int32)) = 37 then (gs_I l0 (s18.1 + (1 : Int32)) s18.2).bind fun x1380 => (f_X10_count l1 x1380 s18.2).bind fun x1381 => (gs_I l0 (s18.1 + (1 : Int32)) s18.2).bind fun x1389 => (f_X11_count l2 x1389 s18.2).bind fun x1390 => if x1381 = x1390 then f_L_law_J1398 l0 l1 l2 s18.1 s18.2 else none else f_L_law_J1398 l0 l1 l2 s18.1 s18.2
noncomputable def f_L_law (l0 : Nat) (μ : Mm) : Option (Int32 × Mm) :=
  (nw_O 11 μ).bind fun n0 => (f_X10_init n0.1 n0.2).bind fun x4 => (nw_O 12 x4).bind fun n8 => (f_X11_init n8.1 n8.2).bind fun x12 => (whl (f_L_law_L18 l0 n0.1 n8.1) ((0 : Int32), x12)).bind (fun b18 => some ((1 : Int32), b18))
theorem t_L_law_J1398 {l0 : Nat} {l1 : Nat} {l2 : Nat} {l3 : Int32} {μ : Mm} {x : ((Int32 × Mm) ⊕ (Mm))} (h : f_L_law_J1398 l0 l1 l2 l3 μ = some x) : Gr μ ((sm (fun (q : Int32 × Mm) => q.2) (fun (q : Mm) => q)) x) := by
  have hk : Gr μ μ := Gr.rfl
  obtain ⟨v1398, e1398, h⟩ := bd h
  have h := Option.some.inj h
  subst h
  exact hk
theorem t_L_law_J1145 {l0 : Nat} {l1 : Nat} {l2 : Nat} {l3 : Int32} {k0 : Int32} {k1 : Nat} {k2 : Int32} {k3 : Int32} {k4 : Int32} {k5 : Int32} {μ : Mm} {x : ((Int32 × Mm) ⊕ (Mm))} (h : f_L_law_J1145 l0 l1 l2 l3 k0 k1 k2 k3 k4 k5 μ = some x) : Gr μ ((sm (fun (q : Int32 × Mm) => q.2) (fun (q : Mm) => q)) x) := by
  have hk : Gr μ μ := Gr.rfl
  obtain ⟨x1145, e1145, h⟩ := bd h
  have hk := Gr.after (Gr.of (t_X11_lot e1145)) hk
  rcases ite_e h with ⟨_, h⟩ | ⟨_, h⟩
  · exact Gr.after (t_L_law_J1398 h) hk
  · cases h
theorem t_L_law_J1113 {l0 : Nat} {l1 : Nat} {l2 : Nat} {l3 : Int32} {k0 : Nat} {k1 : Int32} {k2 : Int32} {k3 : Int32} {k4 : Int32} {μ : Mm} {x : ((Int32 × Mm) ⊕ (Mm))} (h : f_L_law_J1113 l0 l1 l2 l3 k0 k1 k2 k3 k4 μ = some x) : Gr μ ((sm (fun (q : Int32 × Mm) => q.2) (fun (q : Mm) => q)) x) := by
  have hk : Gr μ μ := Gr.rfl
  obtain ⟨x1113, e1113, h⟩ := bd h
  have hk := Gr.after (t_X10_lot e1113) hk
  obtain ⟨x1121, e1121, h⟩ := bd h
  obtain ⟨x1126, e1126, h⟩ := bd h
  obtain ⟨x1131, e1131, h⟩ := bd h
  obtain ⟨x1136, e1136, h⟩ := bd h
  rcases ite_e h with ⟨_, h⟩ | ⟨_, h⟩
  · exact Gr.after (t_L_law_J1145 h) hk
  · exact Gr.after (t_L_law_J1145 h) hk
theorem t_L_law_J1194 {l0 : Nat} {l1 : Nat} {l2 : Nat} {l3 : Int32} {k0 : Int32} {k1 : Nat} {k2 : Int32} {k3 : Int32} {μ : Mm} {x : ((Int32 × Mm) ⊕ (Mm))} (h : f_L_law_J1194 l0 l1 l2 l3 k0 k1 k2 k3 μ = some x) : Gr μ ((sm (fun (q : Int32 × Mm) => q.2) (fun (q : Mm) => q)) x) := by
  have hk : Gr μ μ := Gr.rfl
  obtain ⟨x1194, e1194, h⟩ := bd h
  have hk := Gr.after (Gr.of (t_X11_lotDay e1194)) hk
  rcases ite_e h with ⟨_, h⟩ | ⟨_, h⟩
  · exact Gr.after (t_L_law_J1398 h) hk
  · cases h
theorem t_L_law_J1172 {l0 : Nat} {l1 : Nat} {l2 : Nat} {l3 : Int32} {k0 : Nat} {k1 : Int32} {k2 : Int32} {μ : Mm} {x : ((Int32 × Mm) ⊕ (Mm))} (h : f_L_law_J1172 l0 l1 l2 l3 k0 k1 k2 μ = some x) : Gr μ ((sm (fun (q : Int32 × Mm) => q.2) (fun (q : Mm) => q)) x) := by
  have hk : Gr μ μ := Gr.rfl
  obtain ⟨x1172, e1172, h⟩ := bd h
  have hk := Gr.after (t_X10_lotDay e1172) hk
  obtain ⟨x1180, e1180, h⟩ := bd h
  obtain ⟨x1185, e1185, h⟩ := bd h
  rcases ite_e h with ⟨_, h⟩ | ⟨_, h⟩
  · exact Gr.after (t_L_law_J1194 h) hk
  · exact Gr.after (t_L_law_J1194 h) hk
theorem t_L_law_L18 {l0 : Nat} {l1 : Nat} {l2 : Nat} {s18 : Int32 × Mm} {x : ((Int32 × Mm) ⊕ (Mm))} (h : f_L_law_L18 l0 l1 l2 s18 = some x) : Gr ((fun (q : Int32 × Mm) => q.2) s18) (sm (fun (q : Int32 × Mm) => q.2) (fun (q : Mm) => q) x) := by
  have hk : Gr (s18.2) (s18.2) := Gr.rfl
  obtain ⟨x20, e20, h⟩ := bd h
  rcases ite_e h with ⟨_, h⟩ | ⟨_, h⟩
  · have h := Option.some.inj h
    subst h
    exact hk
  · obtain ⟨x29, e29, h⟩ := bd h
    rcases ite_e h with ⟨_, h⟩ | ⟨_, h⟩
    · obtain ⟨x205, e205, h⟩ := bd h
      obtain ⟨x210, e210, h⟩ := bd h
      obtain ⟨x215, e215, h⟩ := bd h
      obtain ⟨x220, e220, h⟩ := bd h
      obtain ⟨x225, e225, h⟩ := bd h
      obtain ⟨x226, e226, h⟩ := bd h
      have hk := Gr.after (Gr.of (t_X10_feed e226)) hk
      obtain ⟨x234, e234, h⟩ := bd h
      obtain ⟨x239, e239, h⟩ := bd h
      obtain ⟨x244, e244, h⟩ := bd h
      obtain ⟨x249, e249, h⟩ := bd h
      obtain ⟨x254, e254, h⟩ := bd h
      obtain ⟨x255, e255, h⟩ := bd h
      have hk := Gr.after (Gr.of (t_X11_feed e255)) hk
      rcases ite_e h with ⟨_, h⟩ | ⟨_, h⟩
      · exact Gr.after (t_L_law_J1398 h) hk
      · cases h
    rcases ite_e h with ⟨_, h⟩ | ⟨_, h⟩
    · obtain ⟨x268, e268, h⟩ := bd h
      obtain ⟨x269, e269, h⟩ := bd h
      have hk := Gr.after (Gr.of (t_X10_end e269)) hk
      obtain ⟨x277, e277, h⟩ := bd h
      obtain ⟨x278, e278, h⟩ := bd h
      have hk := Gr.after (Gr.of (t_X11_end e278)) hk
      rcases ite_e h with ⟨_, h⟩ | ⟨_, h⟩
      · exact Gr.after (t_L_law_J1398 h) hk
      · cases h
    rcases ite_e h with ⟨_, h⟩ | ⟨_, h⟩
    · obtain ⟨x287, e287, h⟩ := bd h
      have hk := Gr.after (Gr.of (t_X10_town e287)) hk
      obtain ⟨x291, e291, h⟩ := bd h
      have hk := Gr.after (Gr.of (t_X11_town e291)) hk
      rcases ite_e h with ⟨_, h⟩ | ⟨_, h⟩
      · exact Gr.after (t_L_law_J1398 h) hk
      · cases h
    rcases ite_e h with ⟨_, h⟩ | ⟨_, h⟩
    · obtain ⟨x304, e304, h⟩ := bd h
      obtain ⟨x305, e305, h⟩ := bd h
      obtain ⟨x313, e313, h⟩ := bd h
      obtain ⟨x314, e314, h⟩ := bd h
      rcases ite_e h with ⟨_, h⟩ | ⟨_, h⟩
      · exact Gr.after (t_L_law_J1398 h) hk
      · cases h
    rcases ite_e h with ⟨_, h⟩ | ⟨_, h⟩
    · obtain ⟨x327, e327, h⟩ := bd h
      obtain ⟨x328, e328, h⟩ := bd h
      obtain ⟨x336, e336, h⟩ := bd h
      obtain ⟨x337, e337, h⟩ := bd h
      rcases ite_e h with ⟨_, h⟩ | ⟨_, h⟩
      · exact Gr.after (t_L_law_J1398 h) hk
      · cases h
    rcases ite_e h with ⟨_, h⟩ | ⟨_, h⟩
    · obtain ⟨x346, e346, h⟩ := bd h
      obtain ⟨x350, e350, h⟩ := bd h
      rcases ite_e h with ⟨_, h⟩ | ⟨_, h⟩
      · exact Gr.after (t_L_law_J1398 h) hk
      · cases h
    rcases ite_e h with ⟨_, h⟩ | ⟨_, h⟩
    · obtain ⟨x363, e363, h⟩ := bd h
      obtain ⟨x364, e364, h⟩ := bd h
      have hk := Gr.after (Gr.of (t_X10_turn e364)) hk
      obtain ⟨x372, e372, h⟩ := bd h
      obtain ⟨x373, e373, h⟩ := bd h
      have hk := Gr.after (Gr.of (t_X11_turn e373)) hk
      rcases ite_e h with ⟨_, h⟩ | ⟨_, h⟩
      · exact Gr.after (t_L_law_J1398 h) hk
      · cases h
    rcases ite_e h with ⟨_, h⟩ | ⟨_, h⟩
    · obtain ⟨x386, e386, h⟩ := bd h
      obtain ⟨x387, e387, h⟩ := bd h
      obtain ⟨x395, e395, h⟩ := bd h
      obtain ⟨x396, e396, h⟩ := bd h
      rcases ite_e h with ⟨_, h⟩ | ⟨_, h⟩
      · exact Gr.after (t_L_law_J1398 h) hk
      · cases h
    rcases ite_e h with ⟨_, h⟩ | ⟨_, h⟩
    · obtain ⟨x405, e405, h⟩ := bd h
      have hk := Gr.after (Gr.of (t_X10_number e405)) hk
      obtain ⟨x409, e409, h⟩ := bd h
      have hk := Gr.after (Gr.of (t_X11_number e409)) hk
      rcases ite_e h with ⟨_, h⟩ | ⟨_, h⟩
      · exact Gr.after (t_L_law_J1398 h) hk
      · cases h
    rcases ite_e h with ⟨_, h⟩ | ⟨_, h⟩
    · obtain ⟨x422, e422, h⟩ := bd h
      obtain ⟨x427, e427, h⟩ := bd h
      obtain ⟨x432, e432, h⟩ := bd h
      obtain ⟨x433, e433, h⟩ := bd h
      have hk := Gr.after (Gr.of (t_X10_knows e433)) hk
      obtain ⟨x441, e441, h⟩ := bd h
      obtain ⟨x446, e446, h⟩ := bd h
      obtain ⟨x451, e451, h⟩ := bd h
      obtain ⟨x452, e452, h⟩ := bd h
      have hk := Gr.after (Gr.of (t_X11_knows e452)) hk
      rcases ite_e h with ⟨_, h⟩ | ⟨_, h⟩
      · exact Gr.after (t_L_law_J1398 h) hk
      · cases h
    rcases ite_e h with ⟨_, h⟩ | ⟨_, h⟩
    · obtain ⟨x465, e465, h⟩ := bd h
      obtain ⟨x470, e470, h⟩ := bd h
      obtain ⟨x475, e475, h⟩ := bd h
      obtain ⟨x480, e480, h⟩ := bd h
      obtain ⟨x481, e481, h⟩ := bd h
      have hk := Gr.after (Gr.of (t_X10_comes e481)) hk
      obtain ⟨x489, e489, h⟩ := bd h
      obtain ⟨x494, e494, h⟩ := bd h
      obtain ⟨x499, e499, h⟩ := bd h
      obtain ⟨x504, e504, h⟩ := bd h
      obtain ⟨x505, e505, h⟩ := bd h
      have hk := Gr.after (Gr.of (t_X11_comes_ e505)) hk
      rcases ite_e h with ⟨_, h⟩ | ⟨_, h⟩
      · exact Gr.after (t_L_law_J1398 h) hk
      · cases h
    rcases ite_e h with ⟨_, h⟩ | ⟨_, h⟩
    · obtain ⟨x518, e518, h⟩ := bd h
      obtain ⟨x523, e523, h⟩ := bd h
      obtain ⟨x524, e524, h⟩ := bd h
      have hk := Gr.after (Gr.of (t_X10_all e524)) hk
      obtain ⟨x532, e532, h⟩ := bd h
      obtain ⟨x537, e537, h⟩ := bd h
      obtain ⟨x538, e538, h⟩ := bd h
      have hk := Gr.after (Gr.of (t_X11_all e538)) hk
      rcases ite_e h with ⟨_, h⟩ | ⟨_, h⟩
      · exact Gr.after (t_L_law_J1398 h) hk
      · cases h
    rcases ite_e h with ⟨_, h⟩ | ⟨_, h⟩
    · obtain ⟨x547, e547, h⟩ := bd h
      have hk := Gr.after (Gr.of (t_X10_judge e547)) hk
      obtain ⟨x551, e551, h⟩ := bd h
      have hk := Gr.after (Gr.of (t_X11_judge e551)) hk
      rcases ite_e h with ⟨_, h⟩ | ⟨_, h⟩
      · exact Gr.after (t_L_law_J1398 h) hk
      · cases h
    rcases ite_e h with ⟨_, h⟩ | ⟨_, h⟩
    · obtain ⟨x564, e564, h⟩ := bd h
      obtain ⟨x569, e569, h⟩ := bd h
      obtain ⟨x574, e574, h⟩ := bd h
      obtain ⟨x579, e579, h⟩ := bd h
      obtain ⟨x584, e584, h⟩ := bd h
      obtain ⟨x585, e585, h⟩ := bd h
      have hk := Gr.after (Gr.of (t_X10_act e585)) hk
      obtain ⟨x593, e593, h⟩ := bd h
      obtain ⟨x598, e598, h⟩ := bd h
      obtain ⟨x603, e603, h⟩ := bd h
      obtain ⟨x608, e608, h⟩ := bd h
      obtain ⟨x613, e613, h⟩ := bd h
      obtain ⟨x614, e614, h⟩ := bd h
      have hk := Gr.after (Gr.of (t_X11_act e614)) hk
      rcases ite_e h with ⟨_, h⟩ | ⟨_, h⟩
      · exact Gr.after (t_L_law_J1398 h) hk
      · cases h
    rcases ite_e h with ⟨_, h⟩ | ⟨_, h⟩
    · obtain ⟨x627, e627, h⟩ := bd h
      obtain ⟨x632, e632, h⟩ := bd h
      obtain ⟨x637, e637, h⟩ := bd h
      obtain ⟨x638, e638, h⟩ := bd h
      have hk := Gr.after (Gr.of (t_X10_right e638)) hk
      obtain ⟨x646, e646, h⟩ := bd h
      obtain ⟨x651, e651, h⟩ := bd h
      obtain ⟨x656, e656, h⟩ := bd h
      obtain ⟨x657, e657, h⟩ := bd h
      have hk := Gr.after (Gr.of (t_X11_right e657)) hk
      rcases ite_e h with ⟨_, h⟩ | ⟨_, h⟩
      · exact Gr.after (t_L_law_J1398 h) hk
      · cases h
    rcases ite_e h with ⟨_, h⟩ | ⟨_, h⟩
    · obtain ⟨x670, e670, h⟩ := bd h
      obtain ⟨x675, e675, h⟩ := bd h
      obtain ⟨x676, e676, h⟩ := bd h
      have hk := Gr.after (t_X10_fit e676) hk
      obtain ⟨x684, e684, h⟩ := bd h
      obtain ⟨x689, e689, h⟩ := bd h
      obtain ⟨x690, e690, h⟩ := bd h
      have hk := Gr.after (Gr.of (t_X11_fit e690)) hk
      rcases ite_e h with ⟨_, h⟩ | ⟨_, h⟩
      · exact Gr.after (t_L_law_J1398 h) hk
      · cases h
    rcases ite_e h with ⟨_, h⟩ | ⟨_, h⟩
    · obtain ⟨x703, e703, h⟩ := bd h
      obtain ⟨x708, e708, h⟩ := bd h
      obtain ⟨x709, e709, h⟩ := bd h
      have hk := Gr.after (t_X10_sure e709) hk
      obtain ⟨x717, e717, h⟩ := bd h
      obtain ⟨x722, e722, h⟩ := bd h
      obtain ⟨x723, e723, h⟩ := bd h
      have hk := Gr.after (Gr.of (t_X11_sure e723)) hk
      rcases ite_e h with ⟨_, h⟩ | ⟨_, h⟩
      · exact Gr.after (t_L_law_J1398 h) hk
      · cases h
    rcases ite_e h with ⟨_, h⟩ | ⟨_, h⟩
    · obtain ⟨x736, e736, h⟩ := bd h
      obtain ⟨x737, e737, h⟩ := bd h
      have hk := Gr.after (t_X10_ask e737) hk
      obtain ⟨x745, e745, h⟩ := bd h
      obtain ⟨x746, e746, h⟩ := bd h
      have hk := Gr.after (Gr.of (t_X11_ask e746)) hk
      rcases ite_e h with ⟨_, h⟩ | ⟨_, h⟩
      · exact Gr.after (t_L_law_J1398 h) hk
      · cases h
    rcases ite_e h with ⟨_, h⟩ | ⟨_, h⟩
    · obtain ⟨x759, e759, h⟩ := bd h
      obtain ⟨x764, e764, h⟩ := bd h
      obtain ⟨x769, e769, h⟩ := bd h
      obtain ⟨x774, e774, h⟩ := bd h
      obtain ⟨x775, e775, h⟩ := bd h
      have hk := Gr.after (t_X10_knowers e775) hk
      obtain ⟨x783, e783, h⟩ := bd h
      obtain ⟨x788, e788, h⟩ := bd h
      obtain ⟨x793, e793, h⟩ := bd h
      obtain ⟨x798, e798, h⟩ := bd h
      obtain ⟨x799, e799, h⟩ := bd h
      have hk := Gr.after (Gr.of (t_X11_knowers e799)) hk
      rcases ite_e h with ⟨_, h⟩ | ⟨_, h⟩
      · exact Gr.after (t_L_law_J1398 h) hk
      · cases h
    rcases ite_e h with ⟨_, h⟩ | ⟨_, h⟩
    · obtain ⟨x808, e808, h⟩ := bd h
      obtain ⟨x812, e812, h⟩ := bd h
      rcases ite_e h with ⟨_, h⟩ | ⟨_, h⟩
      · exact Gr.after (t_L_law_J1398 h) hk
      · cases h
    rcases ite_e h with ⟨_, h⟩ | ⟨_, h⟩
    · obtain ⟨x825, e825, h⟩ := bd h
      obtain ⟨x826, e826, h⟩ := bd h
      have hk := Gr.after (Gr.of (t_X10_met e826)) hk
      obtain ⟨x834, e834, h⟩ := bd h
      obtain ⟨x835, e835, h⟩ := bd h
      have hk := Gr.after (Gr.of (t_X11_met e835)) hk
      rcases ite_e h with ⟨_, h⟩ | ⟨_, h⟩
      · exact Gr.after (t_L_law_J1398 h) hk
      · cases h
    rcases ite_e h with ⟨_, h⟩ | ⟨_, h⟩
    · obtain ⟨x844, e844, h⟩ := bd h
      have hk := Gr.after (Gr.of (t_X10_plan e844)) hk
      obtain ⟨x848, e848, h⟩ := bd h
      have hk := Gr.after (Gr.of (t_X11_plan e848)) hk
      rcases ite_e h with ⟨_, h⟩ | ⟨_, h⟩
      · exact Gr.after (t_L_law_J1398 h) hk
      · cases h
    rcases ite_e h with ⟨_, h⟩ | ⟨_, h⟩
    · obtain ⟨x861, e861, h⟩ := bd h
      obtain ⟨x866, e866, h⟩ := bd h
      obtain ⟨x871, e871, h⟩ := bd h
      obtain ⟨x872, e872, h⟩ := bd h
      have hk := Gr.after (Gr.of (t_X10_said e872)) hk
      obtain ⟨x880, e880, h⟩ := bd h
      obtain ⟨x885, e885, h⟩ := bd h
      obtain ⟨x890, e890, h⟩ := bd h
      obtain ⟨x891, e891, h⟩ := bd h
      have hk := Gr.after (Gr.of (t_X11_said e891)) hk
      rcases ite_e h with ⟨_, h⟩ | ⟨_, h⟩
      · exact Gr.after (t_L_law_J1398 h) hk
      · cases h
    rcases ite_e h with ⟨_, h⟩ | ⟨_, h⟩
    · obtain ⟨x904, e904, h⟩ := bd h
      obtain ⟨x909, e909, h⟩ := bd h
      obtain ⟨x914, e914, h⟩ := bd h
      obtain ⟨x919, e919, h⟩ := bd h
      obtain ⟨x920, e920, h⟩ := bd h
      have hk := Gr.after (Gr.of (t_X10_over e920)) hk
      obtain ⟨x928, e928, h⟩ := bd h
      obtain ⟨x933, e933, h⟩ := bd h
      obtain ⟨x938, e938, h⟩ := bd h
      obtain ⟨x943, e943, h⟩ := bd h
      obtain ⟨x944, e944, h⟩ := bd h
      have hk := Gr.after (Gr.of (t_X11_over e944)) hk
      rcases ite_e h with ⟨_, h⟩ | ⟨_, h⟩
      · exact Gr.after (t_L_law_J1398 h) hk
      · cases h
    rcases ite_e h with ⟨_, h⟩ | ⟨_, h⟩
    · obtain ⟨x957, e957, h⟩ := bd h
      obtain ⟨x962, e962, h⟩ := bd h
      obtain ⟨x963, e963, h⟩ := bd h
      have hk := Gr.after (Gr.of (t_X10_skill e963)) hk
      obtain ⟨x971, e971, h⟩ := bd h
      obtain ⟨x976, e976, h⟩ := bd h
      obtain ⟨x977, e977, h⟩ := bd h
      have hk := Gr.after (Gr.of (t_X11_skill e977)) hk
      rcases ite_e h with ⟨_, h⟩ | ⟨_, h⟩
      · exact Gr.after (t_L_law_J1398 h) hk
      · cases h
    rcases ite_e h with ⟨_, h⟩ | ⟨_, h⟩
    · obtain ⟨x990, e990, h⟩ := bd h
      obtain ⟨x991, e991, h⟩ := bd h
      obtain ⟨x999, e999, h⟩ := bd h
      obtain ⟨x1000, e1000, h⟩ := bd h
      rcases ite_e h with ⟨_, h⟩ | ⟨_, h⟩
      · exact Gr.after (t_L_law_J1398 h) hk
      · cases h
    rcases ite_e h with ⟨_, h⟩ | ⟨_, h⟩
    · obtain ⟨x1013, e1013, h⟩ := bd h
      obtain ⟨x1018, e1018, h⟩ := bd h
      obtain ⟨x1019, e1019, h⟩ := bd h
      obtain ⟨x1027, e1027, h⟩ := bd h
      obtain ⟨x1032, e1032, h⟩ := bd h
      obtain ⟨x1033, e1033, h⟩ := bd h
      rcases ite_e h with ⟨_, h⟩ | ⟨_, h⟩
      · exact Gr.after (t_L_law_J1398 h) hk
      · cases h
    rcases ite_e h with ⟨_, h⟩ | ⟨_, h⟩
    · obtain ⟨x1046, e1046, h⟩ := bd h
      obtain ⟨x1051, e1051, h⟩ := bd h
      obtain ⟨x1056, e1056, h⟩ := bd h
      obtain ⟨x1057, e1057, h⟩ := bd h
      have hk := Gr.after (Gr.of (t_X10_kept e1057)) hk
      obtain ⟨x1065, e1065, h⟩ := bd h
      obtain ⟨x1070, e1070, h⟩ := bd h
      obtain ⟨x1075, e1075, h⟩ := bd h
      obtain ⟨x1076, e1076, h⟩ := bd h
      have hk := Gr.after (Gr.of (t_X11_kept e1076)) hk
      rcases ite_e h with ⟨_, h⟩ | ⟨_, h⟩
      · exact Gr.after (t_L_law_J1398 h) hk
      · cases h
    rcases ite_e h with ⟨_, h⟩ | ⟨_, h⟩
    · obtain ⟨x1089, e1089, h⟩ := bd h
      obtain ⟨x1094, e1094, h⟩ := bd h
      obtain ⟨x1099, e1099, h⟩ := bd h
      obtain ⟨x1104, e1104, h⟩ := bd h
      rcases ite_e h with ⟨_, h⟩ | ⟨_, h⟩
      · exact Gr.after (t_L_law_J1113 h) hk
      · exact Gr.after (t_L_law_J1113 h) hk
    rcases ite_e h with ⟨_, h⟩ | ⟨_, h⟩
    · obtain ⟨x1158, e1158, h⟩ := bd h
      obtain ⟨x1163, e1163, h⟩ := bd h
      rcases ite_e h with ⟨_, h⟩ | ⟨_, h⟩
      · exact Gr.after (t_L_law_J1172 h) hk
      · exact Gr.after (t_L_law_J1172 h) hk
    rcases ite_e h with ⟨_, h⟩ | ⟨_, h⟩
    · obtain ⟨x1203, e1203, h⟩ := bd h
      have hk := Gr.after (Gr.of (t_X10_rings e1203)) hk
      obtain ⟨x1207, e1207, h⟩ := bd h
      have hk := Gr.after (Gr.of (t_X11_rings e1207)) hk
      rcases ite_e h with ⟨_, h⟩ | ⟨_, h⟩
      · exact Gr.after (t_L_law_J1398 h) hk
      · cases h
    rcases ite_e h with ⟨_, h⟩ | ⟨_, h⟩
    · obtain ⟨x1221, e1221, h⟩ := bd h
      obtain ⟨x1226, e1226, h⟩ := bd h
      obtain ⟨x1227, e1227, h⟩ := bd h
      have hk := Gr.after (Gr.of (t_X10_parts e1227)) hk
      obtain ⟨x1235, e1235, h⟩ := bd h
      obtain ⟨x1240, e1240, h⟩ := bd h
      obtain ⟨x1241, e1241, h⟩ := bd h
      have hk := Gr.after (Gr.of (t_X11_parts e1241)) hk
      rcases ite_e h with ⟨_, h⟩ | ⟨_, h⟩
      · exact Gr.after (t_L_law_J1398 h) hk
      · cases h
    rcases ite_e h with ⟨_, h⟩ | ⟨_, h⟩
    · obtain ⟨x1255, e1255, h⟩ := bd h
      obtain ⟨x1256, e1256, h⟩ := bd h
      have hk := Gr.after (Gr.of (t_X10_begin e1256)) hk
      obtain ⟨x1264, e1264, h⟩ := bd h
      obtain ⟨x1265, e1265, h⟩ := bd h
      have hk := Gr.after (Gr.of (t_X11_begin_ e1265)) hk
      rcases ite_e h with ⟨_, h⟩ | ⟨_, h⟩
      · exact Gr.after (t_L_law_J1398 h) hk
      · cases h
    rcases ite_e h with ⟨_, h⟩ | ⟨_, h⟩
    · obtain ⟨x1278, e1278, h⟩ := bd h
      obtain ⟨x1279, e1279, h⟩ := bd h
      have hk := Gr.after (Gr.of (t_X10_go e1279)) hk
      obtain ⟨x1287, e1287, h⟩ := bd h
      obtain ⟨x1288, e1288, h⟩ := bd h
      have hk := Gr.after (Gr.of (t_X11_go e1288)) hk
      rcases ite_e h with ⟨_, h⟩ | ⟨_, h⟩
      · exact Gr.after (t_L_law_J1398 h) hk
      · cases h
    rcases ite_e h with ⟨_, h⟩ | ⟨_, h⟩
    · obtain ⟨x1301, e1301, h⟩ := bd h
      obtain ⟨x1306, e1306, h⟩ := bd h
      obtain ⟨x1307, e1307, h⟩ := bd h
      obtain ⟨x1315, e1315, h⟩ := bd h
      obtain ⟨x1320, e1320, h⟩ := bd h
      obtain ⟨x1321, e1321, h⟩ := bd h
      rcases ite_e h with ⟨_, h⟩ | ⟨_, h⟩
      · exact Gr.after (t_L_law_J1398 h) hk
      · cases h
    rcases ite_e h with ⟨_, h⟩ | ⟨_, h⟩
    · obtain ⟨x1334, e1334, h⟩ := bd h
      obtain ⟨x1335, e1335, h⟩ := bd h
      have hk := Gr.after (Gr.of (t_X10_keep e1335)) hk
      obtain ⟨x1343, e1343, h⟩ := bd h
      obtain ⟨x1344, e1344, h⟩ := bd h
      have hk := Gr.after (Gr.of (t_X11_keep e1344)) hk
      rcases ite_e h with ⟨_, h⟩ | ⟨_, h⟩
      · exact Gr.after (t_L_law_J1398 h) hk
      · cases h
    rcases ite_e h with ⟨_, h⟩ | ⟨_, h⟩
    · obtain ⟨x1357, e1357, h⟩ := bd h
      obtain ⟨x1358, e1358, h⟩ := bd h
      have hk := Gr.after (Gr.of (t_X10_take e1358)) hk
      obtain ⟨x1366, e1366, h⟩ := bd h
      obtain ⟨x1367, e1367, h⟩ := bd h
      have hk := Gr.after (Gr.of (t_X11_take e1367)) hk
      rcases ite_e h with ⟨_, h⟩ | ⟨_, h⟩
      · exact Gr.after (t_L_law_J1398 h) hk
      · cases h
    rcases ite_e h with ⟨_, h⟩ | ⟨_, h⟩
    · obtain ⟨x1380, e1380, h⟩ := bd h
      obtain ⟨x1381, e1381, h⟩ := bd h
      obtain ⟨x1389, e1389, h⟩ := bd h
      obtain ⟨x1390, e1390, h⟩ := bd h
      rcases ite_e h with ⟨_, h⟩ | ⟨_, h⟩
      · exact Gr.after (t_L_law_J1398 h) hk
      · cases h
    exact Gr.after (t_L_law_J1398 h) hk
theorem t_L_law_W18 {l0 : Nat} {l1 : Nat} {l2 : Nat} {s18 : Int32 × Mm} {b : Mm} (h : whl (f_L_law_L18 l0 l1 l2) s18 = some b) : Gr ((fun (q : Int32 × Mm) => q.2) s18) ((fun (q : Mm) => q) b) :=
  whl_gr (g := (fun (q : Int32 × Mm) => q.2)) (gb := (fun (q : Mm) => q)) (fun s x hx => t_L_law_L18 hx) h
theorem t_L_law {l0 : Nat} {μ : Mm} {x : (Int32 × Mm)} (h : f_L_law l0 μ = some x) : Gr μ ((fun (q : (Int32 × Mm)) => q.2) x) := by
  have hk : Gr μ μ := Gr.rfl
  obtain ⟨n0, e0, h⟩ := bd h
  have hk := Gr.trans hk (gr_O e0)
  obtain ⟨x4, e4, h⟩ := bd h
  have hk := Gr.after (t_X10_init e4) hk
  obtain ⟨n8, e8, h⟩ := bd h
  have hk := Gr.trans hk (gr_O e8)
  obtain ⟨x12, e12, h⟩ := bd h
  have hk := Gr.after (t_X11_init e12) hk
  obtain ⟨b18, w18, h⟩ := bd h
  have hk := Gr.after (t_L_law_W18 w18) hk
  have h := Option.some.inj h
  subst h
  exact hk
abbrev Rn_L_law (nm : String) (b : Nat) (G : Gv) (c s : Nat) (pc : Nat) (lv : List (Nat × Value)) (st : List Value) (μ : Mm) : Prop := Rn G RL cL_law 4 ret nm room_1 (Zl G b) c s pc lv st μ
set_option maxRecDepth 100000 in
set_option maxHeartbeats 4000000 in
theorem w_L_law {G : Gv} {nm : String} (l0 : Nat) (μ : Mm) {r : (Int32 × Mm)} (hx : f_L_law l0 μ = some r) (hn : mm_N r.2 ≤ mm_N μ + 600000) (hz : mm_Z r.2 ≤ mm_Z μ + 7302250) : Rn_L_law nm l0 G 0 0 0 [(0, .ref l0)] [] μ := by
  have hN : Nz μ μ 0 0 := ⟨rfl, rfl⟩
  have hC : 0 ≤ 600000 ∧ 0 ≤ 7302250 := ⟨Nat.zero_le _, Nat.zero_le _⟩
  have hB : ∀ x : (Int32 × Mm), x = r → mm_N ((fun (q : (Int32 × Mm)) => q.2) x) ≤ mm_N μ + 600000 ∧ mm_Z ((fun (q : (Int32 × Mm)) => q.2) x) ≤ mm_Z μ + 7302250 := fun x e => by subst e; exact ⟨hn, hz⟩
  show Rn_L_law nm l0 G 0 0 0 [(0, .ref l0)] [] μ
  have h : Sat (f_L_law l0 μ) (fun x => x = r) := ⟨_, hx, rfl⟩
  obtain ⟨n0, e0, h⟩ := Sat_bind h
  have hN := nz_O e0 hN (by decide)
  have hC := bud_of hN (by
    obtain ⟨x, h, hx⟩ := id h
    have hk : Gr (n0.2) (n0.2) := Gr.rfl
    refine bud_le (?_ : Gr _ ((fun (q : (Int32 × Mm)) => q.2) x)) (hB x hx)
    obtain ⟨x4, e4, h⟩ := bd h
    have hk := Gr.after (t_X10_init e4) hk
    obtain ⟨n8, e8, h⟩ := bd h
    have hk := Gr.trans hk (gr_O e8)
    obtain ⟨x12, e12, h⟩ := bd h
    have hk := Gr.after (t_X11_init e12) hk
    obtain ⟨b18, w18, h⟩ := bd h
    have hk := Gr.after (t_L_law_W18 w18) hk
    have h := Option.some.inj h
    subst h
    exact hk)
  refine r_newO e0 ⟨by decide, by decide⟩ kl_L_7 (by decide) hC dL_law_0 ?_
  refine r_dup dL_law_3 rfl ?_
  obtain ⟨x4, e4, h⟩ := Sat_bind h
  have hN := nz_call (t_X10_init e4) hN
  have hC := bud_of hN (by
    obtain ⟨x, h, hx⟩ := id h
    have hk : Gr (x4) (x4) := Gr.rfl
    refine bud_le (?_ : Gr _ ((fun (q : (Int32 × Mm)) => q.2) x)) (hB x hx)
    obtain ⟨n8, e8, h⟩ := bd h
    have hk := Gr.trans hk (gr_O e8)
    obtain ⟨x12, e12, h⟩ := bd h
    have hk := Gr.after (t_X11_init e12) hk
    obtain ⟨b18, w18, h⟩ := bd h
    have hk := Gr.after (t_L_law_W18 w18) hk
    have h := Option.some.inj h
    subst h
    exact hk)
  refine r_bI [] [.ref n0.1] (m_X10_init n0.1 n0.2 e4 (mm_N x4 - mm_N n0.2) (mm_Z x4 - mm_Z n0.2) gr_N gr_Z) ck_X10_init lk_L_9 in_X10_init rfl rfl rfl (Nat.le_of_ble_eq_true rfl) ⟨Nat.le_of_ble_eq_true rfl, Nat.le_of_ble_eq_true rfl⟩ hC dL_law_4 ?_
  refine r_astore_n (lv' := [(1, .ref n0.1), (0, .ref l0)]) dL_law_7 rfl (by decide) rfl ?_
  obtain ⟨n8, e8, h⟩ := Sat_bind h
  have hN := nz_O e8 hN (by decide)
  have hC := bud_of hN (by
    obtain ⟨x, h, hx⟩ := id h
    have hk : Gr (n8.2) (n8.2) := Gr.rfl
    refine bud_le (?_ : Gr _ ((fun (q : (Int32 × Mm)) => q.2) x)) (hB x hx)
    obtain ⟨x12, e12, h⟩ := bd h
    have hk := Gr.after (t_X11_init e12) hk
    obtain ⟨b18, w18, h⟩ := bd h
    have hk := Gr.after (t_L_law_W18 w18) hk
    have h := Option.some.inj h
    subst h
    exact hk)
  refine r_newO e8 ⟨by decide, by decide⟩ kl_L_10 (by decide) hC dL_law_8 ?_
  refine r_dup dL_law_11 rfl ?_
  obtain ⟨x12, e12, h⟩ := Sat_bind h
  have hN := nz_call (t_X11_init e12) hN
  have hC := bud_of hN (by
    obtain ⟨x, h, hx⟩ := id h
    have hk : Gr (x12) (x12) := Gr.rfl
    refine bud_le (?_ : Gr _ ((fun (q : (Int32 × Mm)) => q.2) x)) (hB x hx)
    obtain ⟨b18, w18, h⟩ := bd h
    have hk := Gr.after (t_L_law_W18 w18) hk
    have h := Option.some.inj h
    subst h
    exact hk)
  refine r_bI [] [.ref n8.1] (m_X11_init n8.1 n8.2 e12 (mm_N x12 - mm_N n8.2) (mm_Z x12 - mm_Z n8.2) gr_N gr_Z) ck_X11_init lk_L_12 in_X11_init rfl rfl rfl (Nat.le_of_ble_eq_true rfl) ⟨Nat.le_of_ble_eq_true rfl, Nat.le_of_ble_eq_true rfl⟩ hC dL_law_12 ?_
  refine r_astore_n (lv' := [(2, .ref n8.1), (1, .ref n0.1), (0, .ref l0)]) dL_law_15 rfl (by decide) rfl ?_
  refine r_iconst (v := 0) dL_law_16 (by decide) ?_
  refine r_istore_n (lv' := [(3, .int (0 : Int32)), (2, .ref n8.1), (1, .ref n0.1), (0, .ref l0)]) dL_law_17 rfl (by decide) rfl ?_
  refine r_sub (lv' := [(0, .ref l0), (1, .ref n0.1), (2, .ref n8.1), (3, .int (0 : Int32))]) [3, 2, 1, 0] rfl ?_
  refine whl_B (s0 := (((0 : Int32), x12) : Int32 × Mm)) (g := (fun (q : Int32 × Mm) => q.2)) (gb := (fun (q : Mm) => q)) (Nr := mm_N μ + 600000) (Zr := mm_Z μ + 7302250) (RR := fun (s18 : Int32 × Mm) => ∀ (c18 z18 : Nat), Nz μ s18.2 c18 z18 → c18 ≤ 600000 ∧ z18 ≤ 7302250 → Rn_L_law nm l0 G c18 z18 18 [(0, .ref l0), (1, .ref n0.1), (2, .ref n8.1), (3, .int s18.1)] [] s18.2) (fun s x hx => t_L_law_L18 hx) ?_ ?_ (Sat_bindK h) (0 + 1 + (mm_N x4 - mm_N n0.2) + 1 + (mm_N x12 - mm_N n8.2)) (0 + cfn 11 + (mm_Z x4 - mm_Z n0.2) + cfn 12 + (mm_Z x12 - mm_Z n8.2)) hN hC
  · intro b18 hb
    obtain ⟨x, h, hx⟩ := hb
    have hk : Gr ((fun (q : Mm) => q) b18) ((fun (q : Mm) => q) b18) := Gr.rfl
    refine bud_le (?_ : Gr _ ((fun (q : (Int32 × Mm)) => q.2) x)) (hB x hx)
    have h := Option.some.inj h
    subst h
    exact hk
  · intro s18 K18 hI18 hX18 hB18 h c18 z18 hN hC
    have J1398 : ∀ (l3_1398 : Int32) (μ_1398 : Mm), ∀ (c1398 z1398 : Nat), Nz μ μ_1398 c1398 z1398 → c1398 ≤ 600000 ∧ z1398 ≤ 7302250 → Sat (f_L_law_J1398 l0 n0.1 n8.1 l3_1398 μ_1398) K18 → Rn_L_law nm l0 G c1398 z1398 1398 [(0, .ref l0), (1, .ref n0.1), (2, .ref n8.1), (3, .int l3_1398)] [] μ_1398 := by
      intro l3_1398 μ_1398 c1398 z1398 hN hC h
      obtain ⟨v1398, e1398, h⟩ := Sat_bind h
      refine r_iinc (j := 3) (v := v1398) (lv' := [(3, .int v1398), (0, .ref l0), (1, .ref n0.1), (2, .ref n8.1)]) dL_law_1398 rfl (iinc_v e1398 (by decide)) (by decide) rfl ?_
      refine r_goto 18 dL_law_1401 (by decide) ?_
      exact r_sub [1, 2, 3, 0] rfl (hI18 _ (Sat_some h) c1398 z1398 hN hC)
    have J1145 : ∀ (l3_1145 : Int32) (k0_1145 : Int32) (k1_1145 : Nat) (k2_1145 : Int32) (k3_1145 : Int32) (k4_1145 : Int32) (k5_1145 : Int32) (μ_1145 : Mm), ∀ (c1145 z1145 : Nat), Nz μ μ_1145 c1145 z1145 → c1145 ≤ 600000 ∧ z1145 ≤ 7302250 → Sat (f_L_law_J1145 l0 n0.1 n8.1 l3_1145 k0_1145 k1_1145 k2_1145 k3_1145 k4_1145 k5_1145 μ_1145) K18 → Rn_L_law nm l0 G c1145 z1145 1145 [(0, .ref l0), (1, .ref n0.1), (2, .ref n8.1), (3, .int l3_1145)] [.int k5_1145, .int k4_1145, .int k3_1145, .int k2_1145, .ref k1_1145, .int k0_1145] μ_1145 := by
      intro l3_1145 k0_1145 k1_1145 k2_1145 k3_1145 k4_1145 k5_1145 μ_1145 c1145 z1145 hN hC h
      obtain ⟨x1145, e1145, h⟩ := Sat_bind h
      refine r_cV (t := 12) [.int k2_1145, .int k3_1145, .int k4_1145, .int k5_1145] [.int k0_1145] (m_X11_lot k1_1145 k2_1145 k3_1145 k4_1145 k5_1145 μ_1145 e1145) ck_X11_lot lk_L_135 in_X11_lot se_X11_lot (kd_of e1145) ⟨rfl, by decide, by decide⟩ rfl rfl (Nat.le_of_ble_eq_true rfl) ⟨Nat.le_of_ble_eq_true rfl, Nat.le_of_ble_eq_true rfl⟩ hC dL_law_1145 ?_
      have hN := nz_tl (t_X11_lot e1145) hN
      refine r_icmp_eq 1398 dL_law_1148 (by decide) (fun c1148 => ?_) (fun c1148 => ?_)
      · have h := Sat_pos c1148 h
        exact r_sub [0, 1, 2, 3] rfl (J1398 l3_1145 x1145.2 c1145 z1145 hN hC h)
      · have h := Sat_neg c1148 h
        exact absurd h Sat_none
    have J1113 : ∀ (l3_1113 : Int32) (k0_1113 : Nat) (k1_1113 : Int32) (k2_1113 : Int32) (k3_1113 : Int32) (k4_1113 : Int32) (μ_1113 : Mm), ∀ (c1113 z1113 : Nat), Nz μ μ_1113 c1113 z1113 → c1113 ≤ 600000 ∧ z1113 ≤ 7302250 → Sat (f_L_law_J1113 l0 n0.1 n8.1 l3_1113 k0_1113 k1_1113 k2_1113 k3_1113 k4_1113 μ_1113) K18 → Rn_L_law nm l0 G c1113 z1113 1113 [(0, .ref l0), (1, .ref n0.1), (2, .ref n8.1), (3, .int l3_1113)] [.int k4_1113, .int k3_1113, .int k2_1113, .int k1_1113, .ref k0_1113] μ_1113 := by
      intro l3_1113 k0_1113 k1_1113 k2_1113 k3_1113 k4_1113 μ_1113 c1113 z1113 hN hC h
      obtain ⟨x1113, e1113, h⟩ := Sat_bind h
      have hN := nz_call (t_X10_lot e1113) hN
      have hC := bud_of hN (by
        obtain ⟨x, h, hx⟩ := id h
        have hk : Gr (x1113.2) (x1113.2) := Gr.rfl
        refine bud_le (?_ : Gr _ ((sm (fun (q : Int32 × Mm) => q.2) (fun (q : Mm) => q)) x)) (hB18 x hx)
        obtain ⟨x1121, e1121, h⟩ := bd h
        obtain ⟨x1126, e1126, h⟩ := bd h
        obtain ⟨x1131, e1131, h⟩ := bd h
        obtain ⟨x1136, e1136, h⟩ := bd h
        rcases ite_e h with ⟨_, h⟩ | ⟨_, h⟩
        · exact Gr.after (t_L_law_J1145 h) hk
        · exact Gr.after (t_L_law_J1145 h) hk)
      refine r_bV (t := 11) [.int k1_1113, .int k2_1113, .int k3_1113, .int k4_1113] [] (m_X10_lot k0_1113 k1_1113 k2_1113 k3_1113 k4_1113 μ_1113 e1113 (mm_N x1113.2 - mm_N μ_1113) (mm_Z x1113.2 - mm_Z μ_1113) gr_N gr_Z) ck_X10_lot lk_L_131 in_X10_lot se_X10_lot (kd_of e1113) ⟨rfl, by decide, by decide⟩ rfl rfl (Nat.le_of_ble_eq_true rfl) ⟨Nat.le_of_ble_eq_true rfl, Nat.le_of_ble_eq_true rfl⟩ hC dL_law_1113 ?_
      refine r_aload_n dL_law_1116 2 rfl ?_
      refine r_aload_n dL_law_1117 0 rfl ?_
      refine r_iload_n dL_law_1118 3 rfl ?_
      refine r_iconst (v := 1) dL_law_1119 (by decide) ?_
      refine r_iadd dL_law_1120 ?_
      obtain ⟨x1121, e1121, h⟩ := Sat_bind h
      refine r_sld e1121 dL_law_1121 ?_
      refine r_aload_n dL_law_1122 0 rfl ?_
      refine r_iload_n dL_law_1123 3 rfl ?_
      refine r_iconst (v := 2) dL_law_1124 (by decide) ?_
      refine r_iadd dL_law_1125 ?_
      obtain ⟨x1126, e1126, h⟩ := Sat_bind h
      refine r_sld e1126 dL_law_1126 ?_
      refine r_aload_n dL_law_1127 0 rfl ?_
      refine r_iload_n dL_law_1128 3 rfl ?_
      refine r_iconst (v := 3) dL_law_1129 (by decide) ?_
      refine r_iadd dL_law_1130 ?_
      obtain ⟨x1131, e1131, h⟩ := Sat_bind h
      refine r_sld e1131 dL_law_1131 ?_
      refine r_aload_n dL_law_1132 0 rfl ?_
      refine r_iload_n dL_law_1133 3 rfl ?_
      refine r_iconst (v := 4) dL_law_1134 (by decide) ?_
      refine r_iadd dL_law_1135 ?_
      obtain ⟨x1136, e1136, h⟩ := Sat_bind h
      refine r_sld e1136 dL_law_1136 ?_
      refine r_if_eq 1144 dL_law_1137 (by decide) (fun c1137 => ?_) (fun c1137 => ?_)
      · have h := Sat_pos c1137 h
        refine r_iconst (v := 0) dL_law_1144 (by decide) ?_
        exact r_sub [0, 1, 2, 3] rfl (J1145 l3_1113 x1113.1 n8.1 x1121 x1126 x1131 (0 : Int32) x1113.2 (c1113 + (mm_N x1113.2 - mm_N μ_1113)) (z1113 + (mm_Z x1113.2 - mm_Z μ_1113)) hN hC h)
      · have h := Sat_neg c1137 h
        refine r_iconst (v := 1) dL_law_1140 (by decide) ?_
        refine r_goto 1145 dL_law_1141 (by decide) ?_
        exact r_sub [0, 1, 2, 3] rfl (J1145 l3_1113 x1113.1 n8.1 x1121 x1126 x1131 (1 : Int32) x1113.2 (c1113 + (mm_N x1113.2 - mm_N μ_1113)) (z1113 + (mm_Z x1113.2 - mm_Z μ_1113)) hN hC h)
    have J1194 : ∀ (l3_1194 : Int32) (k0_1194 : Int32) (k1_1194 : Nat) (k2_1194 : Int32) (k3_1194 : Int32) (μ_1194 : Mm), ∀ (c1194 z1194 : Nat), Nz μ μ_1194 c1194 z1194 → c1194 ≤ 600000 ∧ z1194 ≤ 7302250 → Sat (f_L_law_J1194 l0 n0.1 n8.1 l3_1194 k0_1194 k1_1194 k2_1194 k3_1194 μ_1194) K18 → Rn_L_law nm l0 G c1194 z1194 1194 [(0, .ref l0), (1, .ref n0.1), (2, .ref n8.1), (3, .int l3_1194)] [.int k3_1194, .int k2_1194, .ref k1_1194, .int k0_1194] μ_1194 := by
      intro l3_1194 k0_1194 k1_1194 k2_1194 k3_1194 μ_1194 c1194 z1194 hN hC h
      obtain ⟨x1194, e1194, h⟩ := Sat_bind h
      refine r_cV (t := 12) [.int k2_1194, .int k3_1194] [.int k0_1194] (m_X11_lotDay k1_1194 k2_1194 k3_1194 μ_1194 e1194) ck_X11_lotDay lk_L_140 in_X11_lotDay se_X11_lotDay (kd_of e1194) ⟨rfl, by decide, by decide⟩ rfl rfl (Nat.le_of_ble_eq_true rfl) ⟨Nat.le_of_ble_eq_true rfl, Nat.le_of_ble_eq_true rfl⟩ hC dL_law_1194 ?_
      have hN := nz_tl (t_X11_lotDay e1194) hN
      refine r_icmp_eq 1398 dL_law_1197 (by decide) (fun c1197 => ?_) (fun c1197 => ?_)
      · have h := Sat_pos c1197 h
        exact r_sub [0, 1, 2, 3] rfl (J1398 l3_1194 x1194.2 c1194 z1194 hN hC h)
      · have h := Sat_neg c1197 h
        exact absurd h Sat_none
    have J1172 : ∀ (l3_1172 : Int32) (k0_1172 : Nat) (k1_1172 : Int32) (k2_1172 : Int32) (μ_1172 : Mm), ∀ (c1172 z1172 : Nat), Nz μ μ_1172 c1172 z1172 → c1172 ≤ 600000 ∧ z1172 ≤ 7302250 → Sat (f_L_law_J1172 l0 n0.1 n8.1 l3_1172 k0_1172 k1_1172 k2_1172 μ_1172) K18 → Rn_L_law nm l0 G c1172 z1172 1172 [(0, .ref l0), (1, .ref n0.1), (2, .ref n8.1), (3, .int l3_1172)] [.int k2_1172, .int k1_1172, .ref k0_1172] μ_1172 := by
      intro l3_1172 k0_1172 k1_1172 k2_1172 μ_1172 c1172 z1172 hN hC h
      obtain ⟨x1172, e1172, h⟩ := Sat_bind h
      have hN := nz_call (t_X10_lotDay e1172) hN
      have hC := bud_of hN (by
        obtain ⟨x, h, hx⟩ := id h
        have hk : Gr (x1172.2) (x1172.2) := Gr.rfl
        refine bud_le (?_ : Gr _ ((sm (fun (q : Int32 × Mm) => q.2) (fun (q : Mm) => q)) x)) (hB18 x hx)
        obtain ⟨x1180, e1180, h⟩ := bd h
        obtain ⟨x1185, e1185, h⟩ := bd h
        rcases ite_e h with ⟨_, h⟩ | ⟨_, h⟩
        · exact Gr.after (t_L_law_J1194 h) hk
        · exact Gr.after (t_L_law_J1194 h) hk)
      refine r_bV (t := 11) [.int k1_1172, .int k2_1172] [] (m_X10_lotDay k0_1172 k1_1172 k2_1172 μ_1172 e1172 (mm_N x1172.2 - mm_N μ_1172) (mm_Z x1172.2 - mm_Z μ_1172) gr_N gr_Z) ck_X10_lotDay lk_L_136 in_X10_lotDay se_X10_lotDay (kd_of e1172) ⟨rfl, by decide, by decide⟩ rfl rfl (Nat.le_of_ble_eq_true rfl) ⟨Nat.le_of_ble_eq_true rfl, Nat.le_of_ble_eq_true rfl⟩ hC dL_law_1172 ?_
      refine r_aload_n dL_law_1175 2 rfl ?_
      refine r_aload_n dL_law_1176 0 rfl ?_
      refine r_iload_n dL_law_1177 3 rfl ?_
      refine r_iconst (v := 1) dL_law_1178 (by decide) ?_
      refine r_iadd dL_law_1179 ?_
      obtain ⟨x1180, e1180, h⟩ := Sat_bind h
      refine r_sld e1180 dL_law_1180 ?_
      refine r_aload_n dL_law_1181 0 rfl ?_
      refine r_iload_n dL_law_1182 3 rfl ?_
      refine r_iconst (v := 2) dL_law_1183 (by decide) ?_
      refine r_iadd dL_law_1184 ?_
      obtain ⟨x1185, e1185, h⟩ := Sat_bind h
      refine r_sld e1185 dL_law_1185 ?_
      refine r_if_eq 1193 dL_law_1186 (by decide) (fun c1186 => ?_) (fun c1186 => ?_)
      · have h := Sat_pos c1186 h
        refine r_iconst (v := 0) dL_law_1193 (by decide) ?_
        exact r_sub [0, 1, 2, 3] rfl (J1194 l3_1172 x1172.1 n8.1 x1180 (0 : Int32) x1172.2 (c1172 + (mm_N x1172.2 - mm_N μ_1172)) (z1172 + (mm_Z x1172.2 - mm_Z μ_1172)) hN hC h)
      · have h := Sat_neg c1186 h
        refine r_iconst (v := 1) dL_law_1189 (by decide) ?_
        refine r_goto 1194 dL_law_1190 (by decide) ?_
        exact r_sub [0, 1, 2, 3] rfl (J1194 l3_1172 x1172.1 n8.1 x1180 (1 : Int32) x1172.2 (c1172 + (mm_N x1172.2 - mm_N μ_1172)) (z1172 + (mm_Z x1172.2 - mm_Z μ_1172)) hN hC h)
    refine r_iload_n dL_law_18 3 rfl ?_
    refine r_aload_n dL_law_19 0 rfl ?_
    obtain ⟨x20, e20, h⟩ := Sat_bind h
    refine r_slen e20 dL_law_20 ?_
    refine r_bipush (v := 6) dL_law_21 (by decide) ?_
    refine r_isub dL_law_23 ?_
    refine r_icmp_gt 1404 dL_law_24 (by decide) (fun c24 => ?_) (fun c24 => ?_)
    · have h := Sat_pos c24 h
      have h := hX18 _ (Sat_some h)
      refine r_iconst (v := 1) dL_law_1404 (by decide) ?_
      refine r_widen hC.1 hC.2 ?_
      exact r_lawret dL_law_1405
    · have h := Sat_neg c24 h
      refine r_aload_n dL_law_27 0 rfl ?_
      refine r_iload_n dL_law_28 3 rfl ?_
      obtain ⟨x29, e29, h⟩ := Sat_bind h
      refine r_sld e29 dL_law_29 ?_
      refine r_bipush (v := 63) dL_law_30 (by decide) ?_
      refine r_iand dL_law_32 ?_
      by_cases c33_0 : (x29 &&& (63 : Int32)) = 0
      · have h := Sat_pos c33_0 h
        refine r_tabIn c33_0 167 200 dL_law_33 (by decide) (by decide) (by decide) (by decide) ?_
        refine r_aload_n dL_law_200 1 rfl ?_
        refine r_aload_n dL_law_201 0 rfl ?_
        refine r_iload_n dL_law_202 3 rfl ?_
        refine r_iconst (v := 1) dL_law_203 (by decide) ?_
        refine r_iadd dL_law_204 ?_
        obtain ⟨x205, e205, h⟩ := Sat_bind h
        refine r_sld e205 dL_law_205 ?_
        refine r_aload_n dL_law_206 0 rfl ?_
        refine r_iload_n dL_law_207 3 rfl ?_
        refine r_iconst (v := 2) dL_law_208 (by decide) ?_
        refine r_iadd dL_law_209 ?_
        obtain ⟨x210, e210, h⟩ := Sat_bind h
        refine r_sld e210 dL_law_210 ?_
        refine r_aload_n dL_law_211 0 rfl ?_
        refine r_iload_n dL_law_212 3 rfl ?_
        refine r_iconst (v := 3) dL_law_213 (by decide) ?_
        refine r_iadd dL_law_214 ?_
        obtain ⟨x215, e215, h⟩ := Sat_bind h
        refine r_sld e215 dL_law_215 ?_
        refine r_aload_n dL_law_216 0 rfl ?_
        refine r_iload_n dL_law_217 3 rfl ?_
        refine r_iconst (v := 4) dL_law_218 (by decide) ?_
        refine r_iadd dL_law_219 ?_
        obtain ⟨x220, e220, h⟩ := Sat_bind h
        refine r_sld e220 dL_law_220 ?_
        refine r_aload_n dL_law_221 0 rfl ?_
        refine r_iload_n dL_law_222 3 rfl ?_
        refine r_iconst (v := 5) dL_law_223 (by decide) ?_
        refine r_iadd dL_law_224 ?_
        obtain ⟨x225, e225, h⟩ := Sat_bind h
        refine r_sld e225 dL_law_225 ?_
        obtain ⟨x226, e226, h⟩ := Sat_bind h
        refine r_cV (t := 11) [.int x205, .int x210, .int x215, .int x220, .int x225] [] (m_X10_feed n0.1 x205 x210 x215 x220 x225 s18.2 e226) ck_X10_feed lk_L_13 in_X10_feed se_X10_feed (kd_of e226) ⟨rfl, by decide, by decide⟩ rfl rfl (Nat.le_of_ble_eq_true rfl) ⟨Nat.le_of_ble_eq_true rfl, Nat.le_of_ble_eq_true rfl⟩ hC dL_law_226 ?_
        have hN := nz_tl (t_X10_feed e226) hN
        refine r_aload_n dL_law_229 2 rfl ?_
        refine r_aload_n dL_law_230 0 rfl ?_
        refine r_iload_n dL_law_231 3 rfl ?_
        refine r_iconst (v := 1) dL_law_232 (by decide) ?_
        refine r_iadd dL_law_233 ?_
        obtain ⟨x234, e234, h⟩ := Sat_bind h
        refine r_sld e234 dL_law_234 ?_
        refine r_aload_n dL_law_235 0 rfl ?_
        refine r_iload_n dL_law_236 3 rfl ?_
        refine r_iconst (v := 2) dL_law_237 (by decide) ?_
        refine r_iadd dL_law_238 ?_
        obtain ⟨x239, e239, h⟩ := Sat_bind h
        refine r_sld e239 dL_law_239 ?_
        refine r_aload_n dL_law_240 0 rfl ?_
        refine r_iload_n dL_law_241 3 rfl ?_
        refine r_iconst (v := 3) dL_law_242 (by decide) ?_
        refine r_iadd dL_law_243 ?_
        obtain ⟨x244, e244, h⟩ := Sat_bind h
        refine r_sld e244 dL_law_244 ?_
        refine r_aload_n dL_law_245 0 rfl ?_
        refine r_iload_n dL_law_246 3 rfl ?_
        refine r_iconst (v := 4) dL_law_247 (by decide) ?_
        refine r_iadd dL_law_248 ?_
        obtain ⟨x249, e249, h⟩ := Sat_bind h
        refine r_sld e249 dL_law_249 ?_
        refine r_aload_n dL_law_250 0 rfl ?_
        refine r_iload_n dL_law_251 3 rfl ?_
        refine r_iconst (v := 5) dL_law_252 (by decide) ?_
        refine r_iadd dL_law_253 ?_
        obtain ⟨x254, e254, h⟩ := Sat_bind h
        refine r_sld e254 dL_law_254 ?_
        obtain ⟨x255, e255, h⟩ := Sat_bind h
        refine r_cV (t := 12) [.int x234, .int x239, .int x244, .int x249, .int x254] [.int x226.1] (m_X11_feed n8.1 x234 x239 x244 x249 x254 x226.2 e255) ck_X11_feed lk_L_17 in_X11_feed se_X11_feed (kd_of e255) ⟨rfl, by decide, by decide⟩ rfl rfl (Nat.le_of_ble_eq_true rfl) ⟨Nat.le_of_ble_eq_true rfl, Nat.le_of_ble_eq_true rfl⟩ hC dL_law_255 ?_
        have hN := nz_tl (t_X11_feed e255) hN
        refine r_icmp_eq 1398 dL_law_258 (by decide) (fun c258 => ?_) (fun c258 => ?_)
        · have h := Sat_pos c258 h
          exact r_sub [0, 1, 2, 3] rfl (J1398 s18.1 x255.2 c18 z18 hN hC h)
        · have h := Sat_neg c258 h
          exact absurd h Sat_none
      have h := Sat_neg c33_0 h
      by_cases c33_1 : (x29 &&& (63 : Int32)) = 1
      · have h := Sat_pos c33_1 h
        refine r_tabIn c33_1 230 263 dL_law_33 (by decide) (by decide) (by decide) (by decide) ?_
        refine r_aload_n dL_law_263 1 rfl ?_
        refine r_aload_n dL_law_264 0 rfl ?_
        refine r_iload_n dL_law_265 3 rfl ?_
        refine r_iconst (v := 1) dL_law_266 (by decide) ?_
        refine r_iadd dL_law_267 ?_
        obtain ⟨x268, e268, h⟩ := Sat_bind h
        refine r_sld e268 dL_law_268 ?_
        obtain ⟨x269, e269, h⟩ := Sat_bind h
        refine r_cV (t := 11) [.int x268] [] (m_X10_end n0.1 x268 s18.2 e269) ck_X10_end lk_L_18 in_X10_end se_X10_end (kd_of e269) ⟨rfl, by decide, by decide⟩ rfl rfl (Nat.le_of_ble_eq_true rfl) ⟨Nat.le_of_ble_eq_true rfl, Nat.le_of_ble_eq_true rfl⟩ hC dL_law_269 ?_
        have hN := nz_tl (t_X10_end e269) hN
        refine r_aload_n dL_law_272 2 rfl ?_
        refine r_aload_n dL_law_273 0 rfl ?_
        refine r_iload_n dL_law_274 3 rfl ?_
        refine r_iconst (v := 1) dL_law_275 (by decide) ?_
        refine r_iadd dL_law_276 ?_
        obtain ⟨x277, e277, h⟩ := Sat_bind h
        refine r_sld e277 dL_law_277 ?_
        obtain ⟨x278, e278, h⟩ := Sat_bind h
        refine r_cV (t := 12) [.int x277] [.int x269.1] (m_X11_end n8.1 x277 x269.2 e278) ck_X11_end lk_L_22 in_X11_end se_X11_end (kd_of e278) ⟨rfl, by decide, by decide⟩ rfl rfl (Nat.le_of_ble_eq_true rfl) ⟨Nat.le_of_ble_eq_true rfl, Nat.le_of_ble_eq_true rfl⟩ hC dL_law_278 ?_
        have hN := nz_tl (t_X11_end e278) hN
        refine r_icmp_eq 1398 dL_law_281 (by decide) (fun c281 => ?_) (fun c281 => ?_)
        · have h := Sat_pos c281 h
          exact r_sub [0, 1, 2, 3] rfl (J1398 s18.1 x278.2 c18 z18 hN hC h)
        · have h := Sat_neg c281 h
          exact absurd h Sat_none
      have h := Sat_neg c33_1 h
      by_cases c33_2 : (x29 &&& (63 : Int32)) = 2
      · have h := Sat_pos c33_2 h
        refine r_tabIn c33_2 253 286 dL_law_33 (by decide) (by decide) (by decide) (by decide) ?_
        refine r_aload_n dL_law_286 1 rfl ?_
        obtain ⟨x287, e287, h⟩ := Sat_bind h
        refine r_cV (t := 11) [] [] (m_X10_town n0.1 s18.2 e287) ck_X10_town lk_L_23 in_X10_town se_X10_town (kd_of e287) ⟨rfl, by decide, by decide⟩ rfl rfl (Nat.le_of_ble_eq_true rfl) ⟨Nat.le_of_ble_eq_true rfl, Nat.le_of_ble_eq_true rfl⟩ hC dL_law_287 ?_
        have hN := nz_tl (t_X10_town e287) hN
        refine r_aload_n dL_law_290 2 rfl ?_
        obtain ⟨x291, e291, h⟩ := Sat_bind h
        refine r_cV (t := 12) [] [.int x287.1] (m_X11_town n8.1 x287.2 e291) ck_X11_town lk_L_27 in_X11_town se_X11_town (kd_of e291) ⟨rfl, by decide, by decide⟩ rfl rfl (Nat.le_of_ble_eq_true rfl) ⟨Nat.le_of_ble_eq_true rfl, Nat.le_of_ble_eq_true rfl⟩ hC dL_law_291 ?_
        have hN := nz_tl (t_X11_town e291) hN
        refine r_icmp_eq 1398 dL_law_294 (by decide) (fun c294 => ?_) (fun c294 => ?_)
        · have h := Sat_pos c294 h
          exact r_sub [0, 1, 2, 3] rfl (J1398 s18.1 x291.2 c18 z18 hN hC h)
        · have h := Sat_neg c294 h
          exact absurd h Sat_none
      have h := Sat_neg c33_2 h
      by_cases c33_3 : (x29 &&& (63 : Int32)) = 3
      · have h := Sat_pos c33_3 h
        refine r_tabIn c33_3 266 299 dL_law_33 (by decide) (by decide) (by decide) (by decide) ?_
        refine r_aload_n dL_law_299 1 rfl ?_
        refine r_aload_n dL_law_300 0 rfl ?_
        refine r_iload_n dL_law_301 3 rfl ?_
        refine r_iconst (v := 1) dL_law_302 (by decide) ?_
        refine r_iadd dL_law_303 ?_
        obtain ⟨x304, e304, h⟩ := Sat_bind h
        refine r_sld e304 dL_law_304 ?_
        obtain ⟨x305, e305, h⟩ := Sat_bind h
        refine r_cV (t := 11) [.int x304] [] (m_X10_fault n0.1 x304 s18.2 e305) ck_X10_fault lk_L_28 in_X10_fault se_X10_fault (kd_of e305) ⟨rfl, by decide, by decide⟩ rfl rfl (Nat.le_of_ble_eq_true rfl) ⟨Nat.le_of_ble_eq_true rfl, Nat.le_of_ble_eq_true rfl⟩ hC dL_law_305 ?_
        refine r_aload_n dL_law_308 2 rfl ?_
        refine r_aload_n dL_law_309 0 rfl ?_
        refine r_iload_n dL_law_310 3 rfl ?_
        refine r_iconst (v := 1) dL_law_311 (by decide) ?_
        refine r_iadd dL_law_312 ?_
        obtain ⟨x313, e313, h⟩ := Sat_bind h
        refine r_sld e313 dL_law_313 ?_
        obtain ⟨x314, e314, h⟩ := Sat_bind h
        refine r_cV (t := 12) [.int x313] [.int x305] (m_X11_fault n8.1 x313 s18.2 e314) ck_X11_fault lk_L_31 in_X11_fault se_X11_fault (kd_of e314) ⟨rfl, by decide, by decide⟩ rfl rfl (Nat.le_of_ble_eq_true rfl) ⟨Nat.le_of_ble_eq_true rfl, Nat.le_of_ble_eq_true rfl⟩ hC dL_law_314 ?_
        refine r_icmp_eq 1398 dL_law_317 (by decide) (fun c317 => ?_) (fun c317 => ?_)
        · have h := Sat_pos c317 h
          exact r_sub [0, 1, 2, 3] rfl (J1398 s18.1 s18.2 c18 z18 hN hC h)
        · have h := Sat_neg c317 h
          exact absurd h Sat_none
      have h := Sat_neg c33_3 h
      by_cases c33_4 : (x29 &&& (63 : Int32)) = 4
      · have h := Sat_pos c33_4 h
        refine r_tabIn c33_4 289 322 dL_law_33 (by decide) (by decide) (by decide) (by decide) ?_
        refine r_aload_n dL_law_322 1 rfl ?_
        refine r_aload_n dL_law_323 0 rfl ?_
        refine r_iload_n dL_law_324 3 rfl ?_
        refine r_iconst (v := 1) dL_law_325 (by decide) ?_
        refine r_iadd dL_law_326 ?_
        obtain ⟨x327, e327, h⟩ := Sat_bind h
        refine r_sld e327 dL_law_327 ?_
        obtain ⟨x328, e328, h⟩ := Sat_bind h
        refine r_cV (t := 11) [.int x327] [] (m_X10_told n0.1 x327 s18.2 e328) ck_X10_told lk_L_32 in_X10_told se_X10_told (kd_of e328) ⟨rfl, by decide, by decide⟩ rfl rfl (Nat.le_of_ble_eq_true rfl) ⟨Nat.le_of_ble_eq_true rfl, Nat.le_of_ble_eq_true rfl⟩ hC dL_law_328 ?_
        refine r_aload_n dL_law_331 2 rfl ?_
        refine r_aload_n dL_law_332 0 rfl ?_
        refine r_iload_n dL_law_333 3 rfl ?_
        refine r_iconst (v := 1) dL_law_334 (by decide) ?_
        refine r_iadd dL_law_335 ?_
        obtain ⟨x336, e336, h⟩ := Sat_bind h
        refine r_sld e336 dL_law_336 ?_
        obtain ⟨x337, e337, h⟩ := Sat_bind h
        refine r_cV (t := 12) [.int x336] [.int x328] (m_X11_told n8.1 x336 s18.2 e337) ck_X11_told lk_L_35 in_X11_told se_X11_told (kd_of e337) ⟨rfl, by decide, by decide⟩ rfl rfl (Nat.le_of_ble_eq_true rfl) ⟨Nat.le_of_ble_eq_true rfl, Nat.le_of_ble_eq_true rfl⟩ hC dL_law_337 ?_
        refine r_icmp_eq 1398 dL_law_340 (by decide) (fun c340 => ?_) (fun c340 => ?_)
        · have h := Sat_pos c340 h
          exact r_sub [0, 1, 2, 3] rfl (J1398 s18.1 s18.2 c18 z18 hN hC h)
        · have h := Sat_neg c340 h
          exact absurd h Sat_none
      have h := Sat_neg c33_4 h
      by_cases c33_5 : (x29 &&& (63 : Int32)) = 5
      · have h := Sat_pos c33_5 h
        refine r_tabIn c33_5 312 345 dL_law_33 (by decide) (by decide) (by decide) (by decide) ?_
        refine r_aload_n dL_law_345 1 rfl ?_
        obtain ⟨x346, e346, h⟩ := Sat_bind h
        refine r_cV (t := 11) [] [] (m_X10_turnings n0.1 s18.2 e346) ck_X10_turnings lk_L_36 in_X10_turnings se_X10_turnings (kd_of e346) ⟨rfl, by decide, by decide⟩ rfl rfl (Nat.le_of_ble_eq_true rfl) ⟨Nat.le_of_ble_eq_true rfl, Nat.le_of_ble_eq_true rfl⟩ hC dL_law_346 ?_
        refine r_aload_n dL_law_349 2 rfl ?_
        obtain ⟨x350, e350, h⟩ := Sat_bind h
        refine r_cV (t := 12) [] [.int x346] (m_X11_turnings n8.1 s18.2 e350) ck_X11_turnings lk_L_39 in_X11_turnings se_X11_turnings (kd_of e350) ⟨rfl, by decide, by decide⟩ rfl rfl (Nat.le_of_ble_eq_true rfl) ⟨Nat.le_of_ble_eq_true rfl, Nat.le_of_ble_eq_true rfl⟩ hC dL_law_350 ?_
        refine r_icmp_eq 1398 dL_law_353 (by decide) (fun c353 => ?_) (fun c353 => ?_)
        · have h := Sat_pos c353 h
          exact r_sub [0, 1, 2, 3] rfl (J1398 s18.1 s18.2 c18 z18 hN hC h)
        · have h := Sat_neg c353 h
          exact absurd h Sat_none
      have h := Sat_neg c33_5 h
      by_cases c33_6 : (x29 &&& (63 : Int32)) = 6
      · have h := Sat_pos c33_6 h
        refine r_tabIn c33_6 325 358 dL_law_33 (by decide) (by decide) (by decide) (by decide) ?_
        refine r_aload_n dL_law_358 1 rfl ?_
        refine r_aload_n dL_law_359 0 rfl ?_
        refine r_iload_n dL_law_360 3 rfl ?_
        refine r_iconst (v := 1) dL_law_361 (by decide) ?_
        refine r_iadd dL_law_362 ?_
        obtain ⟨x363, e363, h⟩ := Sat_bind h
        refine r_sld e363 dL_law_363 ?_
        obtain ⟨x364, e364, h⟩ := Sat_bind h
        refine r_cV (t := 11) [.int x363] [] (m_X10_turn n0.1 x363 s18.2 e364) ck_X10_turn lk_L_40 in_X10_turn se_X10_turn (kd_of e364) ⟨rfl, by decide, by decide⟩ rfl rfl (Nat.le_of_ble_eq_true rfl) ⟨Nat.le_of_ble_eq_true rfl, Nat.le_of_ble_eq_true rfl⟩ hC dL_law_364 ?_
        have hN := nz_tl (t_X10_turn e364) hN
        refine r_aload_n dL_law_367 2 rfl ?_
        refine r_aload_n dL_law_368 0 rfl ?_
        refine r_iload_n dL_law_369 3 rfl ?_
        refine r_iconst (v := 1) dL_law_370 (by decide) ?_
        refine r_iadd dL_law_371 ?_
        obtain ⟨x372, e372, h⟩ := Sat_bind h
        refine r_sld e372 dL_law_372 ?_
        obtain ⟨x373, e373, h⟩ := Sat_bind h
        refine r_cV (t := 12) [.int x372] [.int x364.1] (m_X11_turn n8.1 x372 x364.2 e373) ck_X11_turn lk_L_43 in_X11_turn se_X11_turn (kd_of e373) ⟨rfl, by decide, by decide⟩ rfl rfl (Nat.le_of_ble_eq_true rfl) ⟨Nat.le_of_ble_eq_true rfl, Nat.le_of_ble_eq_true rfl⟩ hC dL_law_373 ?_
        have hN := nz_tl (t_X11_turn e373) hN
        refine r_icmp_eq 1398 dL_law_376 (by decide) (fun c376 => ?_) (fun c376 => ?_)
        · have h := Sat_pos c376 h
          exact r_sub [0, 1, 2, 3] rfl (J1398 s18.1 x373.2 c18 z18 hN hC h)
        · have h := Sat_neg c376 h
          exact absurd h Sat_none
      have h := Sat_neg c33_6 h
      by_cases c33_7 : (x29 &&& (63 : Int32)) = 7
      · have h := Sat_pos c33_7 h
        refine r_tabIn c33_7 348 381 dL_law_33 (by decide) (by decide) (by decide) (by decide) ?_
        refine r_aload_n dL_law_381 1 rfl ?_
        refine r_aload_n dL_law_382 0 rfl ?_
        refine r_iload_n dL_law_383 3 rfl ?_
        refine r_iconst (v := 1) dL_law_384 (by decide) ?_
        refine r_iadd dL_law_385 ?_
        obtain ⟨x386, e386, h⟩ := Sat_bind h
        refine r_sld e386 dL_law_386 ?_
        obtain ⟨x387, e387, h⟩ := Sat_bind h
        refine r_cV (t := 11) [.int x386] [] (m_X10_dreams n0.1 x386 s18.2 e387) ck_X10_dreams lk_L_44 in_X10_dreams se_X10_dreams (kd_of e387) ⟨rfl, by decide, by decide⟩ rfl rfl (Nat.le_of_ble_eq_true rfl) ⟨Nat.le_of_ble_eq_true rfl, Nat.le_of_ble_eq_true rfl⟩ hC dL_law_387 ?_
        refine r_aload_n dL_law_390 2 rfl ?_
        refine r_aload_n dL_law_391 0 rfl ?_
        refine r_iload_n dL_law_392 3 rfl ?_
        refine r_iconst (v := 1) dL_law_393 (by decide) ?_
        refine r_iadd dL_law_394 ?_
        obtain ⟨x395, e395, h⟩ := Sat_bind h
        refine r_sld e395 dL_law_395 ?_
        obtain ⟨x396, e396, h⟩ := Sat_bind h
        refine r_cV (t := 12) [.int x395] [.int x387] (m_X11_dreams n8.1 x395 s18.2 e396) ck_X11_dreams lk_L_47 in_X11_dreams se_X11_dreams (kd_of e396) ⟨rfl, by decide, by decide⟩ rfl rfl (Nat.le_of_ble_eq_true rfl) ⟨Nat.le_of_ble_eq_true rfl, Nat.le_of_ble_eq_true rfl⟩ hC dL_law_396 ?_
        refine r_icmp_eq 1398 dL_law_399 (by decide) (fun c399 => ?_) (fun c399 => ?_)
        · have h := Sat_pos c399 h
          exact r_sub [0, 1, 2, 3] rfl (J1398 s18.1 s18.2 c18 z18 hN hC h)
        · have h := Sat_neg c399 h
          exact absurd h Sat_none
      have h := Sat_neg c33_7 h
      by_cases c33_8 : (x29 &&& (63 : Int32)) = 8
      · have h := Sat_pos c33_8 h
        refine r_tabIn c33_8 371 404 dL_law_33 (by decide) (by decide) (by decide) (by decide) ?_
        refine r_aload_n dL_law_404 1 rfl ?_
        obtain ⟨x405, e405, h⟩ := Sat_bind h
        refine r_cV (t := 11) [] [] (m_X10_number n0.1 s18.2 e405) ck_X10_number lk_L_48 in_X10_number se_X10_number (kd_of e405) ⟨rfl, by decide, by decide⟩ rfl rfl (Nat.le_of_ble_eq_true rfl) ⟨Nat.le_of_ble_eq_true rfl, Nat.le_of_ble_eq_true rfl⟩ hC dL_law_405 ?_
        have hN := nz_tl (t_X10_number e405) hN
        refine r_aload_n dL_law_408 2 rfl ?_
        obtain ⟨x409, e409, h⟩ := Sat_bind h
        refine r_cV (t := 12) [] [.int x405.1] (m_X11_number n8.1 x405.2 e409) ck_X11_number lk_L_51 in_X11_number se_X11_number (kd_of e409) ⟨rfl, by decide, by decide⟩ rfl rfl (Nat.le_of_ble_eq_true rfl) ⟨Nat.le_of_ble_eq_true rfl, Nat.le_of_ble_eq_true rfl⟩ hC dL_law_409 ?_
        have hN := nz_tl (t_X11_number e409) hN
        refine r_icmp_eq 1398 dL_law_412 (by decide) (fun c412 => ?_) (fun c412 => ?_)
        · have h := Sat_pos c412 h
          exact r_sub [0, 1, 2, 3] rfl (J1398 s18.1 x409.2 c18 z18 hN hC h)
        · have h := Sat_neg c412 h
          exact absurd h Sat_none
      have h := Sat_neg c33_8 h
      by_cases c33_9 : (x29 &&& (63 : Int32)) = 9
      · have h := Sat_pos c33_9 h
        refine r_tabIn c33_9 384 417 dL_law_33 (by decide) (by decide) (by decide) (by decide) ?_
        refine r_aload_n dL_law_417 1 rfl ?_
        refine r_aload_n dL_law_418 0 rfl ?_
        refine r_iload_n dL_law_419 3 rfl ?_
        refine r_iconst (v := 1) dL_law_420 (by decide) ?_
        refine r_iadd dL_law_421 ?_
        obtain ⟨x422, e422, h⟩ := Sat_bind h
        refine r_sld e422 dL_law_422 ?_
        refine r_aload_n dL_law_423 0 rfl ?_
        refine r_iload_n dL_law_424 3 rfl ?_
        refine r_iconst (v := 2) dL_law_425 (by decide) ?_
        refine r_iadd dL_law_426 ?_
        obtain ⟨x427, e427, h⟩ := Sat_bind h
        refine r_sld e427 dL_law_427 ?_
        refine r_aload_n dL_law_428 0 rfl ?_
        refine r_iload_n dL_law_429 3 rfl ?_
        refine r_iconst (v := 3) dL_law_430 (by decide) ?_
        refine r_iadd dL_law_431 ?_
        obtain ⟨x432, e432, h⟩ := Sat_bind h
        refine r_sld e432 dL_law_432 ?_
        obtain ⟨x433, e433, h⟩ := Sat_bind h
        refine r_cV (t := 11) [.int x422, .int x427, .int x432] [] (m_X10_knows n0.1 x422 x427 x432 s18.2 e433) ck_X10_knows lk_L_52 in_X10_knows se_X10_knows (kd_of e433) ⟨rfl, by decide, by decide⟩ rfl rfl (Nat.le_of_ble_eq_true rfl) ⟨Nat.le_of_ble_eq_true rfl, Nat.le_of_ble_eq_true rfl⟩ hC dL_law_433 ?_
        have hN := nz_tl (t_X10_knows e433) hN
        refine r_aload_n dL_law_436 2 rfl ?_
        refine r_aload_n dL_law_437 0 rfl ?_
        refine r_iload_n dL_law_438 3 rfl ?_
        refine r_iconst (v := 1) dL_law_439 (by decide) ?_
        refine r_iadd dL_law_440 ?_
        obtain ⟨x441, e441, h⟩ := Sat_bind h
        refine r_sld e441 dL_law_441 ?_
        refine r_aload_n dL_law_442 0 rfl ?_
        refine r_iload_n dL_law_443 3 rfl ?_
        refine r_iconst (v := 2) dL_law_444 (by decide) ?_
        refine r_iadd dL_law_445 ?_
        obtain ⟨x446, e446, h⟩ := Sat_bind h
        refine r_sld e446 dL_law_446 ?_
        refine r_aload_n dL_law_447 0 rfl ?_
        refine r_iload_n dL_law_448 3 rfl ?_
        refine r_iconst (v := 3) dL_law_449 (by decide) ?_
        refine r_iadd dL_law_450 ?_
        obtain ⟨x451, e451, h⟩ := Sat_bind h
        refine r_sld e451 dL_law_451 ?_
        obtain ⟨x452, e452, h⟩ := Sat_bind h
        refine r_cV (t := 12) [.int x441, .int x446, .int x451] [.int x433.1] (m_X11_knows n8.1 x441 x446 x451 x433.2 e452) ck_X11_knows lk_L_56 in_X11_knows se_X11_knows (kd_of e452) ⟨rfl, by decide, by decide⟩ rfl rfl (Nat.le_of_ble_eq_true rfl) ⟨Nat.le_of_ble_eq_true rfl, Nat.le_of_ble_eq_true rfl⟩ hC dL_law_452 ?_
        have hN := nz_tl (t_X11_knows e452) hN
        refine r_icmp_eq 1398 dL_law_455 (by decide) (fun c455 => ?_) (fun c455 => ?_)
        · have h := Sat_pos c455 h
          exact r_sub [0, 1, 2, 3] rfl (J1398 s18.1 x452.2 c18 z18 hN hC h)
        · have h := Sat_neg c455 h
          exact absurd h Sat_none
      have h := Sat_neg c33_9 h
      by_cases c33_10 : (x29 &&& (63 : Int32)) = 10
      · have h := Sat_pos c33_10 h
        refine r_tabIn c33_10 427 460 dL_law_33 (by decide) (by decide) (by decide) (by decide) ?_
        refine r_aload_n dL_law_460 1 rfl ?_
        refine r_aload_n dL_law_461 0 rfl ?_
        refine r_iload_n dL_law_462 3 rfl ?_
        refine r_iconst (v := 1) dL_law_463 (by decide) ?_
        refine r_iadd dL_law_464 ?_
        obtain ⟨x465, e465, h⟩ := Sat_bind h
        refine r_sld e465 dL_law_465 ?_
        refine r_aload_n dL_law_466 0 rfl ?_
        refine r_iload_n dL_law_467 3 rfl ?_
        refine r_iconst (v := 2) dL_law_468 (by decide) ?_
        refine r_iadd dL_law_469 ?_
        obtain ⟨x470, e470, h⟩ := Sat_bind h
        refine r_sld e470 dL_law_470 ?_
        refine r_aload_n dL_law_471 0 rfl ?_
        refine r_iload_n dL_law_472 3 rfl ?_
        refine r_iconst (v := 3) dL_law_473 (by decide) ?_
        refine r_iadd dL_law_474 ?_
        obtain ⟨x475, e475, h⟩ := Sat_bind h
        refine r_sld e475 dL_law_475 ?_
        refine r_aload_n dL_law_476 0 rfl ?_
        refine r_iload_n dL_law_477 3 rfl ?_
        refine r_iconst (v := 4) dL_law_478 (by decide) ?_
        refine r_iadd dL_law_479 ?_
        obtain ⟨x480, e480, h⟩ := Sat_bind h
        refine r_sld e480 dL_law_480 ?_
        obtain ⟨x481, e481, h⟩ := Sat_bind h
        refine r_cV (t := 11) [.int x465, .int x470, .int x475, .int x480] [] (m_X10_comes n0.1 x465 x470 x475 x480 s18.2 e481) ck_X10_comes lk_L_57 in_X10_comes se_X10_comes (kd_of e481) ⟨rfl, by decide, by decide⟩ rfl rfl (Nat.le_of_ble_eq_true rfl) ⟨Nat.le_of_ble_eq_true rfl, Nat.le_of_ble_eq_true rfl⟩ hC dL_law_481 ?_
        have hN := nz_tl (t_X10_comes e481) hN
        refine r_aload_n dL_law_484 2 rfl ?_
        refine r_aload_n dL_law_485 0 rfl ?_
        refine r_iload_n dL_law_486 3 rfl ?_
        refine r_iconst (v := 1) dL_law_487 (by decide) ?_
        refine r_iadd dL_law_488 ?_
        obtain ⟨x489, e489, h⟩ := Sat_bind h
        refine r_sld e489 dL_law_489 ?_
        refine r_aload_n dL_law_490 0 rfl ?_
        refine r_iload_n dL_law_491 3 rfl ?_
        refine r_iconst (v := 2) dL_law_492 (by decide) ?_
        refine r_iadd dL_law_493 ?_
        obtain ⟨x494, e494, h⟩ := Sat_bind h
        refine r_sld e494 dL_law_494 ?_
        refine r_aload_n dL_law_495 0 rfl ?_
        refine r_iload_n dL_law_496 3 rfl ?_
        refine r_iconst (v := 3) dL_law_497 (by decide) ?_
        refine r_iadd dL_law_498 ?_
        obtain ⟨x499, e499, h⟩ := Sat_bind h
        refine r_sld e499 dL_law_499 ?_
        refine r_aload_n dL_law_500 0 rfl ?_
        refine r_iload_n dL_law_501 3 rfl ?_
        refine r_iconst (v := 4) dL_law_502 (by decide) ?_
        refine r_iadd dL_law_503 ?_
        obtain ⟨x504, e504, h⟩ := Sat_bind h
        refine r_sld e504 dL_law_504 ?_
        obtain ⟨x505, e505, h⟩ := Sat_bind h
        refine r_cV (t := 12) [.int x489, .int x494, .int x499, .int x504] [.int x481.1] (m_X11_comes_ n8.1 x489 x494 x499 x504 x481.2 e505) ck_X11_comes_ lk_L_61 in_X11_comes_ se_X11_comes_ (kd_of e505) ⟨rfl, by decide, by decide⟩ rfl rfl (Nat.le_of_ble_eq_true rfl) ⟨Nat.le_of_ble_eq_true rfl, Nat.le_of_ble_eq_true rfl⟩ hC dL_law_505 ?_
        have hN := nz_tl (t_X11_comes_ e505) hN
        refine r_icmp_eq 1398 dL_law_508 (by decide) (fun c508 => ?_) (fun c508 => ?_)
        · have h := Sat_pos c508 h
          exact r_sub [0, 1, 2, 3] rfl (J1398 s18.1 x505.2 c18 z18 hN hC h)
        · have h := Sat_neg c508 h
          exact absurd h Sat_none
      have h := Sat_neg c33_10 h
      by_cases c33_11 : (x29 &&& (63 : Int32)) = 11
      · have h := Sat_pos c33_11 h
        refine r_tabIn c33_11 480 513 dL_law_33 (by decide) (by decide) (by decide) (by decide) ?_
        refine r_aload_n dL_law_513 1 rfl ?_
        refine r_aload_n dL_law_514 0 rfl ?_
        refine r_iload_n dL_law_515 3 rfl ?_
        refine r_iconst (v := 1) dL_law_516 (by decide) ?_
        refine r_iadd dL_law_517 ?_
        obtain ⟨x518, e518, h⟩ := Sat_bind h
        refine r_sld e518 dL_law_518 ?_
        refine r_aload_n dL_law_519 0 rfl ?_
        refine r_iload_n dL_law_520 3 rfl ?_
        refine r_iconst (v := 2) dL_law_521 (by decide) ?_
        refine r_iadd dL_law_522 ?_
        obtain ⟨x523, e523, h⟩ := Sat_bind h
        refine r_sld e523 dL_law_523 ?_
        obtain ⟨x524, e524, h⟩ := Sat_bind h
        refine r_cV (t := 11) [.int x518, .int x523] [] (m_X10_all n0.1 x518 x523 s18.2 e524) ck_X10_all lk_L_62 in_X10_all se_X10_all (kd_of e524) ⟨rfl, by decide, by decide⟩ rfl rfl (Nat.le_of_ble_eq_true rfl) ⟨Nat.le_of_ble_eq_true rfl, Nat.le_of_ble_eq_true rfl⟩ hC dL_law_524 ?_
        have hN := nz_tl (t_X10_all e524) hN
        refine r_aload_n dL_law_527 2 rfl ?_
        refine r_aload_n dL_law_528 0 rfl ?_
        refine r_iload_n dL_law_529 3 rfl ?_
        refine r_iconst (v := 1) dL_law_530 (by decide) ?_
        refine r_iadd dL_law_531 ?_
        obtain ⟨x532, e532, h⟩ := Sat_bind h
        refine r_sld e532 dL_law_532 ?_
        refine r_aload_n dL_law_533 0 rfl ?_
        refine r_iload_n dL_law_534 3 rfl ?_
        refine r_iconst (v := 2) dL_law_535 (by decide) ?_
        refine r_iadd dL_law_536 ?_
        obtain ⟨x537, e537, h⟩ := Sat_bind h
        refine r_sld e537 dL_law_537 ?_
        obtain ⟨x538, e538, h⟩ := Sat_bind h
        refine r_cV (t := 12) [.int x532, .int x537] [.int x524.1] (m_X11_all n8.1 x532 x537 x524.2 e538) ck_X11_all lk_L_66 in_X11_all se_X11_all (kd_of e538) ⟨rfl, by decide, by decide⟩ rfl rfl (Nat.le_of_ble_eq_true rfl) ⟨Nat.le_of_ble_eq_true rfl, Nat.le_of_ble_eq_true rfl⟩ hC dL_law_538 ?_
        have hN := nz_tl (t_X11_all e538) hN
        refine r_icmp_eq 1398 dL_law_541 (by decide) (fun c541 => ?_) (fun c541 => ?_)
        · have h := Sat_pos c541 h
          exact r_sub [0, 1, 2, 3] rfl (J1398 s18.1 x538.2 c18 z18 hN hC h)
        · have h := Sat_neg c541 h
          exact absurd h Sat_none
      have h := Sat_neg c33_11 h
      by_cases c33_12 : (x29 &&& (63 : Int32)) = 12
      · have h := Sat_pos c33_12 h
        refine r_tabIn c33_12 513 546 dL_law_33 (by decide) (by decide) (by decide) (by decide) ?_
        refine r_aload_n dL_law_546 1 rfl ?_
        obtain ⟨x547, e547, h⟩ := Sat_bind h
        refine r_cV (t := 11) [] [] (m_X10_judge n0.1 s18.2 e547) ck_X10_judge lk_L_67 in_X10_judge se_X10_judge (kd_of e547) ⟨rfl, by decide, by decide⟩ rfl rfl (Nat.le_of_ble_eq_true rfl) ⟨Nat.le_of_ble_eq_true rfl, Nat.le_of_ble_eq_true rfl⟩ hC dL_law_547 ?_
        have hN := nz_tl (t_X10_judge e547) hN
        refine r_aload_n dL_law_550 2 rfl ?_
        obtain ⟨x551, e551, h⟩ := Sat_bind h
        refine r_cV (t := 12) [] [.int x547.1] (m_X11_judge n8.1 x547.2 e551) ck_X11_judge lk_L_70 in_X11_judge se_X11_judge (kd_of e551) ⟨rfl, by decide, by decide⟩ rfl rfl (Nat.le_of_ble_eq_true rfl) ⟨Nat.le_of_ble_eq_true rfl, Nat.le_of_ble_eq_true rfl⟩ hC dL_law_551 ?_
        have hN := nz_tl (t_X11_judge e551) hN
        refine r_icmp_eq 1398 dL_law_554 (by decide) (fun c554 => ?_) (fun c554 => ?_)
        · have h := Sat_pos c554 h
          exact r_sub [0, 1, 2, 3] rfl (J1398 s18.1 x551.2 c18 z18 hN hC h)
        · have h := Sat_neg c554 h
          exact absurd h Sat_none
      have h := Sat_neg c33_12 h
      by_cases c33_13 : (x29 &&& (63 : Int32)) = 13
      · have h := Sat_pos c33_13 h
        refine r_tabIn c33_13 526 559 dL_law_33 (by decide) (by decide) (by decide) (by decide) ?_
        refine r_aload_n dL_law_559 1 rfl ?_
        refine r_aload_n dL_law_560 0 rfl ?_
        refine r_iload_n dL_law_561 3 rfl ?_
        refine r_iconst (v := 1) dL_law_562 (by decide) ?_
        refine r_iadd dL_law_563 ?_
        obtain ⟨x564, e564, h⟩ := Sat_bind h
        refine r_sld e564 dL_law_564 ?_
        refine r_aload_n dL_law_565 0 rfl ?_
        refine r_iload_n dL_law_566 3 rfl ?_
        refine r_iconst (v := 2) dL_law_567 (by decide) ?_
        refine r_iadd dL_law_568 ?_
        obtain ⟨x569, e569, h⟩ := Sat_bind h
        refine r_sld e569 dL_law_569 ?_
        refine r_aload_n dL_law_570 0 rfl ?_
        refine r_iload_n dL_law_571 3 rfl ?_
        refine r_iconst (v := 3) dL_law_572 (by decide) ?_
        refine r_iadd dL_law_573 ?_
        obtain ⟨x574, e574, h⟩ := Sat_bind h
        refine r_sld e574 dL_law_574 ?_
        refine r_aload_n dL_law_575 0 rfl ?_
        refine r_iload_n dL_law_576 3 rfl ?_
        refine r_iconst (v := 4) dL_law_577 (by decide) ?_
        refine r_iadd dL_law_578 ?_
        obtain ⟨x579, e579, h⟩ := Sat_bind h
        refine r_sld e579 dL_law_579 ?_
        refine r_aload_n dL_law_580 0 rfl ?_
        refine r_iload_n dL_law_581 3 rfl ?_
        refine r_iconst (v := 5) dL_law_582 (by decide) ?_
        refine r_iadd dL_law_583 ?_
        obtain ⟨x584, e584, h⟩ := Sat_bind h
        refine r_sld e584 dL_law_584 ?_
        obtain ⟨x585, e585, h⟩ := Sat_bind h
        refine r_cV (t := 11) [.int x564, .int x569, .int x574, .int x579, .int x584] [] (m_X10_act n0.1 x564 x569 x574 x579 x584 s18.2 e585) ck_X10_act lk_L_71 in_X10_act se_X10_act (kd_of e585) ⟨rfl, by decide, by decide⟩ rfl rfl (Nat.le_of_ble_eq_true rfl) ⟨Nat.le_of_ble_eq_true rfl, Nat.le_of_ble_eq_true rfl⟩ hC dL_law_585 ?_
        have hN := nz_tl (t_X10_act e585) hN
        refine r_aload_n dL_law_588 2 rfl ?_
        refine r_aload_n dL_law_589 0 rfl ?_
        refine r_iload_n dL_law_590 3 rfl ?_
        refine r_iconst (v := 1) dL_law_591 (by decide) ?_
        refine r_iadd dL_law_592 ?_
        obtain ⟨x593, e593, h⟩ := Sat_bind h
        refine r_sld e593 dL_law_593 ?_
        refine r_aload_n dL_law_594 0 rfl ?_
        refine r_iload_n dL_law_595 3 rfl ?_
        refine r_iconst (v := 2) dL_law_596 (by decide) ?_
        refine r_iadd dL_law_597 ?_
        obtain ⟨x598, e598, h⟩ := Sat_bind h
        refine r_sld e598 dL_law_598 ?_
        refine r_aload_n dL_law_599 0 rfl ?_
        refine r_iload_n dL_law_600 3 rfl ?_
        refine r_iconst (v := 3) dL_law_601 (by decide) ?_
        refine r_iadd dL_law_602 ?_
        obtain ⟨x603, e603, h⟩ := Sat_bind h
        refine r_sld e603 dL_law_603 ?_
        refine r_aload_n dL_law_604 0 rfl ?_
        refine r_iload_n dL_law_605 3 rfl ?_
        refine r_iconst (v := 4) dL_law_606 (by decide) ?_
        refine r_iadd dL_law_607 ?_
        obtain ⟨x608, e608, h⟩ := Sat_bind h
        refine r_sld e608 dL_law_608 ?_
        refine r_aload_n dL_law_609 0 rfl ?_
        refine r_iload_n dL_law_610 3 rfl ?_
        refine r_iconst (v := 5) dL_law_611 (by decide) ?_
        refine r_iadd dL_law_612 ?_
        obtain ⟨x613, e613, h⟩ := Sat_bind h
        refine r_sld e613 dL_law_613 ?_
        obtain ⟨x614, e614, h⟩ := Sat_bind h
        refine r_cV (t := 12) [.int x593, .int x598, .int x603, .int x608, .int x613] [.int x585.1] (m_X11_act n8.1 x593 x598 x603 x608 x613 x585.2 e614) ck_X11_act lk_L_74 in_X11_act se_X11_act (kd_of e614) ⟨rfl, by decide, by decide⟩ rfl rfl (Nat.le_of_ble_eq_true rfl) ⟨Nat.le_of_ble_eq_true rfl, Nat.le_of_ble_eq_true rfl⟩ hC dL_law_614 ?_
        have hN := nz_tl (t_X11_act e614) hN
        refine r_icmp_eq 1398 dL_law_617 (by decide) (fun c617 => ?_) (fun c617 => ?_)
        · have h := Sat_pos c617 h
          exact r_sub [0, 1, 2, 3] rfl (J1398 s18.1 x614.2 c18 z18 hN hC h)
        · have h := Sat_neg c617 h
          exact absurd h Sat_none
      have h := Sat_neg c33_13 h
      by_cases c33_14 : (x29 &&& (63 : Int32)) = 14
      · have h := Sat_pos c33_14 h
        refine r_tabIn c33_14 589 622 dL_law_33 (by decide) (by decide) (by decide) (by decide) ?_
        refine r_aload_n dL_law_622 1 rfl ?_
        refine r_aload_n dL_law_623 0 rfl ?_
        refine r_iload_n dL_law_624 3 rfl ?_
        refine r_iconst (v := 1) dL_law_625 (by decide) ?_
        refine r_iadd dL_law_626 ?_
        obtain ⟨x627, e627, h⟩ := Sat_bind h
        refine r_sld e627 dL_law_627 ?_
        refine r_aload_n dL_law_628 0 rfl ?_
        refine r_iload_n dL_law_629 3 rfl ?_
        refine r_iconst (v := 2) dL_law_630 (by decide) ?_
        refine r_iadd dL_law_631 ?_
        obtain ⟨x632, e632, h⟩ := Sat_bind h
        refine r_sld e632 dL_law_632 ?_
        refine r_aload_n dL_law_633 0 rfl ?_
        refine r_iload_n dL_law_634 3 rfl ?_
        refine r_iconst (v := 3) dL_law_635 (by decide) ?_
        refine r_iadd dL_law_636 ?_
        obtain ⟨x637, e637, h⟩ := Sat_bind h
        refine r_sld e637 dL_law_637 ?_
        obtain ⟨x638, e638, h⟩ := Sat_bind h
        refine r_cV (t := 11) [.int x627, .int x632, .int x637] [] (m_X10_right n0.1 x627 x632 x637 s18.2 e638) ck_X10_right lk_L_75 in_X10_right se_X10_right (kd_of e638) ⟨rfl, by decide, by decide⟩ rfl rfl (Nat.le_of_ble_eq_true rfl) ⟨Nat.le_of_ble_eq_true rfl, Nat.le_of_ble_eq_true rfl⟩ hC dL_law_638 ?_
        have hN := nz_tl (t_X10_right e638) hN
        refine r_aload_n dL_law_641 2 rfl ?_
        refine r_aload_n dL_law_642 0 rfl ?_
        refine r_iload_n dL_law_643 3 rfl ?_
        refine r_iconst (v := 1) dL_law_644 (by decide) ?_
        refine r_iadd dL_law_645 ?_
        obtain ⟨x646, e646, h⟩ := Sat_bind h
        refine r_sld e646 dL_law_646 ?_
        refine r_aload_n dL_law_647 0 rfl ?_
        refine r_iload_n dL_law_648 3 rfl ?_
        refine r_iconst (v := 2) dL_law_649 (by decide) ?_
        refine r_iadd dL_law_650 ?_
        obtain ⟨x651, e651, h⟩ := Sat_bind h
        refine r_sld e651 dL_law_651 ?_
        refine r_aload_n dL_law_652 0 rfl ?_
        refine r_iload_n dL_law_653 3 rfl ?_
        refine r_iconst (v := 3) dL_law_654 (by decide) ?_
        refine r_iadd dL_law_655 ?_
        obtain ⟨x656, e656, h⟩ := Sat_bind h
        refine r_sld e656 dL_law_656 ?_
        obtain ⟨x657, e657, h⟩ := Sat_bind h
        refine r_cV (t := 12) [.int x646, .int x651, .int x656] [.int x638.1] (m_X11_right n8.1 x646 x651 x656 x638.2 e657) ck_X11_right lk_L_78 in_X11_right se_X11_right (kd_of e657) ⟨rfl, by decide, by decide⟩ rfl rfl (Nat.le_of_ble_eq_true rfl) ⟨Nat.le_of_ble_eq_true rfl, Nat.le_of_ble_eq_true rfl⟩ hC dL_law_657 ?_
        have hN := nz_tl (t_X11_right e657) hN
        refine r_icmp_eq 1398 dL_law_660 (by decide) (fun c660 => ?_) (fun c660 => ?_)
        · have h := Sat_pos c660 h
          exact r_sub [0, 1, 2, 3] rfl (J1398 s18.1 x657.2 c18 z18 hN hC h)
        · have h := Sat_neg c660 h
          exact absurd h Sat_none
      have h := Sat_neg c33_14 h
      by_cases c33_15 : (x29 &&& (63 : Int32)) = 15
      · have h := Sat_pos c33_15 h
        refine r_tabIn c33_15 632 665 dL_law_33 (by decide) (by decide) (by decide) (by decide) ?_
        refine r_aload_n dL_law_665 1 rfl ?_
        refine r_aload_n dL_law_666 0 rfl ?_
        refine r_iload_n dL_law_667 3 rfl ?_
        refine r_iconst (v := 1) dL_law_668 (by decide) ?_
        refine r_iadd dL_law_669 ?_
        obtain ⟨x670, e670, h⟩ := Sat_bind h
        refine r_sld e670 dL_law_670 ?_
        refine r_aload_n dL_law_671 0 rfl ?_
        refine r_iload_n dL_law_672 3 rfl ?_
        refine r_iconst (v := 2) dL_law_673 (by decide) ?_
        refine r_iadd dL_law_674 ?_
        obtain ⟨x675, e675, h⟩ := Sat_bind h
        refine r_sld e675 dL_law_675 ?_
        obtain ⟨x676, e676, h⟩ := Sat_bind h
        have hN := nz_call (t_X10_fit e676) hN
        have hC := bud_of hN (by
          obtain ⟨x, h, hx⟩ := id h
          have hk : Gr (x676.2) (x676.2) := Gr.rfl
          refine bud_le (?_ : Gr _ ((sm (fun (q : Int32 × Mm) => q.2) (fun (q : Mm) => q)) x)) (hB18 x hx)
          obtain ⟨x684, e684, h⟩ := bd h
          obtain ⟨x689, e689, h⟩ := bd h
          obtain ⟨x690, e690, h⟩ := bd h
          have hk := Gr.after (Gr.of (t_X11_fit e690)) hk
          rcases ite_e h with ⟨_, h⟩ | ⟨_, h⟩
          · exact Gr.after (t_L_law_J1398 h) hk
          · cases h)
        refine r_bV (t := 11) [.int x670, .int x675] [] (m_X10_fit n0.1 x670 x675 s18.2 e676 (mm_N x676.2 - mm_N s18.2) (mm_Z x676.2 - mm_Z s18.2) gr_N gr_Z) ck_X10_fit lk_L_79 in_X10_fit se_X10_fit (kd_of e676) ⟨rfl, by decide, by decide⟩ rfl rfl (Nat.le_of_ble_eq_true rfl) ⟨Nat.le_of_ble_eq_true rfl, Nat.le_of_ble_eq_true rfl⟩ hC dL_law_676 ?_
        refine r_aload_n dL_law_679 2 rfl ?_
        refine r_aload_n dL_law_680 0 rfl ?_
        refine r_iload_n dL_law_681 3 rfl ?_
        refine r_iconst (v := 1) dL_law_682 (by decide) ?_
        refine r_iadd dL_law_683 ?_
        obtain ⟨x684, e684, h⟩ := Sat_bind h
        refine r_sld e684 dL_law_684 ?_
        refine r_aload_n dL_law_685 0 rfl ?_
        refine r_iload_n dL_law_686 3 rfl ?_
        refine r_iconst (v := 2) dL_law_687 (by decide) ?_
        refine r_iadd dL_law_688 ?_
        obtain ⟨x689, e689, h⟩ := Sat_bind h
        refine r_sld e689 dL_law_689 ?_
        obtain ⟨x690, e690, h⟩ := Sat_bind h
        refine r_cV (t := 12) [.int x684, .int x689] [.int x676.1] (m_X11_fit n8.1 x684 x689 x676.2 e690) ck_X11_fit lk_L_82 in_X11_fit se_X11_fit (kd_of e690) ⟨rfl, by decide, by decide⟩ rfl rfl (Nat.le_of_ble_eq_true rfl) ⟨Nat.le_of_ble_eq_true rfl, Nat.le_of_ble_eq_true rfl⟩ hC dL_law_690 ?_
        have hN := nz_tl (t_X11_fit e690) hN
        refine r_icmp_eq 1398 dL_law_693 (by decide) (fun c693 => ?_) (fun c693 => ?_)
        · have h := Sat_pos c693 h
          exact r_sub [0, 1, 2, 3] rfl (J1398 s18.1 x690.2 (c18 + (mm_N x676.2 - mm_N s18.2)) (z18 + (mm_Z x676.2 - mm_Z s18.2)) hN hC h)
        · have h := Sat_neg c693 h
          exact absurd h Sat_none
      have h := Sat_neg c33_15 h
      by_cases c33_16 : (x29 &&& (63 : Int32)) = 16
      · have h := Sat_pos c33_16 h
        refine r_tabIn c33_16 665 698 dL_law_33 (by decide) (by decide) (by decide) (by decide) ?_
        refine r_aload_n dL_law_698 1 rfl ?_
        refine r_aload_n dL_law_699 0 rfl ?_
        refine r_iload_n dL_law_700 3 rfl ?_
        refine r_iconst (v := 1) dL_law_701 (by decide) ?_
        refine r_iadd dL_law_702 ?_
        obtain ⟨x703, e703, h⟩ := Sat_bind h
        refine r_sld e703 dL_law_703 ?_
        refine r_aload_n dL_law_704 0 rfl ?_
        refine r_iload_n dL_law_705 3 rfl ?_
        refine r_iconst (v := 2) dL_law_706 (by decide) ?_
        refine r_iadd dL_law_707 ?_
        obtain ⟨x708, e708, h⟩ := Sat_bind h
        refine r_sld e708 dL_law_708 ?_
        obtain ⟨x709, e709, h⟩ := Sat_bind h
        have hN := nz_call (t_X10_sure e709) hN
        have hC := bud_of hN (by
          obtain ⟨x, h, hx⟩ := id h
          have hk : Gr (x709.2) (x709.2) := Gr.rfl
          refine bud_le (?_ : Gr _ ((sm (fun (q : Int32 × Mm) => q.2) (fun (q : Mm) => q)) x)) (hB18 x hx)
          obtain ⟨x717, e717, h⟩ := bd h
          obtain ⟨x722, e722, h⟩ := bd h
          obtain ⟨x723, e723, h⟩ := bd h
          have hk := Gr.after (Gr.of (t_X11_sure e723)) hk
          rcases ite_e h with ⟨_, h⟩ | ⟨_, h⟩
          · exact Gr.after (t_L_law_J1398 h) hk
          · cases h)
        refine r_bV (t := 11) [.int x703, .int x708] [] (m_X10_sure n0.1 x703 x708 s18.2 e709 (mm_N x709.2 - mm_N s18.2) (mm_Z x709.2 - mm_Z s18.2) gr_N gr_Z) ck_X10_sure lk_L_83 in_X10_sure se_X10_sure (kd_of e709) ⟨rfl, by decide, by decide⟩ rfl rfl (Nat.le_of_ble_eq_true rfl) ⟨Nat.le_of_ble_eq_true rfl, Nat.le_of_ble_eq_true rfl⟩ hC dL_law_709 ?_
        refine r_aload_n dL_law_712 2 rfl ?_
        refine r_aload_n dL_law_713 0 rfl ?_
        refine r_iload_n dL_law_714 3 rfl ?_
        refine r_iconst (v := 1) dL_law_715 (by decide) ?_
        refine r_iadd dL_law_716 ?_
        obtain ⟨x717, e717, h⟩ := Sat_bind h
        refine r_sld e717 dL_law_717 ?_
        refine r_aload_n dL_law_718 0 rfl ?_
        refine r_iload_n dL_law_719 3 rfl ?_
        refine r_iconst (v := 2) dL_law_720 (by decide) ?_
        refine r_iadd dL_law_721 ?_
        obtain ⟨x722, e722, h⟩ := Sat_bind h
        refine r_sld e722 dL_law_722 ?_
        obtain ⟨x723, e723, h⟩ := Sat_bind h
        refine r_cV (t := 12) [.int x717, .int x722] [.int x709.1] (m_X11_sure n8.1 x717 x722 x709.2 e723) ck_X11_sure lk_L_86 in_X11_sure se_X11_sure (kd_of e723) ⟨rfl, by decide, by decide⟩ rfl rfl (Nat.le_of_ble_eq_true rfl) ⟨Nat.le_of_ble_eq_true rfl, Nat.le_of_ble_eq_true rfl⟩ hC dL_law_723 ?_
        have hN := nz_tl (t_X11_sure e723) hN
        refine r_icmp_eq 1398 dL_law_726 (by decide) (fun c726 => ?_) (fun c726 => ?_)
        · have h := Sat_pos c726 h
          exact r_sub [0, 1, 2, 3] rfl (J1398 s18.1 x723.2 (c18 + (mm_N x709.2 - mm_N s18.2)) (z18 + (mm_Z x709.2 - mm_Z s18.2)) hN hC h)
        · have h := Sat_neg c726 h
          exact absurd h Sat_none
      have h := Sat_neg c33_16 h
      by_cases c33_17 : (x29 &&& (63 : Int32)) = 17
      · have h := Sat_pos c33_17 h
        refine r_tabIn c33_17 698 731 dL_law_33 (by decide) (by decide) (by decide) (by decide) ?_
        refine r_aload_n dL_law_731 1 rfl ?_
        refine r_aload_n dL_law_732 0 rfl ?_
        refine r_iload_n dL_law_733 3 rfl ?_
        refine r_iconst (v := 1) dL_law_734 (by decide) ?_
        refine r_iadd dL_law_735 ?_
        obtain ⟨x736, e736, h⟩ := Sat_bind h
        refine r_sld e736 dL_law_736 ?_
        obtain ⟨x737, e737, h⟩ := Sat_bind h
        have hN := nz_call (t_X10_ask e737) hN
        have hC := bud_of hN (by
          obtain ⟨x, h, hx⟩ := id h
          have hk : Gr (x737.2) (x737.2) := Gr.rfl
          refine bud_le (?_ : Gr _ ((sm (fun (q : Int32 × Mm) => q.2) (fun (q : Mm) => q)) x)) (hB18 x hx)
          obtain ⟨x745, e745, h⟩ := bd h
          obtain ⟨x746, e746, h⟩ := bd h
          have hk := Gr.after (Gr.of (t_X11_ask e746)) hk
          rcases ite_e h with ⟨_, h⟩ | ⟨_, h⟩
          · exact Gr.after (t_L_law_J1398 h) hk
          · cases h)
        refine r_bV (t := 11) [.int x736] [] (m_X10_ask n0.1 x736 s18.2 e737 (mm_N x737.2 - mm_N s18.2) (mm_Z x737.2 - mm_Z s18.2) gr_N gr_Z) ck_X10_ask lk_L_87 in_X10_ask se_X10_ask (kd_of e737) ⟨rfl, by decide, by decide⟩ rfl rfl (Nat.le_of_ble_eq_true rfl) ⟨Nat.le_of_ble_eq_true rfl, Nat.le_of_ble_eq_true rfl⟩ hC dL_law_737 ?_
        refine r_aload_n dL_law_740 2 rfl ?_
        refine r_aload_n dL_law_741 0 rfl ?_
        refine r_iload_n dL_law_742 3 rfl ?_
        refine r_iconst (v := 1) dL_law_743 (by decide) ?_
        refine r_iadd dL_law_744 ?_
        obtain ⟨x745, e745, h⟩ := Sat_bind h
        refine r_sld e745 dL_law_745 ?_
        obtain ⟨x746, e746, h⟩ := Sat_bind h
        refine r_cV (t := 12) [.int x745] [.int x737.1] (m_X11_ask n8.1 x745 x737.2 e746) ck_X11_ask lk_L_90 in_X11_ask se_X11_ask (kd_of e746) ⟨rfl, by decide, by decide⟩ rfl rfl (Nat.le_of_ble_eq_true rfl) ⟨Nat.le_of_ble_eq_true rfl, Nat.le_of_ble_eq_true rfl⟩ hC dL_law_746 ?_
        have hN := nz_tl (t_X11_ask e746) hN
        refine r_icmp_eq 1398 dL_law_749 (by decide) (fun c749 => ?_) (fun c749 => ?_)
        · have h := Sat_pos c749 h
          exact r_sub [0, 1, 2, 3] rfl (J1398 s18.1 x746.2 (c18 + (mm_N x737.2 - mm_N s18.2)) (z18 + (mm_Z x737.2 - mm_Z s18.2)) hN hC h)
        · have h := Sat_neg c749 h
          exact absurd h Sat_none
      have h := Sat_neg c33_17 h
      by_cases c33_18 : (x29 &&& (63 : Int32)) = 18
      · have h := Sat_pos c33_18 h
        refine r_tabIn c33_18 721 754 dL_law_33 (by decide) (by decide) (by decide) (by decide) ?_
        refine r_aload_n dL_law_754 1 rfl ?_
        refine r_aload_n dL_law_755 0 rfl ?_
        refine r_iload_n dL_law_756 3 rfl ?_
        refine r_iconst (v := 1) dL_law_757 (by decide) ?_
        refine r_iadd dL_law_758 ?_
        obtain ⟨x759, e759, h⟩ := Sat_bind h
        refine r_sld e759 dL_law_759 ?_
        refine r_aload_n dL_law_760 0 rfl ?_
        refine r_iload_n dL_law_761 3 rfl ?_
        refine r_iconst (v := 2) dL_law_762 (by decide) ?_
        refine r_iadd dL_law_763 ?_
        obtain ⟨x764, e764, h⟩ := Sat_bind h
        refine r_sld e764 dL_law_764 ?_
        refine r_aload_n dL_law_765 0 rfl ?_
        refine r_iload_n dL_law_766 3 rfl ?_
        refine r_iconst (v := 3) dL_law_767 (by decide) ?_
        refine r_iadd dL_law_768 ?_
        obtain ⟨x769, e769, h⟩ := Sat_bind h
        refine r_sld e769 dL_law_769 ?_
        refine r_aload_n dL_law_770 0 rfl ?_
        refine r_iload_n dL_law_771 3 rfl ?_
        refine r_iconst (v := 4) dL_law_772 (by decide) ?_
        refine r_iadd dL_law_773 ?_
        obtain ⟨x774, e774, h⟩ := Sat_bind h
        refine r_sld e774 dL_law_774 ?_
        obtain ⟨x775, e775, h⟩ := Sat_bind h
        have hN := nz_call (t_X10_knowers e775) hN
        have hC := bud_of hN (by
          obtain ⟨x, h, hx⟩ := id h
          have hk : Gr (x775.2) (x775.2) := Gr.rfl
          refine bud_le (?_ : Gr _ ((sm (fun (q : Int32 × Mm) => q.2) (fun (q : Mm) => q)) x)) (hB18 x hx)
          obtain ⟨x783, e783, h⟩ := bd h
          obtain ⟨x788, e788, h⟩ := bd h
          obtain ⟨x793, e793, h⟩ := bd h
          obtain ⟨x798, e798, h⟩ := bd h
          obtain ⟨x799, e799, h⟩ := bd h
          have hk := Gr.after (Gr.of (t_X11_knowers e799)) hk
          rcases ite_e h with ⟨_, h⟩ | ⟨_, h⟩
          · exact Gr.after (t_L_law_J1398 h) hk
          · cases h)
        refine r_bV (t := 11) [.int x759, .int x764, .int x769, .int x774] [] (m_X10_knowers n0.1 x759 x764 x769 x774 s18.2 e775 (mm_N x775.2 - mm_N s18.2) (mm_Z x775.2 - mm_Z s18.2) gr_N gr_Z) ck_X10_knowers lk_L_91 in_X10_knowers se_X10_knowers (kd_of e775) ⟨rfl, by decide, by decide⟩ rfl rfl (Nat.le_of_ble_eq_true rfl) ⟨Nat.le_of_ble_eq_true rfl, Nat.le_of_ble_eq_true rfl⟩ hC dL_law_775 ?_
        refine r_aload_n dL_law_778 2 rfl ?_
        refine r_aload_n dL_law_779 0 rfl ?_
        refine r_iload_n dL_law_780 3 rfl ?_
        refine r_iconst (v := 1) dL_law_781 (by decide) ?_
        refine r_iadd dL_law_782 ?_
        obtain ⟨x783, e783, h⟩ := Sat_bind h
        refine r_sld e783 dL_law_783 ?_
        refine r_aload_n dL_law_784 0 rfl ?_
        refine r_iload_n dL_law_785 3 rfl ?_
        refine r_iconst (v := 2) dL_law_786 (by decide) ?_
        refine r_iadd dL_law_787 ?_
        obtain ⟨x788, e788, h⟩ := Sat_bind h
        refine r_sld e788 dL_law_788 ?_
        refine r_aload_n dL_law_789 0 rfl ?_
        refine r_iload_n dL_law_790 3 rfl ?_
        refine r_iconst (v := 3) dL_law_791 (by decide) ?_
        refine r_iadd dL_law_792 ?_
        obtain ⟨x793, e793, h⟩ := Sat_bind h
        refine r_sld e793 dL_law_793 ?_
        refine r_aload_n dL_law_794 0 rfl ?_
        refine r_iload_n dL_law_795 3 rfl ?_
        refine r_iconst (v := 4) dL_law_796 (by decide) ?_
        refine r_iadd dL_law_797 ?_
        obtain ⟨x798, e798, h⟩ := Sat_bind h
        refine r_sld e798 dL_law_798 ?_
        obtain ⟨x799, e799, h⟩ := Sat_bind h
        refine r_cV (t := 12) [.int x783, .int x788, .int x793, .int x798] [.int x775.1] (m_X11_knowers n8.1 x783 x788 x793 x798 x775.2 e799) ck_X11_knowers lk_L_94 in_X11_knowers se_X11_knowers (kd_of e799) ⟨rfl, by decide, by decide⟩ rfl rfl (Nat.le_of_ble_eq_true rfl) ⟨Nat.le_of_ble_eq_true rfl, Nat.le_of_ble_eq_true rfl⟩ hC dL_law_799 ?_
        have hN := nz_tl (t_X11_knowers e799) hN
        refine r_icmp_eq 1398 dL_law_802 (by decide) (fun c802 => ?_) (fun c802 => ?_)
        · have h := Sat_pos c802 h
          exact r_sub [0, 1, 2, 3] rfl (J1398 s18.1 x799.2 (c18 + (mm_N x775.2 - mm_N s18.2)) (z18 + (mm_Z x775.2 - mm_Z s18.2)) hN hC h)
        · have h := Sat_neg c802 h
          exact absurd h Sat_none
      have h := Sat_neg c33_18 h
      by_cases c33_19 : (x29 &&& (63 : Int32)) = 19
      · have h := Sat_pos c33_19 h
        refine r_tabIn c33_19 774 807 dL_law_33 (by decide) (by decide) (by decide) (by decide) ?_
        refine r_aload_n dL_law_807 1 rfl ?_
        obtain ⟨x808, e808, h⟩ := Sat_bind h
        refine r_cV (t := 11) [] [] (m_X10_wishes n0.1 s18.2 e808) ck_X10_wishes lk_L_95 in_X10_wishes se_X10_wishes (kd_of e808) ⟨rfl, by decide, by decide⟩ rfl rfl (Nat.le_of_ble_eq_true rfl) ⟨Nat.le_of_ble_eq_true rfl, Nat.le_of_ble_eq_true rfl⟩ hC dL_law_808 ?_
        refine r_aload_n dL_law_811 2 rfl ?_
        obtain ⟨x812, e812, h⟩ := Sat_bind h
        refine r_cV (t := 12) [] [.int x808] (m_X11_wishes n8.1 s18.2 e812) ck_X11_wishes lk_L_98 in_X11_wishes se_X11_wishes (kd_of e812) ⟨rfl, by decide, by decide⟩ rfl rfl (Nat.le_of_ble_eq_true rfl) ⟨Nat.le_of_ble_eq_true rfl, Nat.le_of_ble_eq_true rfl⟩ hC dL_law_812 ?_
        refine r_icmp_eq 1398 dL_law_815 (by decide) (fun c815 => ?_) (fun c815 => ?_)
        · have h := Sat_pos c815 h
          exact r_sub [0, 1, 2, 3] rfl (J1398 s18.1 s18.2 c18 z18 hN hC h)
        · have h := Sat_neg c815 h
          exact absurd h Sat_none
      have h := Sat_neg c33_19 h
      by_cases c33_20 : (x29 &&& (63 : Int32)) = 20
      · have h := Sat_pos c33_20 h
        refine r_tabIn c33_20 787 820 dL_law_33 (by decide) (by decide) (by decide) (by decide) ?_
        refine r_aload_n dL_law_820 1 rfl ?_
        refine r_aload_n dL_law_821 0 rfl ?_
        refine r_iload_n dL_law_822 3 rfl ?_
        refine r_iconst (v := 1) dL_law_823 (by decide) ?_
        refine r_iadd dL_law_824 ?_
        obtain ⟨x825, e825, h⟩ := Sat_bind h
        refine r_sld e825 dL_law_825 ?_
        obtain ⟨x826, e826, h⟩ := Sat_bind h
        refine r_cV (t := 11) [.int x825] [] (m_X10_met n0.1 x825 s18.2 e826) ck_X10_met lk_L_99 in_X10_met se_X10_met (kd_of e826) ⟨rfl, by decide, by decide⟩ rfl rfl (Nat.le_of_ble_eq_true rfl) ⟨Nat.le_of_ble_eq_true rfl, Nat.le_of_ble_eq_true rfl⟩ hC dL_law_826 ?_
        have hN := nz_tl (t_X10_met e826) hN
        refine r_aload_n dL_law_829 2 rfl ?_
        refine r_aload_n dL_law_830 0 rfl ?_
        refine r_iload_n dL_law_831 3 rfl ?_
        refine r_iconst (v := 1) dL_law_832 (by decide) ?_
        refine r_iadd dL_law_833 ?_
        obtain ⟨x834, e834, h⟩ := Sat_bind h
        refine r_sld e834 dL_law_834 ?_
        obtain ⟨x835, e835, h⟩ := Sat_bind h
        refine r_cV (t := 12) [.int x834] [.int x826.1] (m_X11_met n8.1 x834 x826.2 e835) ck_X11_met lk_L_102 in_X11_met se_X11_met (kd_of e835) ⟨rfl, by decide, by decide⟩ rfl rfl (Nat.le_of_ble_eq_true rfl) ⟨Nat.le_of_ble_eq_true rfl, Nat.le_of_ble_eq_true rfl⟩ hC dL_law_835 ?_
        have hN := nz_tl (t_X11_met e835) hN
        refine r_icmp_eq 1398 dL_law_838 (by decide) (fun c838 => ?_) (fun c838 => ?_)
        · have h := Sat_pos c838 h
          exact r_sub [0, 1, 2, 3] rfl (J1398 s18.1 x835.2 c18 z18 hN hC h)
        · have h := Sat_neg c838 h
          exact absurd h Sat_none
      have h := Sat_neg c33_20 h
      by_cases c33_21 : (x29 &&& (63 : Int32)) = 21
      · have h := Sat_pos c33_21 h
        refine r_tabIn c33_21 810 843 dL_law_33 (by decide) (by decide) (by decide) (by decide) ?_
        refine r_aload_n dL_law_843 1 rfl ?_
        obtain ⟨x844, e844, h⟩ := Sat_bind h
        refine r_cV (t := 11) [] [] (m_X10_plan n0.1 s18.2 e844) ck_X10_plan lk_L_103 in_X10_plan se_X10_plan (kd_of e844) ⟨rfl, by decide, by decide⟩ rfl rfl (Nat.le_of_ble_eq_true rfl) ⟨Nat.le_of_ble_eq_true rfl, Nat.le_of_ble_eq_true rfl⟩ hC dL_law_844 ?_
        have hN := nz_tl (t_X10_plan e844) hN
        refine r_aload_n dL_law_847 2 rfl ?_
        obtain ⟨x848, e848, h⟩ := Sat_bind h
        refine r_cV (t := 12) [] [.int x844.1] (m_X11_plan n8.1 x844.2 e848) ck_X11_plan lk_L_106 in_X11_plan se_X11_plan (kd_of e848) ⟨rfl, by decide, by decide⟩ rfl rfl (Nat.le_of_ble_eq_true rfl) ⟨Nat.le_of_ble_eq_true rfl, Nat.le_of_ble_eq_true rfl⟩ hC dL_law_848 ?_
        have hN := nz_tl (t_X11_plan e848) hN
        refine r_icmp_eq 1398 dL_law_851 (by decide) (fun c851 => ?_) (fun c851 => ?_)
        · have h := Sat_pos c851 h
          exact r_sub [0, 1, 2, 3] rfl (J1398 s18.1 x848.2 c18 z18 hN hC h)
        · have h := Sat_neg c851 h
          exact absurd h Sat_none
      have h := Sat_neg c33_21 h
      by_cases c33_22 : (x29 &&& (63 : Int32)) = 22
      · have h := Sat_pos c33_22 h
        refine r_tabIn c33_22 823 856 dL_law_33 (by decide) (by decide) (by decide) (by decide) ?_
        refine r_aload_n dL_law_856 1 rfl ?_
        refine r_aload_n dL_law_857 0 rfl ?_
        refine r_iload_n dL_law_858 3 rfl ?_
        refine r_iconst (v := 1) dL_law_859 (by decide) ?_
        refine r_iadd dL_law_860 ?_
        obtain ⟨x861, e861, h⟩ := Sat_bind h
        refine r_sld e861 dL_law_861 ?_
        refine r_aload_n dL_law_862 0 rfl ?_
        refine r_iload_n dL_law_863 3 rfl ?_
        refine r_iconst (v := 2) dL_law_864 (by decide) ?_
        refine r_iadd dL_law_865 ?_
        obtain ⟨x866, e866, h⟩ := Sat_bind h
        refine r_sld e866 dL_law_866 ?_
        refine r_aload_n dL_law_867 0 rfl ?_
        refine r_iload_n dL_law_868 3 rfl ?_
        refine r_iconst (v := 3) dL_law_869 (by decide) ?_
        refine r_iadd dL_law_870 ?_
        obtain ⟨x871, e871, h⟩ := Sat_bind h
        refine r_sld e871 dL_law_871 ?_
        obtain ⟨x872, e872, h⟩ := Sat_bind h
        refine r_cV (t := 11) [.int x861, .int x866, .int x871] [] (m_X10_said n0.1 x861 x866 x871 s18.2 e872) ck_X10_said lk_L_107 in_X10_said se_X10_said (kd_of e872) ⟨rfl, by decide, by decide⟩ rfl rfl (Nat.le_of_ble_eq_true rfl) ⟨Nat.le_of_ble_eq_true rfl, Nat.le_of_ble_eq_true rfl⟩ hC dL_law_872 ?_
        have hN := nz_tl (t_X10_said e872) hN
        refine r_aload_n dL_law_875 2 rfl ?_
        refine r_aload_n dL_law_876 0 rfl ?_
        refine r_iload_n dL_law_877 3 rfl ?_
        refine r_iconst (v := 1) dL_law_878 (by decide) ?_
        refine r_iadd dL_law_879 ?_
        obtain ⟨x880, e880, h⟩ := Sat_bind h
        refine r_sld e880 dL_law_880 ?_
        refine r_aload_n dL_law_881 0 rfl ?_
        refine r_iload_n dL_law_882 3 rfl ?_
        refine r_iconst (v := 2) dL_law_883 (by decide) ?_
        refine r_iadd dL_law_884 ?_
        obtain ⟨x885, e885, h⟩ := Sat_bind h
        refine r_sld e885 dL_law_885 ?_
        refine r_aload_n dL_law_886 0 rfl ?_
        refine r_iload_n dL_law_887 3 rfl ?_
        refine r_iconst (v := 3) dL_law_888 (by decide) ?_
        refine r_iadd dL_law_889 ?_
        obtain ⟨x890, e890, h⟩ := Sat_bind h
        refine r_sld e890 dL_law_890 ?_
        obtain ⟨x891, e891, h⟩ := Sat_bind h
        refine r_cV (t := 12) [.int x880, .int x885, .int x890] [.int x872.1] (m_X11_said n8.1 x880 x885 x890 x872.2 e891) ck_X11_said lk_L_110 in_X11_said se_X11_said (kd_of e891) ⟨rfl, by decide, by decide⟩ rfl rfl (Nat.le_of_ble_eq_true rfl) ⟨Nat.le_of_ble_eq_true rfl, Nat.le_of_ble_eq_true rfl⟩ hC dL_law_891 ?_
        have hN := nz_tl (t_X11_said e891) hN
        refine r_icmp_eq 1398 dL_law_894 (by decide) (fun c894 => ?_) (fun c894 => ?_)
        · have h := Sat_pos c894 h
          exact r_sub [0, 1, 2, 3] rfl (J1398 s18.1 x891.2 c18 z18 hN hC h)
        · have h := Sat_neg c894 h
          exact absurd h Sat_none
      have h := Sat_neg c33_22 h
      by_cases c33_23 : (x29 &&& (63 : Int32)) = 23
      · have h := Sat_pos c33_23 h
        refine r_tabIn c33_23 866 899 dL_law_33 (by decide) (by decide) (by decide) (by decide) ?_
        refine r_aload_n dL_law_899 1 rfl ?_
        refine r_aload_n dL_law_900 0 rfl ?_
        refine r_iload_n dL_law_901 3 rfl ?_
        refine r_iconst (v := 1) dL_law_902 (by decide) ?_
        refine r_iadd dL_law_903 ?_
        obtain ⟨x904, e904, h⟩ := Sat_bind h
        refine r_sld e904 dL_law_904 ?_
        refine r_aload_n dL_law_905 0 rfl ?_
        refine r_iload_n dL_law_906 3 rfl ?_
        refine r_iconst (v := 2) dL_law_907 (by decide) ?_
        refine r_iadd dL_law_908 ?_
        obtain ⟨x909, e909, h⟩ := Sat_bind h
        refine r_sld e909 dL_law_909 ?_
        refine r_aload_n dL_law_910 0 rfl ?_
        refine r_iload_n dL_law_911 3 rfl ?_
        refine r_iconst (v := 3) dL_law_912 (by decide) ?_
        refine r_iadd dL_law_913 ?_
        obtain ⟨x914, e914, h⟩ := Sat_bind h
        refine r_sld e914 dL_law_914 ?_
        refine r_aload_n dL_law_915 0 rfl ?_
        refine r_iload_n dL_law_916 3 rfl ?_
        refine r_iconst (v := 4) dL_law_917 (by decide) ?_
        refine r_iadd dL_law_918 ?_
        obtain ⟨x919, e919, h⟩ := Sat_bind h
        refine r_sld e919 dL_law_919 ?_
        obtain ⟨x920, e920, h⟩ := Sat_bind h
        refine r_cV (t := 11) [.int x904, .int x909, .int x914, .int x919] [] (m_X10_over n0.1 x904 x909 x914 x919 s18.2 e920) ck_X10_over lk_L_111 in_X10_over se_X10_over (kd_of e920) ⟨rfl, by decide, by decide⟩ rfl rfl (Nat.le_of_ble_eq_true rfl) ⟨Nat.le_of_ble_eq_true rfl, Nat.le_of_ble_eq_true rfl⟩ hC dL_law_920 ?_
        have hN := nz_tl (t_X10_over e920) hN
        refine r_aload_n dL_law_923 2 rfl ?_
        refine r_aload_n dL_law_924 0 rfl ?_
        refine r_iload_n dL_law_925 3 rfl ?_
        refine r_iconst (v := 1) dL_law_926 (by decide) ?_
        refine r_iadd dL_law_927 ?_
        obtain ⟨x928, e928, h⟩ := Sat_bind h
        refine r_sld e928 dL_law_928 ?_
        refine r_aload_n dL_law_929 0 rfl ?_
        refine r_iload_n dL_law_930 3 rfl ?_
        refine r_iconst (v := 2) dL_law_931 (by decide) ?_
        refine r_iadd dL_law_932 ?_
        obtain ⟨x933, e933, h⟩ := Sat_bind h
        refine r_sld e933 dL_law_933 ?_
        refine r_aload_n dL_law_934 0 rfl ?_
        refine r_iload_n dL_law_935 3 rfl ?_
        refine r_iconst (v := 3) dL_law_936 (by decide) ?_
        refine r_iadd dL_law_937 ?_
        obtain ⟨x938, e938, h⟩ := Sat_bind h
        refine r_sld e938 dL_law_938 ?_
        refine r_aload_n dL_law_939 0 rfl ?_
        refine r_iload_n dL_law_940 3 rfl ?_
        refine r_iconst (v := 4) dL_law_941 (by decide) ?_
        refine r_iadd dL_law_942 ?_
        obtain ⟨x943, e943, h⟩ := Sat_bind h
        refine r_sld e943 dL_law_943 ?_
        obtain ⟨x944, e944, h⟩ := Sat_bind h
        refine r_cV (t := 12) [.int x928, .int x933, .int x938, .int x943] [.int x920.1] (m_X11_over n8.1 x928 x933 x938 x943 x920.2 e944) ck_X11_over lk_L_114 in_X11_over se_X11_over (kd_of e944) ⟨rfl, by decide, by decide⟩ rfl rfl (Nat.le_of_ble_eq_true rfl) ⟨Nat.le_of_ble_eq_true rfl, Nat.le_of_ble_eq_true rfl⟩ hC dL_law_944 ?_
        have hN := nz_tl (t_X11_over e944) hN
        refine r_icmp_eq 1398 dL_law_947 (by decide) (fun c947 => ?_) (fun c947 => ?_)
        · have h := Sat_pos c947 h
          exact r_sub [0, 1, 2, 3] rfl (J1398 s18.1 x944.2 c18 z18 hN hC h)
        · have h := Sat_neg c947 h
          exact absurd h Sat_none
      have h := Sat_neg c33_23 h
      by_cases c33_24 : (x29 &&& (63 : Int32)) = 24
      · have h := Sat_pos c33_24 h
        refine r_tabIn c33_24 919 952 dL_law_33 (by decide) (by decide) (by decide) (by decide) ?_
        refine r_aload_n dL_law_952 1 rfl ?_
        refine r_aload_n dL_law_953 0 rfl ?_
        refine r_iload_n dL_law_954 3 rfl ?_
        refine r_iconst (v := 1) dL_law_955 (by decide) ?_
        refine r_iadd dL_law_956 ?_
        obtain ⟨x957, e957, h⟩ := Sat_bind h
        refine r_sld e957 dL_law_957 ?_
        refine r_aload_n dL_law_958 0 rfl ?_
        refine r_iload_n dL_law_959 3 rfl ?_
        refine r_iconst (v := 2) dL_law_960 (by decide) ?_
        refine r_iadd dL_law_961 ?_
        obtain ⟨x962, e962, h⟩ := Sat_bind h
        refine r_sld e962 dL_law_962 ?_
        obtain ⟨x963, e963, h⟩ := Sat_bind h
        refine r_cV (t := 11) [.int x957, .int x962] [] (m_X10_skill n0.1 x957 x962 s18.2 e963) ck_X10_skill lk_L_115 in_X10_skill se_X10_skill (kd_of e963) ⟨rfl, by decide, by decide⟩ rfl rfl (Nat.le_of_ble_eq_true rfl) ⟨Nat.le_of_ble_eq_true rfl, Nat.le_of_ble_eq_true rfl⟩ hC dL_law_963 ?_
        have hN := nz_tl (t_X10_skill e963) hN
        refine r_aload_n dL_law_966 2 rfl ?_
        refine r_aload_n dL_law_967 0 rfl ?_
        refine r_iload_n dL_law_968 3 rfl ?_
        refine r_iconst (v := 1) dL_law_969 (by decide) ?_
        refine r_iadd dL_law_970 ?_
        obtain ⟨x971, e971, h⟩ := Sat_bind h
        refine r_sld e971 dL_law_971 ?_
        refine r_aload_n dL_law_972 0 rfl ?_
        refine r_iload_n dL_law_973 3 rfl ?_
        refine r_iconst (v := 2) dL_law_974 (by decide) ?_
        refine r_iadd dL_law_975 ?_
        obtain ⟨x976, e976, h⟩ := Sat_bind h
        refine r_sld e976 dL_law_976 ?_
        obtain ⟨x977, e977, h⟩ := Sat_bind h
        refine r_cV (t := 12) [.int x971, .int x976] [.int x963.1] (m_X11_skill n8.1 x971 x976 x963.2 e977) ck_X11_skill lk_L_118 in_X11_skill se_X11_skill (kd_of e977) ⟨rfl, by decide, by decide⟩ rfl rfl (Nat.le_of_ble_eq_true rfl) ⟨Nat.le_of_ble_eq_true rfl, Nat.le_of_ble_eq_true rfl⟩ hC dL_law_977 ?_
        have hN := nz_tl (t_X11_skill e977) hN
        refine r_icmp_eq 1398 dL_law_980 (by decide) (fun c980 => ?_) (fun c980 => ?_)
        · have h := Sat_pos c980 h
          exact r_sub [0, 1, 2, 3] rfl (J1398 s18.1 x977.2 c18 z18 hN hC h)
        · have h := Sat_neg c980 h
          exact absurd h Sat_none
      have h := Sat_neg c33_24 h
      by_cases c33_25 : (x29 &&& (63 : Int32)) = 25
      · have h := Sat_pos c33_25 h
        refine r_tabIn c33_25 952 985 dL_law_33 (by decide) (by decide) (by decide) (by decide) ?_
        refine r_aload_n dL_law_985 1 rfl ?_
        refine r_aload_n dL_law_986 0 rfl ?_
        refine r_iload_n dL_law_987 3 rfl ?_
        refine r_iconst (v := 1) dL_law_988 (by decide) ?_
        refine r_iadd dL_law_989 ?_
        obtain ⟨x990, e990, h⟩ := Sat_bind h
        refine r_sld e990 dL_law_990 ?_
        obtain ⟨x991, e991, h⟩ := Sat_bind h
        refine r_cV (t := 11) [.int x990] [] (m_X10_ring n0.1 x990 s18.2 e991) ck_X10_ring lk_L_119 in_X10_ring se_X10_ring (kd_of e991) ⟨rfl, by decide, by decide⟩ rfl rfl (Nat.le_of_ble_eq_true rfl) ⟨Nat.le_of_ble_eq_true rfl, Nat.le_of_ble_eq_true rfl⟩ hC dL_law_991 ?_
        refine r_aload_n dL_law_994 2 rfl ?_
        refine r_aload_n dL_law_995 0 rfl ?_
        refine r_iload_n dL_law_996 3 rfl ?_
        refine r_iconst (v := 1) dL_law_997 (by decide) ?_
        refine r_iadd dL_law_998 ?_
        obtain ⟨x999, e999, h⟩ := Sat_bind h
        refine r_sld e999 dL_law_999 ?_
        obtain ⟨x1000, e1000, h⟩ := Sat_bind h
        refine r_cV (t := 12) [.int x999] [.int x991] (m_X11_ring n8.1 x999 s18.2 e1000) ck_X11_ring lk_L_122 in_X11_ring se_X11_ring (kd_of e1000) ⟨rfl, by decide, by decide⟩ rfl rfl (Nat.le_of_ble_eq_true rfl) ⟨Nat.le_of_ble_eq_true rfl, Nat.le_of_ble_eq_true rfl⟩ hC dL_law_1000 ?_
        refine r_icmp_eq 1398 dL_law_1003 (by decide) (fun c1003 => ?_) (fun c1003 => ?_)
        · have h := Sat_pos c1003 h
          exact r_sub [0, 1, 2, 3] rfl (J1398 s18.1 s18.2 c18 z18 hN hC h)
        · have h := Sat_neg c1003 h
          exact absurd h Sat_none
      have h := Sat_neg c33_25 h
      by_cases c33_26 : (x29 &&& (63 : Int32)) = 26
      · have h := Sat_pos c33_26 h
        refine r_tabIn c33_26 975 1008 dL_law_33 (by decide) (by decide) (by decide) (by decide) ?_
        refine r_aload_n dL_law_1008 1 rfl ?_
        refine r_aload_n dL_law_1009 0 rfl ?_
        refine r_iload_n dL_law_1010 3 rfl ?_
        refine r_iconst (v := 1) dL_law_1011 (by decide) ?_
        refine r_iadd dL_law_1012 ?_
        obtain ⟨x1013, e1013, h⟩ := Sat_bind h
        refine r_sld e1013 dL_law_1013 ?_
        refine r_aload_n dL_law_1014 0 rfl ?_
        refine r_iload_n dL_law_1015 3 rfl ?_
        refine r_iconst (v := 2) dL_law_1016 (by decide) ?_
        refine r_iadd dL_law_1017 ?_
        obtain ⟨x1018, e1018, h⟩ := Sat_bind h
        refine r_sld e1018 dL_law_1018 ?_
        obtain ⟨x1019, e1019, h⟩ := Sat_bind h
        refine r_cV (t := 11) [.int x1013, .int x1018] [] (m_X10_marry n0.1 x1013 x1018 s18.2 e1019) ck_X10_marry lk_L_123 in_X10_marry se_X10_marry (kd_of e1019) ⟨rfl, by decide, by decide⟩ rfl rfl (Nat.le_of_ble_eq_true rfl) ⟨Nat.le_of_ble_eq_true rfl, Nat.le_of_ble_eq_true rfl⟩ hC dL_law_1019 ?_
        refine r_aload_n dL_law_1022 2 rfl ?_
        refine r_aload_n dL_law_1023 0 rfl ?_
        refine r_iload_n dL_law_1024 3 rfl ?_
        refine r_iconst (v := 1) dL_law_1025 (by decide) ?_
        refine r_iadd dL_law_1026 ?_
        obtain ⟨x1027, e1027, h⟩ := Sat_bind h
        refine r_sld e1027 dL_law_1027 ?_
        refine r_aload_n dL_law_1028 0 rfl ?_
        refine r_iload_n dL_law_1029 3 rfl ?_
        refine r_iconst (v := 2) dL_law_1030 (by decide) ?_
        refine r_iadd dL_law_1031 ?_
        obtain ⟨x1032, e1032, h⟩ := Sat_bind h
        refine r_sld e1032 dL_law_1032 ?_
        obtain ⟨x1033, e1033, h⟩ := Sat_bind h
        refine r_cV (t := 12) [.int x1027, .int x1032] [.int x1019] (m_X11_marry n8.1 x1027 x1032 s18.2 e1033) ck_X11_marry lk_L_126 in_X11_marry se_X11_marry (kd_of e1033) ⟨rfl, by decide, by decide⟩ rfl rfl (Nat.le_of_ble_eq_true rfl) ⟨Nat.le_of_ble_eq_true rfl, Nat.le_of_ble_eq_true rfl⟩ hC dL_law_1033 ?_
        refine r_icmp_eq 1398 dL_law_1036 (by decide) (fun c1036 => ?_) (fun c1036 => ?_)
        · have h := Sat_pos c1036 h
          exact r_sub [0, 1, 2, 3] rfl (J1398 s18.1 s18.2 c18 z18 hN hC h)
        · have h := Sat_neg c1036 h
          exact absurd h Sat_none
      have h := Sat_neg c33_26 h
      by_cases c33_27 : (x29 &&& (63 : Int32)) = 27
      · have h := Sat_pos c33_27 h
        refine r_tabIn c33_27 1008 1041 dL_law_33 (by decide) (by decide) (by decide) (by decide) ?_
        refine r_aload_n dL_law_1041 1 rfl ?_
        refine r_aload_n dL_law_1042 0 rfl ?_
        refine r_iload_n dL_law_1043 3 rfl ?_
        refine r_iconst (v := 1) dL_law_1044 (by decide) ?_
        refine r_iadd dL_law_1045 ?_
        obtain ⟨x1046, e1046, h⟩ := Sat_bind h
        refine r_sld e1046 dL_law_1046 ?_
        refine r_aload_n dL_law_1047 0 rfl ?_
        refine r_iload_n dL_law_1048 3 rfl ?_
        refine r_iconst (v := 2) dL_law_1049 (by decide) ?_
        refine r_iadd dL_law_1050 ?_
        obtain ⟨x1051, e1051, h⟩ := Sat_bind h
        refine r_sld e1051 dL_law_1051 ?_
        refine r_aload_n dL_law_1052 0 rfl ?_
        refine r_iload_n dL_law_1053 3 rfl ?_
        refine r_iconst (v := 3) dL_law_1054 (by decide) ?_
        refine r_iadd dL_law_1055 ?_
        obtain ⟨x1056, e1056, h⟩ := Sat_bind h
        refine r_sld e1056 dL_law_1056 ?_
        obtain ⟨x1057, e1057, h⟩ := Sat_bind h
        refine r_cV (t := 11) [.int x1046, .int x1051, .int x1056] [] (m_X10_kept n0.1 x1046 x1051 x1056 s18.2 e1057) ck_X10_kept lk_L_127 in_X10_kept se_X10_kept (kd_of e1057) ⟨rfl, by decide, by decide⟩ rfl rfl (Nat.le_of_ble_eq_true rfl) ⟨Nat.le_of_ble_eq_true rfl, Nat.le_of_ble_eq_true rfl⟩ hC dL_law_1057 ?_
        have hN := nz_tl (t_X10_kept e1057) hN
        refine r_aload_n dL_law_1060 2 rfl ?_
        refine r_aload_n dL_law_1061 0 rfl ?_
        refine r_iload_n dL_law_1062 3 rfl ?_
        refine r_iconst (v := 1) dL_law_1063 (by decide) ?_
        refine r_iadd dL_law_1064 ?_
        obtain ⟨x1065, e1065, h⟩ := Sat_bind h
        refine r_sld e1065 dL_law_1065 ?_
        refine r_aload_n dL_law_1066 0 rfl ?_
        refine r_iload_n dL_law_1067 3 rfl ?_
        refine r_iconst (v := 2) dL_law_1068 (by decide) ?_
        refine r_iadd dL_law_1069 ?_
        obtain ⟨x1070, e1070, h⟩ := Sat_bind h
        refine r_sld e1070 dL_law_1070 ?_
        refine r_aload_n dL_law_1071 0 rfl ?_
        refine r_iload_n dL_law_1072 3 rfl ?_
        refine r_iconst (v := 3) dL_law_1073 (by decide) ?_
        refine r_iadd dL_law_1074 ?_
        obtain ⟨x1075, e1075, h⟩ := Sat_bind h
        refine r_sld e1075 dL_law_1075 ?_
        obtain ⟨x1076, e1076, h⟩ := Sat_bind h
        refine r_cV (t := 12) [.int x1065, .int x1070, .int x1075] [.int x1057.1] (m_X11_kept n8.1 x1065 x1070 x1075 x1057.2 e1076) ck_X11_kept lk_L_130 in_X11_kept se_X11_kept (kd_of e1076) ⟨rfl, by decide, by decide⟩ rfl rfl (Nat.le_of_ble_eq_true rfl) ⟨Nat.le_of_ble_eq_true rfl, Nat.le_of_ble_eq_true rfl⟩ hC dL_law_1076 ?_
        have hN := nz_tl (t_X11_kept e1076) hN
        refine r_icmp_eq 1398 dL_law_1079 (by decide) (fun c1079 => ?_) (fun c1079 => ?_)
        · have h := Sat_pos c1079 h
          exact r_sub [0, 1, 2, 3] rfl (J1398 s18.1 x1076.2 c18 z18 hN hC h)
        · have h := Sat_neg c1079 h
          exact absurd h Sat_none
      have h := Sat_neg c33_27 h
      by_cases c33_28 : (x29 &&& (63 : Int32)) = 28
      · have h := Sat_pos c33_28 h
        refine r_tabIn c33_28 1051 1084 dL_law_33 (by decide) (by decide) (by decide) (by decide) ?_
        refine r_aload_n dL_law_1084 1 rfl ?_
        refine r_aload_n dL_law_1085 0 rfl ?_
        refine r_iload_n dL_law_1086 3 rfl ?_
        refine r_iconst (v := 1) dL_law_1087 (by decide) ?_
        refine r_iadd dL_law_1088 ?_
        obtain ⟨x1089, e1089, h⟩ := Sat_bind h
        refine r_sld e1089 dL_law_1089 ?_
        refine r_aload_n dL_law_1090 0 rfl ?_
        refine r_iload_n dL_law_1091 3 rfl ?_
        refine r_iconst (v := 2) dL_law_1092 (by decide) ?_
        refine r_iadd dL_law_1093 ?_
        obtain ⟨x1094, e1094, h⟩ := Sat_bind h
        refine r_sld e1094 dL_law_1094 ?_
        refine r_aload_n dL_law_1095 0 rfl ?_
        refine r_iload_n dL_law_1096 3 rfl ?_
        refine r_iconst (v := 3) dL_law_1097 (by decide) ?_
        refine r_iadd dL_law_1098 ?_
        obtain ⟨x1099, e1099, h⟩ := Sat_bind h
        refine r_sld e1099 dL_law_1099 ?_
        refine r_aload_n dL_law_1100 0 rfl ?_
        refine r_iload_n dL_law_1101 3 rfl ?_
        refine r_iconst (v := 4) dL_law_1102 (by decide) ?_
        refine r_iadd dL_law_1103 ?_
        obtain ⟨x1104, e1104, h⟩ := Sat_bind h
        refine r_sld e1104 dL_law_1104 ?_
        refine r_if_eq 1112 dL_law_1105 (by decide) (fun c1105 => ?_) (fun c1105 => ?_)
        · have h := Sat_pos c1105 h
          refine r_iconst (v := 0) dL_law_1112 (by decide) ?_
          exact r_sub [0, 1, 2, 3] rfl (J1113 s18.1 n0.1 x1089 x1094 x1099 (0 : Int32) s18.2 c18 z18 hN hC h)
        · have h := Sat_neg c1105 h
          refine r_iconst (v := 1) dL_law_1108 (by decide) ?_
          refine r_goto 1113 dL_law_1109 (by decide) ?_
          exact r_sub [0, 1, 2, 3] rfl (J1113 s18.1 n0.1 x1089 x1094 x1099 (1 : Int32) s18.2 c18 z18 hN hC h)
      have h := Sat_neg c33_28 h
      by_cases c33_29 : (x29 &&& (63 : Int32)) = 29
      · have h := Sat_pos c33_29 h
        refine r_tabIn c33_29 1120 1153 dL_law_33 (by decide) (by decide) (by decide) (by decide) ?_
        refine r_aload_n dL_law_1153 1 rfl ?_
        refine r_aload_n dL_law_1154 0 rfl ?_
        refine r_iload_n dL_law_1155 3 rfl ?_
        refine r_iconst (v := 1) dL_law_1156 (by decide) ?_
        refine r_iadd dL_law_1157 ?_
        obtain ⟨x1158, e1158, h⟩ := Sat_bind h
        refine r_sld e1158 dL_law_1158 ?_
        refine r_aload_n dL_law_1159 0 rfl ?_
        refine r_iload_n dL_law_1160 3 rfl ?_
        refine r_iconst (v := 2) dL_law_1161 (by decide) ?_
        refine r_iadd dL_law_1162 ?_
        obtain ⟨x1163, e1163, h⟩ := Sat_bind h
        refine r_sld e1163 dL_law_1163 ?_
        refine r_if_eq 1171 dL_law_1164 (by decide) (fun c1164 => ?_) (fun c1164 => ?_)
        · have h := Sat_pos c1164 h
          refine r_iconst (v := 0) dL_law_1171 (by decide) ?_
          exact r_sub [0, 1, 2, 3] rfl (J1172 s18.1 n0.1 x1158 (0 : Int32) s18.2 c18 z18 hN hC h)
        · have h := Sat_neg c1164 h
          refine r_iconst (v := 1) dL_law_1167 (by decide) ?_
          refine r_goto 1172 dL_law_1168 (by decide) ?_
          exact r_sub [0, 1, 2, 3] rfl (J1172 s18.1 n0.1 x1158 (1 : Int32) s18.2 c18 z18 hN hC h)
      have h := Sat_neg c33_29 h
      by_cases c33_30 : (x29 &&& (63 : Int32)) = 30
      · have h := Sat_pos c33_30 h
        refine r_tabIn c33_30 1169 1202 dL_law_33 (by decide) (by decide) (by decide) (by decide) ?_
        refine r_aload_n dL_law_1202 1 rfl ?_
        obtain ⟨x1203, e1203, h⟩ := Sat_bind h
        refine r_cV (t := 11) [] [] (m_X10_rings n0.1 s18.2 e1203) ck_X10_rings lk_L_141 in_X10_rings se_X10_rings (kd_of e1203) ⟨rfl, by decide, by decide⟩ rfl rfl (Nat.le_of_ble_eq_true rfl) ⟨Nat.le_of_ble_eq_true rfl, Nat.le_of_ble_eq_true rfl⟩ hC dL_law_1203 ?_
        have hN := nz_tl (t_X10_rings e1203) hN
        refine r_aload_n dL_law_1206 2 rfl ?_
        obtain ⟨x1207, e1207, h⟩ := Sat_bind h
        refine r_cV (t := 12) [] [.long x1203.1] (m_X11_rings n8.1 x1203.2 e1207) ck_X11_rings lk_L_145 in_X11_rings se_X11_rings (kd_of e1207) ⟨rfl, by decide, by decide⟩ rfl rfl (Nat.le_of_ble_eq_true rfl) ⟨Nat.le_of_ble_eq_true rfl, Nat.le_of_ble_eq_true rfl⟩ hC dL_law_1207 ?_
        have hN := nz_tl (t_X11_rings e1207) hN
        refine r_lcmp dL_law_1210 ?_
        refine r_if_eq 1398 dL_law_1211 (by decide) (fun c1211 => ?_) (fun c1211 => ?_)
        · have h := Sat_pos c1211 h
          exact r_sub [0, 1, 2, 3] rfl (J1398 s18.1 x1207.2 c18 z18 hN hC h)
        · have h := Sat_neg c1211 h
          exact absurd h Sat_none
      have h := Sat_neg c33_30 h
      by_cases c33_31 : (x29 &&& (63 : Int32)) = 31
      · have h := Sat_pos c33_31 h
        refine r_tabIn c33_31 1183 1216 dL_law_33 (by decide) (by decide) (by decide) (by decide) ?_
        refine r_aload_n dL_law_1216 1 rfl ?_
        refine r_aload_n dL_law_1217 0 rfl ?_
        refine r_iload_n dL_law_1218 3 rfl ?_
        refine r_iconst (v := 1) dL_law_1219 (by decide) ?_
        refine r_iadd dL_law_1220 ?_
        obtain ⟨x1221, e1221, h⟩ := Sat_bind h
        refine r_sld e1221 dL_law_1221 ?_
        refine r_aload_n dL_law_1222 0 rfl ?_
        refine r_iload_n dL_law_1223 3 rfl ?_
        refine r_iconst (v := 2) dL_law_1224 (by decide) ?_
        refine r_iadd dL_law_1225 ?_
        obtain ⟨x1226, e1226, h⟩ := Sat_bind h
        refine r_sld e1226 dL_law_1226 ?_
        obtain ⟨x1227, e1227, h⟩ := Sat_bind h
        refine r_cV (t := 11) [.int x1221, .int x1226] [] (m_X10_parts n0.1 x1221 x1226 s18.2 e1227) ck_X10_parts lk_L_146 in_X10_parts se_X10_parts (kd_of e1227) ⟨rfl, by decide, by decide⟩ rfl rfl (Nat.le_of_ble_eq_true rfl) ⟨Nat.le_of_ble_eq_true rfl, Nat.le_of_ble_eq_true rfl⟩ hC dL_law_1227 ?_
        have hN := nz_tl (t_X10_parts e1227) hN
        refine r_aload_n dL_law_1230 2 rfl ?_
        refine r_aload_n dL_law_1231 0 rfl ?_
        refine r_iload_n dL_law_1232 3 rfl ?_
        refine r_iconst (v := 1) dL_law_1233 (by decide) ?_
        refine r_iadd dL_law_1234 ?_
        obtain ⟨x1235, e1235, h⟩ := Sat_bind h
        refine r_sld e1235 dL_law_1235 ?_
        refine r_aload_n dL_law_1236 0 rfl ?_
        refine r_iload_n dL_law_1237 3 rfl ?_
        refine r_iconst (v := 2) dL_law_1238 (by decide) ?_
        refine r_iadd dL_law_1239 ?_
        obtain ⟨x1240, e1240, h⟩ := Sat_bind h
        refine r_sld e1240 dL_law_1240 ?_
        obtain ⟨x1241, e1241, h⟩ := Sat_bind h
        refine r_cV (t := 12) [.int x1235, .int x1240] [.long x1227.1] (m_X11_parts n8.1 x1235 x1240 x1227.2 e1241) ck_X11_parts lk_L_150 in_X11_parts se_X11_parts (kd_of e1241) ⟨rfl, by decide, by decide⟩ rfl rfl (Nat.le_of_ble_eq_true rfl) ⟨Nat.le_of_ble_eq_true rfl, Nat.le_of_ble_eq_true rfl⟩ hC dL_law_1241 ?_
        have hN := nz_tl (t_X11_parts e1241) hN
        refine r_lcmp dL_law_1244 ?_
        refine r_if_eq 1398 dL_law_1245 (by decide) (fun c1245 => ?_) (fun c1245 => ?_)
        · have h := Sat_pos c1245 h
          exact r_sub [0, 1, 2, 3] rfl (J1398 s18.1 x1241.2 c18 z18 hN hC h)
        · have h := Sat_neg c1245 h
          exact absurd h Sat_none
      have h := Sat_neg c33_31 h
      by_cases c33_32 : (x29 &&& (63 : Int32)) = 32
      · have h := Sat_pos c33_32 h
        refine r_tabIn c33_32 1217 1250 dL_law_33 (by decide) (by decide) (by decide) (by decide) ?_
        refine r_aload_n dL_law_1250 1 rfl ?_
        refine r_aload_n dL_law_1251 0 rfl ?_
        refine r_iload_n dL_law_1252 3 rfl ?_
        refine r_iconst (v := 1) dL_law_1253 (by decide) ?_
        refine r_iadd dL_law_1254 ?_
        obtain ⟨x1255, e1255, h⟩ := Sat_bind h
        refine r_sld e1255 dL_law_1255 ?_
        obtain ⟨x1256, e1256, h⟩ := Sat_bind h
        refine r_cV (t := 11) [.int x1255] [] (m_X10_begin n0.1 x1255 s18.2 e1256) ck_X10_begin lk_L_151 in_X10_begin se_X10_begin (kd_of e1256) ⟨rfl, by decide, by decide⟩ rfl rfl (Nat.le_of_ble_eq_true rfl) ⟨Nat.le_of_ble_eq_true rfl, Nat.le_of_ble_eq_true rfl⟩ hC dL_law_1256 ?_
        have hN := nz_tl (t_X10_begin e1256) hN
        refine r_aload_n dL_law_1259 2 rfl ?_
        refine r_aload_n dL_law_1260 0 rfl ?_
        refine r_iload_n dL_law_1261 3 rfl ?_
        refine r_iconst (v := 1) dL_law_1262 (by decide) ?_
        refine r_iadd dL_law_1263 ?_
        obtain ⟨x1264, e1264, h⟩ := Sat_bind h
        refine r_sld e1264 dL_law_1264 ?_
        obtain ⟨x1265, e1265, h⟩ := Sat_bind h
        refine r_cV (t := 12) [.int x1264] [.int x1256.1] (m_X11_begin_ n8.1 x1264 x1256.2 e1265) ck_X11_begin_ lk_L_154 in_X11_begin_ se_X11_begin_ (kd_of e1265) ⟨rfl, by decide, by decide⟩ rfl rfl (Nat.le_of_ble_eq_true rfl) ⟨Nat.le_of_ble_eq_true rfl, Nat.le_of_ble_eq_true rfl⟩ hC dL_law_1265 ?_
        have hN := nz_tl (t_X11_begin_ e1265) hN
        refine r_icmp_eq 1398 dL_law_1268 (by decide) (fun c1268 => ?_) (fun c1268 => ?_)
        · have h := Sat_pos c1268 h
          exact r_sub [0, 1, 2, 3] rfl (J1398 s18.1 x1265.2 c18 z18 hN hC h)
        · have h := Sat_neg c1268 h
          exact absurd h Sat_none
      have h := Sat_neg c33_32 h
      by_cases c33_33 : (x29 &&& (63 : Int32)) = 33
      · have h := Sat_pos c33_33 h
        refine r_tabIn c33_33 1240 1273 dL_law_33 (by decide) (by decide) (by decide) (by decide) ?_
        refine r_aload_n dL_law_1273 1 rfl ?_
        refine r_aload_n dL_law_1274 0 rfl ?_
        refine r_iload_n dL_law_1275 3 rfl ?_
        refine r_iconst (v := 1) dL_law_1276 (by decide) ?_
        refine r_iadd dL_law_1277 ?_
        obtain ⟨x1278, e1278, h⟩ := Sat_bind h
        refine r_sld e1278 dL_law_1278 ?_
        obtain ⟨x1279, e1279, h⟩ := Sat_bind h
        refine r_cV (t := 11) [.int x1278] [] (m_X10_go n0.1 x1278 s18.2 e1279) ck_X10_go lk_L_155 in_X10_go se_X10_go (kd_of e1279) ⟨rfl, by decide, by decide⟩ rfl rfl (Nat.le_of_ble_eq_true rfl) ⟨Nat.le_of_ble_eq_true rfl, Nat.le_of_ble_eq_true rfl⟩ hC dL_law_1279 ?_
        have hN := nz_tl (t_X10_go e1279) hN
        refine r_aload_n dL_law_1282 2 rfl ?_
        refine r_aload_n dL_law_1283 0 rfl ?_
        refine r_iload_n dL_law_1284 3 rfl ?_
        refine r_iconst (v := 1) dL_law_1285 (by decide) ?_
        refine r_iadd dL_law_1286 ?_
        obtain ⟨x1287, e1287, h⟩ := Sat_bind h
        refine r_sld e1287 dL_law_1287 ?_
        obtain ⟨x1288, e1288, h⟩ := Sat_bind h
        refine r_cV (t := 12) [.int x1287] [.int x1279.1] (m_X11_go n8.1 x1287 x1279.2 e1288) ck_X11_go lk_L_158 in_X11_go se_X11_go (kd_of e1288) ⟨rfl, by decide, by decide⟩ rfl rfl (Nat.le_of_ble_eq_true rfl) ⟨Nat.le_of_ble_eq_true rfl, Nat.le_of_ble_eq_true rfl⟩ hC dL_law_1288 ?_
        have hN := nz_tl (t_X11_go e1288) hN
        refine r_icmp_eq 1398 dL_law_1291 (by decide) (fun c1291 => ?_) (fun c1291 => ?_)
        · have h := Sat_pos c1291 h
          exact r_sub [0, 1, 2, 3] rfl (J1398 s18.1 x1288.2 c18 z18 hN hC h)
        · have h := Sat_neg c1291 h
          exact absurd h Sat_none
      have h := Sat_neg c33_33 h
      by_cases c33_34 : (x29 &&& (63 : Int32)) = 34
      · have h := Sat_pos c33_34 h
        refine r_tabIn c33_34 1263 1296 dL_law_33 (by decide) (by decide) (by decide) (by decide) ?_
        refine r_aload_n dL_law_1296 1 rfl ?_
        refine r_aload_n dL_law_1297 0 rfl ?_
        refine r_iload_n dL_law_1298 3 rfl ?_
        refine r_iconst (v := 1) dL_law_1299 (by decide) ?_
        refine r_iadd dL_law_1300 ?_
        obtain ⟨x1301, e1301, h⟩ := Sat_bind h
        refine r_sld e1301 dL_law_1301 ?_
        refine r_aload_n dL_law_1302 0 rfl ?_
        refine r_iload_n dL_law_1303 3 rfl ?_
        refine r_iconst (v := 2) dL_law_1304 (by decide) ?_
        refine r_iadd dL_law_1305 ?_
        obtain ⟨x1306, e1306, h⟩ := Sat_bind h
        refine r_sld e1306 dL_law_1306 ?_
        obtain ⟨x1307, e1307, h⟩ := Sat_bind h
        refine r_cV (t := 11) [.int x1301, .int x1306] [] (m_X10_now n0.1 x1301 x1306 s18.2 e1307) ck_X10_now lk_L_159 in_X10_now se_X10_now (kd_of e1307) ⟨rfl, by decide, by decide⟩ rfl rfl (Nat.le_of_ble_eq_true rfl) ⟨Nat.le_of_ble_eq_true rfl, Nat.le_of_ble_eq_true rfl⟩ hC dL_law_1307 ?_
        refine r_aload_n dL_law_1310 2 rfl ?_
        refine r_aload_n dL_law_1311 0 rfl ?_
        refine r_iload_n dL_law_1312 3 rfl ?_
        refine r_iconst (v := 1) dL_law_1313 (by decide) ?_
        refine r_iadd dL_law_1314 ?_
        obtain ⟨x1315, e1315, h⟩ := Sat_bind h
        refine r_sld e1315 dL_law_1315 ?_
        refine r_aload_n dL_law_1316 0 rfl ?_
        refine r_iload_n dL_law_1317 3 rfl ?_
        refine r_iconst (v := 2) dL_law_1318 (by decide) ?_
        refine r_iadd dL_law_1319 ?_
        obtain ⟨x1320, e1320, h⟩ := Sat_bind h
        refine r_sld e1320 dL_law_1320 ?_
        obtain ⟨x1321, e1321, h⟩ := Sat_bind h
        refine r_cV (t := 12) [.int x1315, .int x1320] [.int x1307] (m_X11_now n8.1 x1315 x1320 s18.2 e1321) ck_X11_now lk_L_162 in_X11_now se_X11_now (kd_of e1321) ⟨rfl, by decide, by decide⟩ rfl rfl (Nat.le_of_ble_eq_true rfl) ⟨Nat.le_of_ble_eq_true rfl, Nat.le_of_ble_eq_true rfl⟩ hC dL_law_1321 ?_
        refine r_icmp_eq 1398 dL_law_1324 (by decide) (fun c1324 => ?_) (fun c1324 => ?_)
        · have h := Sat_pos c1324 h
          exact r_sub [0, 1, 2, 3] rfl (J1398 s18.1 s18.2 c18 z18 hN hC h)
        · have h := Sat_neg c1324 h
          exact absurd h Sat_none
      have h := Sat_neg c33_34 h
      by_cases c33_35 : (x29 &&& (63 : Int32)) = 35
      · have h := Sat_pos c33_35 h
        refine r_tabIn c33_35 1296 1329 dL_law_33 (by decide) (by decide) (by decide) (by decide) ?_
        refine r_aload_n dL_law_1329 1 rfl ?_
        refine r_aload_n dL_law_1330 0 rfl ?_
        refine r_iload_n dL_law_1331 3 rfl ?_
        refine r_iconst (v := 1) dL_law_1332 (by decide) ?_
        refine r_iadd dL_law_1333 ?_
        obtain ⟨x1334, e1334, h⟩ := Sat_bind h
        refine r_sld e1334 dL_law_1334 ?_
        obtain ⟨x1335, e1335, h⟩ := Sat_bind h
        refine r_cV (t := 11) [.int x1334] [] (m_X10_keep n0.1 x1334 s18.2 e1335) ck_X10_keep lk_L_163 in_X10_keep se_X10_keep (kd_of e1335) ⟨rfl, by decide, by decide⟩ rfl rfl (Nat.le_of_ble_eq_true rfl) ⟨Nat.le_of_ble_eq_true rfl, Nat.le_of_ble_eq_true rfl⟩ hC dL_law_1335 ?_
        have hN := nz_tl (t_X10_keep e1335) hN
        refine r_aload_n dL_law_1338 2 rfl ?_
        refine r_aload_n dL_law_1339 0 rfl ?_
        refine r_iload_n dL_law_1340 3 rfl ?_
        refine r_iconst (v := 1) dL_law_1341 (by decide) ?_
        refine r_iadd dL_law_1342 ?_
        obtain ⟨x1343, e1343, h⟩ := Sat_bind h
        refine r_sld e1343 dL_law_1343 ?_
        obtain ⟨x1344, e1344, h⟩ := Sat_bind h
        refine r_cV (t := 12) [.int x1343] [.int x1335.1] (m_X11_keep n8.1 x1343 x1335.2 e1344) ck_X11_keep lk_L_166 in_X11_keep se_X11_keep (kd_of e1344) ⟨rfl, by decide, by decide⟩ rfl rfl (Nat.le_of_ble_eq_true rfl) ⟨Nat.le_of_ble_eq_true rfl, Nat.le_of_ble_eq_true rfl⟩ hC dL_law_1344 ?_
        have hN := nz_tl (t_X11_keep e1344) hN
        refine r_icmp_eq 1398 dL_law_1347 (by decide) (fun c1347 => ?_) (fun c1347 => ?_)
        · have h := Sat_pos c1347 h
          exact r_sub [0, 1, 2, 3] rfl (J1398 s18.1 x1344.2 c18 z18 hN hC h)
        · have h := Sat_neg c1347 h
          exact absurd h Sat_none
      have h := Sat_neg c33_35 h
      by_cases c33_36 : (x29 &&& (63 : Int32)) = 36
      · have h := Sat_pos c33_36 h
        refine r_tabIn c33_36 1319 1352 dL_law_33 (by decide) (by decide) (by decide) (by decide) ?_
        refine r_aload_n dL_law_1352 1 rfl ?_
        refine r_aload_n dL_law_1353 0 rfl ?_
        refine r_iload_n dL_law_1354 3 rfl ?_
        refine r_iconst (v := 1) dL_law_1355 (by decide) ?_
        refine r_iadd dL_law_1356 ?_
        obtain ⟨x1357, e1357, h⟩ := Sat_bind h
        refine r_sld e1357 dL_law_1357 ?_
        obtain ⟨x1358, e1358, h⟩ := Sat_bind h
        refine r_cV (t := 11) [.int x1357] [] (m_X10_take n0.1 x1357 s18.2 e1358) ck_X10_take lk_L_167 in_X10_take se_X10_take (kd_of e1358) ⟨rfl, by decide, by decide⟩ rfl rfl (Nat.le_of_ble_eq_true rfl) ⟨Nat.le_of_ble_eq_true rfl, Nat.le_of_ble_eq_true rfl⟩ hC dL_law_1358 ?_
        have hN := nz_tl (t_X10_take e1358) hN
        refine r_aload_n dL_law_1361 2 rfl ?_
        refine r_aload_n dL_law_1362 0 rfl ?_
        refine r_iload_n dL_law_1363 3 rfl ?_
        refine r_iconst (v := 1) dL_law_1364 (by decide) ?_
        refine r_iadd dL_law_1365 ?_
        obtain ⟨x1366, e1366, h⟩ := Sat_bind h
        refine r_sld e1366 dL_law_1366 ?_
        obtain ⟨x1367, e1367, h⟩ := Sat_bind h
        refine r_cV (t := 12) [.int x1366] [.int x1358.1] (m_X11_take n8.1 x1366 x1358.2 e1367) ck_X11_take lk_L_170 in_X11_take se_X11_take (kd_of e1367) ⟨rfl, by decide, by decide⟩ rfl rfl (Nat.le_of_ble_eq_true rfl) ⟨Nat.le_of_ble_eq_true rfl, Nat.le_of_ble_eq_true rfl⟩ hC dL_law_1367 ?_
        have hN := nz_tl (t_X11_take e1367) hN
        refine r_icmp_eq 1398 dL_law_1370 (by decide) (fun c1370 => ?_) (fun c1370 => ?_)
        · have h := Sat_pos c1370 h
          exact r_sub [0, 1, 2, 3] rfl (J1398 s18.1 x1367.2 c18 z18 hN hC h)
        · have h := Sat_neg c1370 h
          exact absurd h Sat_none
      have h := Sat_neg c33_36 h
      by_cases c33_37 : (x29 &&& (63 : Int32)) = 37
      · have h := Sat_pos c33_37 h
        refine r_tabIn c33_37 1342 1375 dL_law_33 (by decide) (by decide) (by decide) (by decide) ?_
        refine r_aload_n dL_law_1375 1 rfl ?_
        refine r_aload_n dL_law_1376 0 rfl ?_
        refine r_iload_n dL_law_1377 3 rfl ?_
        refine r_iconst (v := 1) dL_law_1378 (by decide) ?_
        refine r_iadd dL_law_1379 ?_
        obtain ⟨x1380, e1380, h⟩ := Sat_bind h
        refine r_sld e1380 dL_law_1380 ?_
        obtain ⟨x1381, e1381, h⟩ := Sat_bind h
        refine r_cV (t := 11) [.int x1380] [] (m_X10_count n0.1 x1380 s18.2 e1381) ck_X10_count lk_L_171 in_X10_count se_X10_count (kd_of e1381) ⟨rfl, by decide, by decide⟩ rfl rfl (Nat.le_of_ble_eq_true rfl) ⟨Nat.le_of_ble_eq_true rfl, Nat.le_of_ble_eq_true rfl⟩ hC dL_law_1381 ?_
        refine r_aload_n dL_law_1384 2 rfl ?_
        refine r_aload_n dL_law_1385 0 rfl ?_
        refine r_iload_n dL_law_1386 3 rfl ?_
        refine r_iconst (v := 1) dL_law_1387 (by decide) ?_
        refine r_iadd dL_law_1388 ?_
        obtain ⟨x1389, e1389, h⟩ := Sat_bind h
        refine r_sld e1389 dL_law_1389 ?_
        obtain ⟨x1390, e1390, h⟩ := Sat_bind h
        refine r_cV (t := 12) [.int x1389] [.int x1381] (m_X11_count n8.1 x1389 s18.2 e1390) ck_X11_count lk_L_174 in_X11_count se_X11_count (kd_of e1390) ⟨rfl, by decide, by decide⟩ rfl rfl (Nat.le_of_ble_eq_true rfl) ⟨Nat.le_of_ble_eq_true rfl, Nat.le_of_ble_eq_true rfl⟩ hC dL_law_1390 ?_
        refine r_icmp_eq 1398 dL_law_1393 (by decide) (fun c1393 => ?_) (fun c1393 => ?_)
        · have h := Sat_pos c1393 h
          exact r_sub [0, 1, 2, 3] rfl (J1398 s18.1 s18.2 c18 z18 hN hC h)
        · have h := Sat_neg c1393 h
          exact absurd h Sat_none
      have h := Sat_neg c33_37 h
      refine r_tabOut 1398 dL_law_33 (tab_out38 c33_0 c33_1 c33_2 c33_3 c33_4 c33_5 c33_6 c33_7 c33_8 c33_9 c33_10 c33_11 c33_12 c33_13 c33_14 c33_15 c33_16 c33_17 c33_18 c33_19 c33_20 c33_21 c33_22 c33_23 c33_24 c33_25 c33_26 c33_27 c33_28 c33_29 c33_30 c33_31 c33_32 c33_33 c33_34 c33_35 c33_36 c33_37) (by decide) ?_
      exact r_sub [0, 1, 2, 3] rfl (J1398 s18.1 s18.2 c18 z18 hN hC h)
