def dl_L_cell : List (Nat × Instr × Nat) := [(0, .iload_n 1, 1), (1, .aload_n 0, 1), (2, .arraylength, 1), (3, .if_icmp .ge 9, 3), (6, .aload_n 0, 1), (7, .iload_n 1, 1), (8, .iaload, 1), (9, .goto 9, 3), (12, .ldc 7, 2), (14, .iload_n 1, 1), (15, .iconst 1, 1), (16, .iadd, 1), (17, .imul, 1), (18, .ireturn, 1)]
theorem dd_L_cell : Dall 87 dl_L_cell = true := by decide +kernel
theorem t_L_cell {h : Hp} {P : Value → Hp → Prop} {p1 : Int} {p0 : Nat} (T : ((20 ≤ tg h p0 ∧ tg h p0 ≤ 25) ∨ tg h p0 = 30) ∧ (rng p1) ∧ (rng (ln h p0 : Int)) ∧ ((p1 < (ln h p0 : Int) → (tg h p0 = 20 ∨ tg h p0 = 30) ∧ ((ln h p0 : Int) ≤ 2147483648) ∧ (0 ≤ p1) ∧ (p1 < ln h p0) ∧ R 87 18 [.ref p0, .int (I p1)] [.int (I (iv h p0 p1))] h P) ∧ (¬ p1 < (ln h p0 : Int) → R 87 18 [.ref p0, .int (I p1)] [.int (I (747796405 * (p1 + 1)))] h P))) : R 87 0 [.ref p0, .int (I p1)] [] h P := by
  refine R_iload_n (Dat dd_L_cell 0 rfl) rfl ?_
  refine R_aload_n (Dat dd_L_cell 1 rfl) rfl rfl ?_
  obtain ⟨g1, T⟩ := T
  refine R_alen (Dat dd_L_cell 2 rfl) g1 ?_
  obtain ⟨g2, T⟩ := T
  obtain ⟨g3, T⟩ := T
  refine R_ic_ge (Dat dd_L_cell 3 rfl) rfl g2 g3 (fun c => ?_) (fun c => ?_)
  · replace T := T.1 c
    refine R_aload_n (Dat dd_L_cell 4 rfl) rfl rfl ?_
    refine R_iload_n (Dat dd_L_cell 5 rfl) rfl ?_
    obtain ⟨g4, T⟩ := T
    obtain ⟨g5, T⟩ := T
    obtain ⟨g6, T⟩ := T
    obtain ⟨g7, T⟩ := T
    refine R_iaload (Dat dd_L_cell 6 rfl) g4 g5 g6 g7 ?_
    refine R_goto (Dat dd_L_cell 7 rfl) rfl ?_
    exact T
  · replace T := T.2 c
    refine R_ldc (Dat dd_L_cell 8 rfl) (a := 747796405) rfl ?_
    refine R_iload_n (Dat dd_L_cell 9 rfl) rfl ?_
    refine R_iconst (Dat dd_L_cell 10 rfl) ?_
    refine R_iadd (Dat dd_L_cell 11 rfl) ?_
    refine R_imul (Dat dd_L_cell 12 rfl) ?_
    exact T
theorem t_L_cell_18 {h : Hp} {P : Value → Hp → Prop} {s0 : Int} {a0 a1 : Value} (T : P (.int (I s0)) h) : R 87 18 [a0, a1] [.int (I s0)] h P := by
  exact R_ireturn (Dat dd_L_cell 13 rfl) rfl T
def dl_L_some : List (Nat × Instr × Nat) := [(0, .iload_n 0, 1), (1, .ldc 8, 2), (3, .iand, 1), (4, .iload_n 1, 1), (5, .irem, 1), (6, .ireturn, 1)]
theorem dd_L_some : Dall 88 dl_L_some = true := by decide +kernel
theorem t_L_some {h : Hp} {P : Value → Hp → Prop} {p0 p1 : Int} (T : (0 ≤ (band p0 2147483647) ∧ (band p0 2147483647) < 2147483648) ∧ (0 < p1 ∧ p1 < 2147483648) ∧ P (.int (I ((band p0 2147483647) % p1))) h) : R 88 0 [.int (I p0), .int (I p1)] [] h P := by
  refine R_iload_n (Dat dd_L_some 0 rfl) rfl ?_
  refine R_ldc (Dat dd_L_some 1 rfl) (a := 2147483647) rfl ?_
  refine R_iand (Dat dd_L_some 2 rfl) ?_
  refine R_iload_n (Dat dd_L_some 3 rfl) rfl ?_
  obtain ⟨g1, T⟩ := T
  obtain ⟨g2, T⟩ := T
  refine R_irem (Dat dd_L_some 4 rfl) g1 g2 ?_
  exact R_ireturn (Dat dd_L_some 5 rfl) rfl T
def dl_L_put_c0 : List (Nat × Instr × Nat) := [(0, .aload_n 1, 1), (1, .iload_n 2, 1), (2, .invokestatic 9, 3), (5, .istore 5, 2), (7, .aload 4, 2), (9, .bipush 24, 2), (11, .iconst 2, 1), (12, .iload 5, 2), (14, .iload_n 3, 1), (15, .iconst 1, 1), (16, .isub, 1), (17, .invokestatic 15, 3), (20, .iadd, 1), (21, .iastore, 1), (22, .aload_n 0, 1), (23, .iconst 0, 1), (24, .iconst 0, 1), (25, .bipush 60, 2), (27, .invokevirtual 19, 3), (30, .iconst 1, 1), (31, .if_icmp .eq 6, 3), (34, .bipush (-99), 2), (36, .ireturn, 1), (37, .iconst 0, 1), (38, .istore 6, 2), (40, .iconst 0, 1), (41, .istore 7, 2), (43, .iload 7, 2), (45, .aload 4, 2), (47, .bipush 24, 2), (49, .iaload, 1), (50, .if_icmp .ge 277, 3), (53, .aload_n 1, 1), (54, .iload_n 2, 1), (55, .iconst 1, 1), (56, .iadd, 1), (57, .iload 7, 2), (59, .iconst 3, 1), (60, .irem, 1), (61, .iadd, 1), (62, .invokestatic 9, 3), (65, .iload 7, 2), (67, .iconst 3, 1), (68, .idiv, 1), (69, .bipush 9, 2), (71, .imul, 1), (72, .ishr, 1), (73, .istore 8, 2), (75, .aload 4, 2), (77, .iload 7, 2), (79, .iconst 1, 1), (80, .iload 8, 2), (82, .iload 5, 2), (84, .iconst 4, 1), (85, .ishr, 1), (86, .iconst 2, 1), (87, .invokestatic 15, 3), (90, .ifCond .ne 8, 3), (93, .bipush 9, 2), (95, .goto 4, 3)]
theorem dd_L_put_c0 : Dall 89 dl_L_put_c0 = true := by decide +kernel
def dl_L_put_c1 : List (Nat × Instr × Nat) := [(98, .iconst 4, 1), (99, .invokestatic 15, 3), (102, .iadd, 1), (103, .iastore, 1), (104, .aload 4, 2), (106, .bipush 8, 2), (108, .iload 7, 2), (110, .iadd, 1), (111, .iconst 1, 1), (112, .iload 8, 2), (114, .iconst 3, 1), (115, .ishr, 1), (116, .iload 5, 2), (118, .iconst 5, 1), (119, .ishr, 1), (120, .iconst 2, 1), (121, .invokestatic 15, 3), (124, .ifCond .ne 8, 3), (127, .bipush 9, 2), (129, .goto 4, 3), (132, .iconst 3, 1), (133, .invokestatic 15, 3), (136, .iadd, 1), (137, .iastore, 1), (138, .aload 4, 2), (140, .bipush 16, 2), (142, .iload 7, 2), (144, .iadd, 1), (145, .iload 8, 2), (147, .iconst 5, 1), (148, .ishr, 1), (149, .iconst 4, 1), (150, .invokestatic 15, 3), (153, .iconst 2, 1), (154, .if_icmp .le 7, 3), (157, .iconst 2, 1), (158, .goto 20, 3), (161, .iload 8, 2), (163, .iconst 5, 1), (164, .ishr, 1), (165, .iconst 4, 1), (166, .invokestatic 15, 3), (169, .iconst 2, 1), (170, .if_icmp .ne 7, 3), (173, .iconst 1, 1), (174, .goto 4, 3), (177, .iconst 0, 1), (178, .iastore, 1), (179, .iload 7, 2), (181, .ifCond .le 19, 3), (184, .aload_n 0, 1), (185, .iconst 0, 1), (186, .iload 6, 2), (188, .iinc 6 1, 3), (191, .bipush 59, 2), (193, .invokevirtual 25, 3), (196, .iconst 1, 1), (197, .if_icmp .ne 121, 3), (200, .aload_n 0, 1), (201, .iconst 0, 1)]
theorem dd_L_put_c1 : Dall 89 dl_L_put_c1 = true := by decide +kernel
def dl_L_put_c2 : List (Nat × Instr × Nat) := [(202, .iload 6, 2), (204, .iinc 6 1, 3), (207, .bipush 103, 2), (209, .invokevirtual 25, 3), (212, .iconst 1, 1), (213, .if_icmp .ne 105, 3), (216, .aload_n 0, 1), (217, .iconst 0, 1), (218, .iload 6, 2), (220, .iinc 6 1, 3), (223, .bipush 48, 2), (225, .aload 4, 2), (227, .iload 7, 2), (229, .iaload, 1), (230, .iadd, 1), (231, .invokevirtual 25, 3), (234, .iconst 1, 1), (235, .if_icmp .ne 83, 3), (238, .aload_n 0, 1), (239, .iconst 0, 1), (240, .iload 6, 2), (242, .iinc 6 1, 3), (245, .bipush 48, 2), (247, .aload 4, 2), (249, .bipush 8, 2), (251, .iload 7, 2), (253, .iadd, 1), (254, .iaload, 1), (255, .iadd, 1), (256, .invokevirtual 25, 3), (259, .iconst 1, 1), (260, .if_icmp .ne 58, 3), (263, .aload 4, 2), (265, .bipush 16, 2), (267, .iload 7, 2), (269, .iadd, 1), (270, .iaload, 1), (271, .ifCond .le 19, 3), (274, .aload_n 0, 1), (275, .iconst 0, 1), (276, .iload 6, 2), (278, .iinc 6 1, 3), (281, .bipush 108, 2), (283, .invokevirtual 25, 3), (286, .iconst 1, 1), (287, .if_icmp .ne 31, 3), (290, .aload 4, 2), (292, .bipush 16, 2), (294, .iload 7, 2), (296, .iadd, 1), (297, .iaload, 1), (298, .iconst 1, 1), (299, .if_icmp .le 22, 3), (302, .aload_n 0, 1), (303, .iconst 0, 1), (304, .iload 6, 2), (306, .iinc 6 1, 3), (309, .bipush 111, 2), (311, .invokevirtual 25, 3), (314, .iconst 1, 1)]
theorem dd_L_put_c2 : Dall 89 dl_L_put_c2 = true := by decide +kernel
def dl_L_put_c3 : List (Nat × Instr × Nat) := [(315, .if_icmp .eq 6, 3), (318, .bipush (-99), 2), (320, .ireturn, 1), (321, .iinc 7 1, 3), (324, .goto (-281), 3), (327, .iload 6, 2), (329, .ireturn, 1)]
theorem dd_L_put_c3 : Dall 89 dl_L_put_c3 = true := by decide +kernel
theorem t_L_put {h : Hp} {P : Value → Hp → Prop} {p2 p3 : Int} {p0 p1 p4 : Nat} (T : R 87 0 [.ref p1, .int (I p2)] [] h (fun v h2 => R 89 5 [.ref p0, .ref p1, .int (I p2), .int (I p3), .ref p4, .retAddr 0, .retAddr 0, .retAddr 0, .retAddr 0] (v :: []) h2 P)) : R 89 0 [.ref p0, .ref p1, .int (I p2), .int (I p3), .ref p4, .retAddr 0, .retAddr 0, .retAddr 0, .retAddr 0] [] h P := by
  refine R_aload_n (Dat dd_L_put_c0 0 rfl) rfl rfl ?_
  refine R_iload_n (Dat dd_L_put_c0 1 rfl) rfl ?_
  exact R_call0 (Dat dd_L_put_c0 2 rfl) rfl rfl rfl rfl rfl rfl T
theorem t_L_put_5 {h : Hp} {P : Value → Hp → Prop} {a2 a3 s0 : Int} {a0 a1 a4 : Nat} {a5 a6 a7 a8 : Value} (T : R 88 0 [.int (I s0), .int (I (a3 - 1))] [] h (fun v h2 => R 89 20 [.ref a0, .ref a1, .int (I a2), .int (I a3), .ref a4, .int (I s0), a6, a7, a8] (v :: [.int (I 2), .int (I 24), .ref a4]) h2 P)) : R 89 5 [.ref a0, .ref a1, .int (I a2), .int (I a3), .ref a4, a5, a6, a7, a8] [.int (I s0)] h P := by
  refine R_istore (Dat dd_L_put_c0 3 rfl) rfl rfl ?_
  refine R_aload (Dat dd_L_put_c0 4 rfl) rfl rfl ?_
  refine R_bipush (Dat dd_L_put_c0 5 rfl) (a := 24) rfl ?_
  refine R_iconst (Dat dd_L_put_c0 6 rfl) ?_
  refine R_iload (Dat dd_L_put_c0 7 rfl) rfl ?_
  refine R_iload_n (Dat dd_L_put_c0 8 rfl) rfl ?_
  refine R_iconst (Dat dd_L_put_c0 9 rfl) ?_
  refine R_isub (Dat dd_L_put_c0 10 rfl) ?_
  exact R_call0 (Dat dd_L_put_c0 11 rfl) rfl rfl rfl rfl rfl rfl T
theorem t_L_put_20 {h : Hp} {P : Value → Hp → Prop} {a2 a5 s0 s1 s2 : Int} {a0 a1 a4 s3 : Nat} {a3 a6 a7 a8 : Value} (T : (tg h s3 = 20) ∧ ((ln h s3 : Int) ≤ 2147483648) ∧ (0 ≤ s2) ∧ (s2 < ln h s3) ∧ (tg (setI h s3 s2 (wr (s1 + s0))) a0 = 12) ∧ R 82 0 [.ref a0, .int (I 0), .int (I 0), .int (I 60)] [] (setI h s3 s2 (wr (s1 + s0))) (fun v h2 => R 89 30 [.ref a0, .ref a1, .int (I a2), a3, .ref a4, .int (I a5), a6, a7, a8] (v :: []) h2 P)) : R 89 20 [.ref a0, .ref a1, .int (I a2), a3, .ref a4, .int (I a5), a6, a7, a8] [.int (I s0), .int (I s1), .int (I s2), .ref s3] h P := by
  refine R_iadd (Dat dd_L_put_c0 12 rfl) ?_
  obtain ⟨g1, T⟩ := T
  obtain ⟨g2, T⟩ := T
  obtain ⟨g3, T⟩ := T
  obtain ⟨g4, T⟩ := T
  refine R_iastore (Dat dd_L_put_c0 13 rfl) g1 g2 g3 g4 (v := wr (s1 + s0)) rfl ?_
  refine R_aload_n (Dat dd_L_put_c0 14 rfl) rfl rfl ?_
  refine R_iconst (Dat dd_L_put_c0 15 rfl) ?_
  refine R_iconst (Dat dd_L_put_c0 16 rfl) ?_
  refine R_bipush (Dat dd_L_put_c0 17 rfl) (a := 60) rfl ?_
  obtain ⟨g5, T⟩ := T
  exact R_call1 (Dat dd_L_put_c0 18 rfl) rfl g5 rfl rfl rfl rfl rfl T
theorem t_L_put_30 {h : Hp} {P : Value → Hp → Prop} {a2 a5 s0 : Int} {a0 a1 a4 : Nat} {a3 a6 a7 a8 : Value} (T : (rng s0) ∧ ((s0 = 1 → R 89 43 [.ref a0, .ref a1, .int (I a2), a3, .ref a4, .int (I a5), .int (I 0), .int (I 0), a8] [] h P) ∧ (¬ s0 = 1 → P (.int (I (-99))) h))) : R 89 30 [.ref a0, .ref a1, .int (I a2), a3, .ref a4, .int (I a5), a6, a7, a8] [.int (I s0)] h P := by
  refine R_iconst (Dat dd_L_put_c0 19 rfl) ?_
  obtain ⟨g1, T⟩ := T
  refine R_ic_eq (Dat dd_L_put_c0 20 rfl) rfl g1 (by decide) (fun c => ?_) (fun c => ?_)
  · replace T := T.1 c
    refine R_iconst (Dat dd_L_put_c0 23 rfl) ?_
    refine R_istore (Dat dd_L_put_c0 24 rfl) rfl rfl ?_
    refine R_iconst (Dat dd_L_put_c0 25 rfl) ?_
    refine R_istore (Dat dd_L_put_c0 26 rfl) rfl rfl ?_
    exact T
  · replace T := T.2 c
    refine R_bipush (Dat dd_L_put_c0 21 rfl) (a := (-99)) rfl ?_
    exact R_ireturn (Dat dd_L_put_c0 22 rfl) rfl T
theorem t_L_put_43 {h : Hp} {P : Value → Hp → Prop} {a2 a5 a6 a7 : Int} {a0 a1 a4 : Nat} {a3 a8 : Value} (T : (tg h a4 = 20 ∨ tg h a4 = 30) ∧ ((ln h a4 : Int) ≤ 2147483648) ∧ ((24 : Int) < ln h a4) ∧ (rng a7) ∧ (rng (iv h a4 24)) ∧ ((a7 < (iv h a4 24) → (0 ≤ a7 ∧ a7 < 2147483648) ∧ R 87 0 [.ref a1, .int (I ((a2 + 1) + (a7 % 3)))] [] h (fun v h2 => R 89 65 [.ref a0, .ref a1, .int (I a2), a3, .ref a4, .int (I a5), .int (I a6), .int (I a7), a8] (v :: []) h2 P)) ∧ (¬ a7 < (iv h a4 24) → P (.int (I a6)) h))) : R 89 43 [.ref a0, .ref a1, .int (I a2), a3, .ref a4, .int (I a5), .int (I a6), .int (I a7), a8] [] h P := by
  refine R_iload (Dat dd_L_put_c0 27 rfl) rfl ?_
  refine R_aload (Dat dd_L_put_c0 28 rfl) rfl rfl ?_
  refine R_bipush (Dat dd_L_put_c0 29 rfl) (a := 24) rfl ?_
  obtain ⟨g1, T⟩ := T
  obtain ⟨g2, T⟩ := T
  obtain ⟨g3, T⟩ := T
  refine R_iaload (Dat dd_L_put_c0 30 rfl) g1 g2 (by decide) g3 ?_
  obtain ⟨g4, T⟩ := T
  obtain ⟨g5, T⟩ := T
  refine R_ic_ge (Dat dd_L_put_c0 31 rfl) rfl g4 g5 (fun c => ?_) (fun c => ?_)
  · replace T := T.1 c
    refine R_aload_n (Dat dd_L_put_c0 32 rfl) rfl rfl ?_
    refine R_iload_n (Dat dd_L_put_c0 33 rfl) rfl ?_
    refine R_iconst (Dat dd_L_put_c0 34 rfl) ?_
    refine R_iadd (Dat dd_L_put_c0 35 rfl) ?_
    refine R_iload (Dat dd_L_put_c0 36 rfl) rfl ?_
    refine R_iconst (Dat dd_L_put_c0 37 rfl) ?_
    obtain ⟨g6, T⟩ := T
    refine R_irem (Dat dd_L_put_c0 38 rfl) g6 (by decide) ?_
    refine R_iadd (Dat dd_L_put_c0 39 rfl) ?_
    exact R_call0 (Dat dd_L_put_c0 40 rfl) rfl rfl rfl rfl rfl rfl T
  · replace T := T.2 c
    refine R_iload (Dat dd_L_put_c3 5 rfl) rfl ?_
    exact R_ireturn (Dat dd_L_put_c3 6 rfl) rfl T
theorem t_L_put_65 {h : Hp} {P : Value → Hp → Prop} {a2 a5 a6 a7 s0 : Int} {a0 a1 a4 : Nat} {a3 a8 : Value} (T : (0 ≤ a7 ∧ a7 < 2147483648) ∧ R 88 0 [.int (I (shr a5 4)), .int (I 2)] [] h (fun v h2 => R 89 90 [.ref a0, .ref a1, .int (I a2), a3, .ref a4, .int (I a5), .int (I a6), .int (I a7), .int (I (shr s0 ((a7 / 3) * 9)))] (v :: [.int (I (shr s0 ((a7 / 3) * 9))), .int (I 1), .int (I a7), .ref a4]) h2 P)) : R 89 65 [.ref a0, .ref a1, .int (I a2), a3, .ref a4, .int (I a5), .int (I a6), .int (I a7), a8] [.int (I s0)] h P := by
  refine R_iload (Dat dd_L_put_c0 41 rfl) rfl ?_
  refine R_iconst (Dat dd_L_put_c0 42 rfl) ?_
  obtain ⟨g1, T⟩ := T
  refine R_idiv (Dat dd_L_put_c0 43 rfl) g1 (by decide) ?_
  refine R_bipush (Dat dd_L_put_c0 44 rfl) (a := 9) rfl ?_
  refine R_imul (Dat dd_L_put_c0 45 rfl) ?_
  refine R_ishr (Dat dd_L_put_c0 46 rfl) ?_
  refine R_istore (Dat dd_L_put_c0 47 rfl) rfl rfl ?_
  refine R_aload (Dat dd_L_put_c0 48 rfl) rfl rfl ?_
  refine R_iload (Dat dd_L_put_c0 49 rfl) rfl ?_
  refine R_iconst (Dat dd_L_put_c0 50 rfl) ?_
  refine R_iload (Dat dd_L_put_c0 51 rfl) rfl ?_
  refine R_iload (Dat dd_L_put_c0 52 rfl) rfl ?_
  refine R_iconst (Dat dd_L_put_c0 53 rfl) ?_
  refine R_ishr (Dat dd_L_put_c0 54 rfl) ?_
  refine R_iconst (Dat dd_L_put_c0 55 rfl) ?_
  exact R_call0 (Dat dd_L_put_c0 56 rfl) rfl rfl rfl rfl rfl rfl T
theorem t_L_put_90 {h : Hp} {P : Value → Hp → Prop} {a2 a5 a6 a7 a8 s0 s1 s2 s3 : Int} {a0 a1 a4 s4 : Nat} {a3 : Value} (T : (rng s0) ∧ ((s0 = 0 → R 89 99 [.ref a0, .ref a1, .int (I a2), a3, .ref a4, .int (I a5), .int (I a6), .int (I a7), .int (I a8)] [.int (I 9), .int (I s1), .int (I s2), .int (I s3), .ref s4] h P) ∧ (¬ s0 = 0 → R 89 99 [.ref a0, .ref a1, .int (I a2), a3, .ref a4, .int (I a5), .int (I a6), .int (I a7), .int (I a8)] [.int (I 4), .int (I s1), .int (I s2), .int (I s3), .ref s4] h P))) : R 89 90 [.ref a0, .ref a1, .int (I a2), a3, .ref a4, .int (I a5), .int (I a6), .int (I a7), .int (I a8)] [.int (I s0), .int (I s1), .int (I s2), .int (I s3), .ref s4] h P := by
  obtain ⟨g1, T⟩ := T
  refine R_if_ne (Dat dd_L_put_c0 57 rfl) rfl g1  (fun c => ?_) (fun c => ?_)
  · replace T := T.1 c
    refine R_bipush (Dat dd_L_put_c0 58 rfl) (a := 9) rfl ?_
    refine R_goto (Dat dd_L_put_c0 59 rfl) rfl ?_
    exact T
  · replace T := T.2 c
    refine R_iconst (Dat dd_L_put_c1 0 rfl) ?_
    exact T
theorem t_L_put_99 {h : Hp} {P : Value → Hp → Prop} {a2 a5 a6 a7 a8 s0 s1 s2 s3 : Int} {a0 a1 a4 s4 : Nat} {a3 : Value} (T : R 88 0 [.int (I s1), .int (I s0)] [] h (fun v h2 => R 89 102 [.ref a0, .ref a1, .int (I a2), a3, .ref a4, .int (I a5), .int (I a6), .int (I a7), .int (I a8)] (v :: [.int (I s2), .int (I s3), .ref s4]) h2 P)) : R 89 99 [.ref a0, .ref a1, .int (I a2), a3, .ref a4, .int (I a5), .int (I a6), .int (I a7), .int (I a8)] [.int (I s0), .int (I s1), .int (I s2), .int (I s3), .ref s4] h P := by
  exact R_call0 (Dat dd_L_put_c1 1 rfl) rfl rfl rfl rfl rfl rfl T
theorem t_L_put_102 {h : Hp} {P : Value → Hp → Prop} {a2 a5 a6 a7 a8 s0 s1 s2 : Int} {a0 a1 a4 s3 : Nat} {a3 : Value} (T : (tg h s3 = 20) ∧ ((ln h s3 : Int) ≤ 2147483648) ∧ (0 ≤ s2) ∧ (s2 < ln h s3) ∧ R 88 0 [.int (I (shr a5 5)), .int (I 2)] [] (setI h s3 s2 (wr (s1 + s0))) (fun v h2 => R 89 124 [.ref a0, .ref a1, .int (I a2), a3, .ref a4, .int (I a5), .int (I a6), .int (I a7), .int (I a8)] (v :: [.int (I (shr a8 3)), .int (I 1), .int (I (8 + a7)), .ref a4]) h2 P)) : R 89 102 [.ref a0, .ref a1, .int (I a2), a3, .ref a4, .int (I a5), .int (I a6), .int (I a7), .int (I a8)] [.int (I s0), .int (I s1), .int (I s2), .ref s3] h P := by
  refine R_iadd (Dat dd_L_put_c1 2 rfl) ?_
  obtain ⟨g1, T⟩ := T
  obtain ⟨g2, T⟩ := T
  obtain ⟨g3, T⟩ := T
  obtain ⟨g4, T⟩ := T
  refine R_iastore (Dat dd_L_put_c1 3 rfl) g1 g2 g3 g4 (v := wr (s1 + s0)) rfl ?_
  refine R_aload (Dat dd_L_put_c1 4 rfl) rfl rfl ?_
  refine R_bipush (Dat dd_L_put_c1 5 rfl) (a := 8) rfl ?_
  refine R_iload (Dat dd_L_put_c1 6 rfl) rfl ?_
  refine R_iadd (Dat dd_L_put_c1 7 rfl) ?_
  refine R_iconst (Dat dd_L_put_c1 8 rfl) ?_
  refine R_iload (Dat dd_L_put_c1 9 rfl) rfl ?_
  refine R_iconst (Dat dd_L_put_c1 10 rfl) ?_
  refine R_ishr (Dat dd_L_put_c1 11 rfl) ?_
  refine R_iload (Dat dd_L_put_c1 12 rfl) rfl ?_
  refine R_iconst (Dat dd_L_put_c1 13 rfl) ?_
  refine R_ishr (Dat dd_L_put_c1 14 rfl) ?_
  refine R_iconst (Dat dd_L_put_c1 15 rfl) ?_
  exact R_call0 (Dat dd_L_put_c1 16 rfl) rfl rfl rfl rfl rfl rfl T
theorem t_L_put_124 {h : Hp} {P : Value → Hp → Prop} {a2 a5 a6 a7 a8 s0 s1 s2 s3 : Int} {a0 a1 a4 s4 : Nat} {a3 : Value} (T : (rng s0) ∧ ((s0 = 0 → R 89 133 [.ref a0, .ref a1, .int (I a2), a3, .ref a4, .int (I a5), .int (I a6), .int (I a7), .int (I a8)] [.int (I 9), .int (I s1), .int (I s2), .int (I s3), .ref s4] h P) ∧ (¬ s0 = 0 → R 89 133 [.ref a0, .ref a1, .int (I a2), a3, .ref a4, .int (I a5), .int (I a6), .int (I a7), .int (I a8)] [.int (I 3), .int (I s1), .int (I s2), .int (I s3), .ref s4] h P))) : R 89 124 [.ref a0, .ref a1, .int (I a2), a3, .ref a4, .int (I a5), .int (I a6), .int (I a7), .int (I a8)] [.int (I s0), .int (I s1), .int (I s2), .int (I s3), .ref s4] h P := by
  obtain ⟨g1, T⟩ := T
  refine R_if_ne (Dat dd_L_put_c1 17 rfl) rfl g1  (fun c => ?_) (fun c => ?_)
  · replace T := T.1 c
    refine R_bipush (Dat dd_L_put_c1 18 rfl) (a := 9) rfl ?_
    refine R_goto (Dat dd_L_put_c1 19 rfl) rfl ?_
    exact T
  · replace T := T.2 c
    refine R_iconst (Dat dd_L_put_c1 20 rfl) ?_
    exact T
theorem t_L_put_133 {h : Hp} {P : Value → Hp → Prop} {a2 a5 a6 a7 a8 s0 s1 s2 s3 : Int} {a0 a1 a4 s4 : Nat} {a3 : Value} (T : R 88 0 [.int (I s1), .int (I s0)] [] h (fun v h2 => R 89 136 [.ref a0, .ref a1, .int (I a2), a3, .ref a4, .int (I a5), .int (I a6), .int (I a7), .int (I a8)] (v :: [.int (I s2), .int (I s3), .ref s4]) h2 P)) : R 89 133 [.ref a0, .ref a1, .int (I a2), a3, .ref a4, .int (I a5), .int (I a6), .int (I a7), .int (I a8)] [.int (I s0), .int (I s1), .int (I s2), .int (I s3), .ref s4] h P := by
  exact R_call0 (Dat dd_L_put_c1 21 rfl) rfl rfl rfl rfl rfl rfl T
theorem t_L_put_136 {h : Hp} {P : Value → Hp → Prop} {a2 a5 a6 a7 a8 s0 s1 s2 : Int} {a0 a1 a4 s3 : Nat} {a3 : Value} (T : (tg h s3 = 20) ∧ ((ln h s3 : Int) ≤ 2147483648) ∧ (0 ≤ s2) ∧ (s2 < ln h s3) ∧ R 88 0 [.int (I (shr a8 5)), .int (I 4)] [] (setI h s3 s2 (wr (s1 + s0))) (fun v h2 => R 89 153 [.ref a0, .ref a1, .int (I a2), a3, .ref a4, .int (I a5), .int (I a6), .int (I a7), .int (I a8)] (v :: [.int (I (16 + a7)), .ref a4]) h2 P)) : R 89 136 [.ref a0, .ref a1, .int (I a2), a3, .ref a4, .int (I a5), .int (I a6), .int (I a7), .int (I a8)] [.int (I s0), .int (I s1), .int (I s2), .ref s3] h P := by
  refine R_iadd (Dat dd_L_put_c1 22 rfl) ?_
  obtain ⟨g1, T⟩ := T
  obtain ⟨g2, T⟩ := T
  obtain ⟨g3, T⟩ := T
  obtain ⟨g4, T⟩ := T
  refine R_iastore (Dat dd_L_put_c1 23 rfl) g1 g2 g3 g4 (v := wr (s1 + s0)) rfl ?_
  refine R_aload (Dat dd_L_put_c1 24 rfl) rfl rfl ?_
  refine R_bipush (Dat dd_L_put_c1 25 rfl) (a := 16) rfl ?_
  refine R_iload (Dat dd_L_put_c1 26 rfl) rfl ?_
  refine R_iadd (Dat dd_L_put_c1 27 rfl) ?_
  refine R_iload (Dat dd_L_put_c1 28 rfl) rfl ?_
  refine R_iconst (Dat dd_L_put_c1 29 rfl) ?_
  refine R_ishr (Dat dd_L_put_c1 30 rfl) ?_
  refine R_iconst (Dat dd_L_put_c1 31 rfl) ?_
  exact R_call0 (Dat dd_L_put_c1 32 rfl) rfl rfl rfl rfl rfl rfl T
theorem t_L_put_153 {h : Hp} {P : Value → Hp → Prop} {a2 a5 a6 a7 a8 s0 s1 : Int} {a0 a1 a4 s2 : Nat} {a3 : Value} (T : (rng s0) ∧ (((2 : Int) < s0 → R 89 178 [.ref a0, .ref a1, .int (I a2), a3, .ref a4, .int (I a5), .int (I a6), .int (I a7), .int (I a8)] [.int (I 2), .int (I s1), .ref s2] h P) ∧ (¬ (2 : Int) < s0 → R 88 0 [.int (I (shr a8 5)), .int (I 4)] [] h (fun v h2 => R 89 169 [.ref a0, .ref a1, .int (I a2), a3, .ref a4, .int (I a5), .int (I a6), .int (I a7), .int (I a8)] (v :: [.int (I s1), .ref s2]) h2 P)))) : R 89 153 [.ref a0, .ref a1, .int (I a2), a3, .ref a4, .int (I a5), .int (I a6), .int (I a7), .int (I a8)] [.int (I s0), .int (I s1), .ref s2] h P := by
  refine R_iconst (Dat dd_L_put_c1 33 rfl) ?_
  obtain ⟨g1, T⟩ := T
  refine R_ic_le (Dat dd_L_put_c1 34 rfl) rfl g1 (by decide) (fun c => ?_) (fun c => ?_)
  · replace T := T.1 c
    refine R_iconst (Dat dd_L_put_c1 35 rfl) ?_
    refine R_goto (Dat dd_L_put_c1 36 rfl) rfl ?_
    exact T
  · replace T := T.2 c
    refine R_iload (Dat dd_L_put_c1 37 rfl) rfl ?_
    refine R_iconst (Dat dd_L_put_c1 38 rfl) ?_
    refine R_ishr (Dat dd_L_put_c1 39 rfl) ?_
    refine R_iconst (Dat dd_L_put_c1 40 rfl) ?_
    exact R_call0 (Dat dd_L_put_c1 41 rfl) rfl rfl rfl rfl rfl rfl T
theorem t_L_put_178 {h : Hp} {P : Value → Hp → Prop} {a2 a5 a6 a7 s0 s1 : Int} {a0 a1 a4 s2 : Nat} {a3 a8 : Value} (T : (tg h s2 = 20) ∧ ((ln h s2 : Int) ≤ 2147483648) ∧ (0 ≤ s1) ∧ (s1 < ln h s2) ∧ (rng a7) ∧ (((0 : Int) < a7 → (tg (setI h s2 s1 (wr s0)) a0 = 12) ∧ R 84 0 [.ref a0, .int (I 0), .int (I a6), .int (I 59), .retAddr 0] [] (setI h s2 s1 (wr s0)) (fun v h2 => R 89 196 [.ref a0, .ref a1, .int (I a2), a3, .ref a4, .int (I a5), .int (I (a6 + 1)), .int (I a7), a8] (v :: []) h2 P)) ∧ (¬ (0 : Int) < a7 → R 89 200 [.ref a0, .ref a1, .int (I a2), a3, .ref a4, .int (I a5), .int (I a6), .int (I a7), a8] [] (setI h s2 s1 (wr s0)) P))) : R 89 178 [.ref a0, .ref a1, .int (I a2), a3, .ref a4, .int (I a5), .int (I a6), .int (I a7), a8] [.int (I s0), .int (I s1), .ref s2] h P := by
  obtain ⟨g1, T⟩ := T
  obtain ⟨g2, T⟩ := T
  obtain ⟨g3, T⟩ := T
  obtain ⟨g4, T⟩ := T
  refine R_iastore (Dat dd_L_put_c1 47 rfl) g1 g2 g3 g4 (v := wr s0) rfl ?_
  refine R_iload (Dat dd_L_put_c1 48 rfl) rfl ?_
  obtain ⟨g5, T⟩ := T
  refine R_if_le (Dat dd_L_put_c1 49 rfl) rfl g5  (fun c => ?_) (fun c => ?_)
  · replace T := T.1 c
    refine R_aload_n (Dat dd_L_put_c1 50 rfl) rfl rfl ?_
    refine R_iconst (Dat dd_L_put_c1 51 rfl) ?_
    refine R_iload (Dat dd_L_put_c1 52 rfl) rfl ?_
    refine R_iinc (Dat dd_L_put_c1 53 rfl) rfl rfl rfl ?_
    refine R_bipush (Dat dd_L_put_c1 54 rfl) (a := 59) rfl ?_
    obtain ⟨g6, T⟩ := T
    exact R_call1 (Dat dd_L_put_c1 55 rfl) rfl g6 rfl rfl rfl rfl rfl T
  · replace T := T.2 c
    exact T
theorem t_L_put_169 {h : Hp} {P : Value → Hp → Prop} {a2 a5 a6 a7 s0 s1 : Int} {a0 a1 a4 s2 : Nat} {a3 a8 : Value} (T : (rng s0) ∧ ((s0 = 2 → R 89 178 [.ref a0, .ref a1, .int (I a2), a3, .ref a4, .int (I a5), .int (I a6), .int (I a7), a8] [.int (I 1), .int (I s1), .ref s2] h P) ∧ (¬ s0 = 2 → R 89 178 [.ref a0, .ref a1, .int (I a2), a3, .ref a4, .int (I a5), .int (I a6), .int (I a7), a8] [.int (I 0), .int (I s1), .ref s2] h P))) : R 89 169 [.ref a0, .ref a1, .int (I a2), a3, .ref a4, .int (I a5), .int (I a6), .int (I a7), a8] [.int (I s0), .int (I s1), .ref s2] h P := by
  refine R_iconst (Dat dd_L_put_c1 42 rfl) ?_
  obtain ⟨g1, T⟩ := T
  refine R_ic_ne (Dat dd_L_put_c1 43 rfl) rfl g1 (by decide) (fun c => ?_) (fun c => ?_)
  · replace T := T.1 c
    refine R_iconst (Dat dd_L_put_c1 44 rfl) ?_
    refine R_goto (Dat dd_L_put_c1 45 rfl) rfl ?_
    exact T
  · replace T := T.2 c
    refine R_iconst (Dat dd_L_put_c1 46 rfl) ?_
    exact T
theorem t_L_put_196 {h : Hp} {P : Value → Hp → Prop} {a2 a5 a6 a7 s0 : Int} {a0 a1 a4 : Nat} {a3 a8 : Value} (T : (rng s0) ∧ ((s0 = 1 → R 89 200 [.ref a0, .ref a1, .int (I a2), a3, .ref a4, .int (I a5), .int (I a6), .int (I a7), a8] [] h P) ∧ (¬ s0 = 1 → R 89 318 [.ref a0, .ref a1, .int (I a2), a3, .ref a4, .int (I a5), .int (I a6), .int (I a7), a8] [] h P))) : R 89 196 [.ref a0, .ref a1, .int (I a2), a3, .ref a4, .int (I a5), .int (I a6), .int (I a7), a8] [.int (I s0)] h P := by
  refine R_iconst (Dat dd_L_put_c1 56 rfl) ?_
  obtain ⟨g1, T⟩ := T
  refine R_ic_ne (Dat dd_L_put_c1 57 rfl) rfl g1 (by decide) (fun c => ?_) (fun c => ?_)
  · replace T := T.1 c
    exact T
  · replace T := T.2 c
    exact T
theorem t_L_put_200 {h : Hp} {P : Value → Hp → Prop} {a2 a5 a6 a7 : Int} {a0 a1 a4 : Nat} {a3 a8 : Value} (T : (tg h a0 = 12) ∧ R 84 0 [.ref a0, .int (I 0), .int (I a6), .int (I 103), .retAddr 0] [] h (fun v h2 => R 89 212 [.ref a0, .ref a1, .int (I a2), a3, .ref a4, .int (I a5), .int (I (a6 + 1)), .int (I a7), a8] (v :: []) h2 P)) : R 89 200 [.ref a0, .ref a1, .int (I a2), a3, .ref a4, .int (I a5), .int (I a6), .int (I a7), a8] [] h P := by
  refine R_aload_n (Dat dd_L_put_c1 58 rfl) rfl rfl ?_
  refine R_iconst (Dat dd_L_put_c1 59 rfl) ?_
  refine R_iload (Dat dd_L_put_c2 0 rfl) rfl ?_
  refine R_iinc (Dat dd_L_put_c2 1 rfl) rfl rfl rfl ?_
  refine R_bipush (Dat dd_L_put_c2 2 rfl) (a := 103) rfl ?_
  obtain ⟨g1, T⟩ := T
  exact R_call1 (Dat dd_L_put_c2 3 rfl) rfl g1 rfl rfl rfl rfl rfl T
theorem t_L_put_318 {h : Hp} {P : Value → Hp → Prop} {a0 a1 a2 a3 a4 a5 a6 a7 a8 : Value} (T : P (.int (I (-99))) h) : R 89 318 [a0, a1, a2, a3, a4, a5, a6, a7, a8] [] h P := by
  refine R_bipush (Dat dd_L_put_c3 1 rfl) (a := (-99)) rfl ?_
  exact R_ireturn (Dat dd_L_put_c3 2 rfl) rfl T
theorem t_L_put_212 {h : Hp} {P : Value → Hp → Prop} {a2 a5 a6 a7 s0 : Int} {a0 a1 a4 : Nat} {a3 a8 : Value} (T : (rng s0) ∧ ((s0 = 1 → (tg h a4 = 20 ∨ tg h a4 = 30) ∧ ((ln h a4 : Int) ≤ 2147483648) ∧ (0 ≤ a7) ∧ (a7 < ln h a4) ∧ (tg h a0 = 12) ∧ R 84 0 [.ref a0, .int (I 0), .int (I a6), .int (I (48 + (iv h a4 a7))), .retAddr 0] [] h (fun v h2 => R 89 234 [.ref a0, .ref a1, .int (I a2), a3, .ref a4, .int (I a5), .int (I (a6 + 1)), .int (I a7), a8] (v :: []) h2 P)) ∧ (¬ s0 = 1 → R 89 318 [.ref a0, .ref a1, .int (I a2), a3, .ref a4, .int (I a5), .int (I a6), .int (I a7), a8] [] h P))) : R 89 212 [.ref a0, .ref a1, .int (I a2), a3, .ref a4, .int (I a5), .int (I a6), .int (I a7), a8] [.int (I s0)] h P := by
  refine R_iconst (Dat dd_L_put_c2 4 rfl) ?_
  obtain ⟨g1, T⟩ := T
  refine R_ic_ne (Dat dd_L_put_c2 5 rfl) rfl g1 (by decide) (fun c => ?_) (fun c => ?_)
  · replace T := T.1 c
    refine R_aload_n (Dat dd_L_put_c2 6 rfl) rfl rfl ?_
    refine R_iconst (Dat dd_L_put_c2 7 rfl) ?_
    refine R_iload (Dat dd_L_put_c2 8 rfl) rfl ?_
    refine R_iinc (Dat dd_L_put_c2 9 rfl) rfl rfl rfl ?_
    refine R_bipush (Dat dd_L_put_c2 10 rfl) (a := 48) rfl ?_
    refine R_aload (Dat dd_L_put_c2 11 rfl) rfl rfl ?_
    refine R_iload (Dat dd_L_put_c2 12 rfl) rfl ?_
    obtain ⟨g2, T⟩ := T
    obtain ⟨g3, T⟩ := T
    obtain ⟨g4, T⟩ := T
    obtain ⟨g5, T⟩ := T
    refine R_iaload (Dat dd_L_put_c2 13 rfl) g2 g3 g4 g5 ?_
    refine R_iadd (Dat dd_L_put_c2 14 rfl) ?_
    obtain ⟨g6, T⟩ := T
    exact R_call1 (Dat dd_L_put_c2 15 rfl) rfl g6 rfl rfl rfl rfl rfl T
  · replace T := T.2 c
    exact T
theorem t_L_put_234 {h : Hp} {P : Value → Hp → Prop} {a2 a5 a6 a7 s0 : Int} {a0 a1 a4 : Nat} {a3 a8 : Value} (T : (rng s0) ∧ ((s0 = 1 → (tg h a4 = 20 ∨ tg h a4 = 30) ∧ ((ln h a4 : Int) ≤ 2147483648) ∧ (0 ≤ (8 + a7)) ∧ ((8 + a7) < ln h a4) ∧ (tg h a0 = 12) ∧ R 84 0 [.ref a0, .int (I 0), .int (I a6), .int (I (48 + (iv h a4 (8 + a7)))), .retAddr 0] [] h (fun v h2 => R 89 259 [.ref a0, .ref a1, .int (I a2), a3, .ref a4, .int (I a5), .int (I (a6 + 1)), .int (I a7), a8] (v :: []) h2 P)) ∧ (¬ s0 = 1 → R 89 318 [.ref a0, .ref a1, .int (I a2), a3, .ref a4, .int (I a5), .int (I a6), .int (I a7), a8] [] h P))) : R 89 234 [.ref a0, .ref a1, .int (I a2), a3, .ref a4, .int (I a5), .int (I a6), .int (I a7), a8] [.int (I s0)] h P := by
  refine R_iconst (Dat dd_L_put_c2 16 rfl) ?_
  obtain ⟨g1, T⟩ := T
  refine R_ic_ne (Dat dd_L_put_c2 17 rfl) rfl g1 (by decide) (fun c => ?_) (fun c => ?_)
  · replace T := T.1 c
    refine R_aload_n (Dat dd_L_put_c2 18 rfl) rfl rfl ?_
    refine R_iconst (Dat dd_L_put_c2 19 rfl) ?_
    refine R_iload (Dat dd_L_put_c2 20 rfl) rfl ?_
    refine R_iinc (Dat dd_L_put_c2 21 rfl) rfl rfl rfl ?_
    refine R_bipush (Dat dd_L_put_c2 22 rfl) (a := 48) rfl ?_
    refine R_aload (Dat dd_L_put_c2 23 rfl) rfl rfl ?_
    refine R_bipush (Dat dd_L_put_c2 24 rfl) (a := 8) rfl ?_
    refine R_iload (Dat dd_L_put_c2 25 rfl) rfl ?_
    refine R_iadd (Dat dd_L_put_c2 26 rfl) ?_
    obtain ⟨g2, T⟩ := T
    obtain ⟨g3, T⟩ := T
    obtain ⟨g4, T⟩ := T
    obtain ⟨g5, T⟩ := T
    refine R_iaload (Dat dd_L_put_c2 27 rfl) g2 g3 g4 g5 ?_
    refine R_iadd (Dat dd_L_put_c2 28 rfl) ?_
    obtain ⟨g6, T⟩ := T
    exact R_call1 (Dat dd_L_put_c2 29 rfl) rfl g6 rfl rfl rfl rfl rfl T
  · replace T := T.2 c
    exact T
theorem t_L_put_259 {h : Hp} {P : Value → Hp → Prop} {a2 a5 a6 a7 s0 : Int} {a0 a1 a4 : Nat} {a3 a8 : Value} (T : (rng s0) ∧ ((s0 = 1 → (tg h a4 = 20 ∨ tg h a4 = 30) ∧ ((ln h a4 : Int) ≤ 2147483648) ∧ (0 ≤ (16 + a7)) ∧ ((16 + a7) < ln h a4) ∧ (rng (iv h a4 (16 + a7))) ∧ (((0 : Int) < (iv h a4 (16 + a7)) → (tg h a0 = 12) ∧ R 84 0 [.ref a0, .int (I 0), .int (I a6), .int (I 108), .retAddr 0] [] h (fun v h2 => R 89 286 [.ref a0, .ref a1, .int (I a2), a3, .ref a4, .int (I a5), .int (I (a6 + 1)), .int (I a7), a8] (v :: []) h2 P)) ∧ (¬ (0 : Int) < (iv h a4 (16 + a7)) → R 89 290 [.ref a0, .ref a1, .int (I a2), a3, .ref a4, .int (I a5), .int (I a6), .int (I a7), a8] [] h P))) ∧ (¬ s0 = 1 → R 89 318 [.ref a0, .ref a1, .int (I a2), a3, .ref a4, .int (I a5), .int (I a6), .int (I a7), a8] [] h P))) : R 89 259 [.ref a0, .ref a1, .int (I a2), a3, .ref a4, .int (I a5), .int (I a6), .int (I a7), a8] [.int (I s0)] h P := by
  refine R_iconst (Dat dd_L_put_c2 30 rfl) ?_
  obtain ⟨g1, T⟩ := T
  refine R_ic_ne (Dat dd_L_put_c2 31 rfl) rfl g1 (by decide) (fun c => ?_) (fun c => ?_)
  · replace T := T.1 c
    refine R_aload (Dat dd_L_put_c2 32 rfl) rfl rfl ?_
    refine R_bipush (Dat dd_L_put_c2 33 rfl) (a := 16) rfl ?_
    refine R_iload (Dat dd_L_put_c2 34 rfl) rfl ?_
    refine R_iadd (Dat dd_L_put_c2 35 rfl) ?_
    obtain ⟨g2, T⟩ := T
    obtain ⟨g3, T⟩ := T
    obtain ⟨g4, T⟩ := T
    obtain ⟨g5, T⟩ := T
    refine R_iaload (Dat dd_L_put_c2 36 rfl) g2 g3 g4 g5 ?_
    obtain ⟨g6, T⟩ := T
    refine R_if_le (Dat dd_L_put_c2 37 rfl) rfl g6  (fun c => ?_) (fun c => ?_)
    · replace T := T.1 c
      refine R_aload_n (Dat dd_L_put_c2 38 rfl) rfl rfl ?_
      refine R_iconst (Dat dd_L_put_c2 39 rfl) ?_
      refine R_iload (Dat dd_L_put_c2 40 rfl) rfl ?_
      refine R_iinc (Dat dd_L_put_c2 41 rfl) rfl rfl rfl ?_
      refine R_bipush (Dat dd_L_put_c2 42 rfl) (a := 108) rfl ?_
      obtain ⟨g7, T⟩ := T
      exact R_call1 (Dat dd_L_put_c2 43 rfl) rfl g7 rfl rfl rfl rfl rfl T
    · replace T := T.2 c
      exact T
  · replace T := T.2 c
    exact T
theorem t_L_put_286 {h : Hp} {P : Value → Hp → Prop} {a2 a5 a6 a7 s0 : Int} {a0 a1 a4 : Nat} {a3 a8 : Value} (T : (rng s0) ∧ ((s0 = 1 → R 89 290 [.ref a0, .ref a1, .int (I a2), a3, .ref a4, .int (I a5), .int (I a6), .int (I a7), a8] [] h P) ∧ (¬ s0 = 1 → R 89 318 [.ref a0, .ref a1, .int (I a2), a3, .ref a4, .int (I a5), .int (I a6), .int (I a7), a8] [] h P))) : R 89 286 [.ref a0, .ref a1, .int (I a2), a3, .ref a4, .int (I a5), .int (I a6), .int (I a7), a8] [.int (I s0)] h P := by
  refine R_iconst (Dat dd_L_put_c2 44 rfl) ?_
  obtain ⟨g1, T⟩ := T
  refine R_ic_ne (Dat dd_L_put_c2 45 rfl) rfl g1 (by decide) (fun c => ?_) (fun c => ?_)
  · replace T := T.1 c
    exact T
  · replace T := T.2 c
    exact T
theorem t_L_put_290 {h : Hp} {P : Value → Hp → Prop} {a2 a5 a6 a7 : Int} {a0 a1 a4 : Nat} {a3 a8 : Value} (T : (tg h a4 = 20 ∨ tg h a4 = 30) ∧ ((ln h a4 : Int) ≤ 2147483648) ∧ (0 ≤ (16 + a7)) ∧ ((16 + a7) < ln h a4) ∧ (rng (iv h a4 (16 + a7))) ∧ (((1 : Int) < (iv h a4 (16 + a7)) → (tg h a0 = 12) ∧ R 84 0 [.ref a0, .int (I 0), .int (I a6), .int (I 111), .retAddr 0] [] h (fun v h2 => R 89 314 [.ref a0, .ref a1, .int (I a2), a3, .ref a4, .int (I a5), .int (I (a6 + 1)), .int (I a7), a8] (v :: []) h2 P)) ∧ (¬ (1 : Int) < (iv h a4 (16 + a7)) → R 89 321 [.ref a0, .ref a1, .int (I a2), a3, .ref a4, .int (I a5), .int (I a6), .int (I a7), a8] [] h P))) : R 89 290 [.ref a0, .ref a1, .int (I a2), a3, .ref a4, .int (I a5), .int (I a6), .int (I a7), a8] [] h P := by
  refine R_aload (Dat dd_L_put_c2 46 rfl) rfl rfl ?_
  refine R_bipush (Dat dd_L_put_c2 47 rfl) (a := 16) rfl ?_
  refine R_iload (Dat dd_L_put_c2 48 rfl) rfl ?_
  refine R_iadd (Dat dd_L_put_c2 49 rfl) ?_
  obtain ⟨g1, T⟩ := T
  obtain ⟨g2, T⟩ := T
  obtain ⟨g3, T⟩ := T
  obtain ⟨g4, T⟩ := T
  refine R_iaload (Dat dd_L_put_c2 50 rfl) g1 g2 g3 g4 ?_
  refine R_iconst (Dat dd_L_put_c2 51 rfl) ?_
  obtain ⟨g5, T⟩ := T
  refine R_ic_le (Dat dd_L_put_c2 52 rfl) rfl g5 (by decide) (fun c => ?_) (fun c => ?_)
  · replace T := T.1 c
    refine R_aload_n (Dat dd_L_put_c2 53 rfl) rfl rfl ?_
    refine R_iconst (Dat dd_L_put_c2 54 rfl) ?_
    refine R_iload (Dat dd_L_put_c2 55 rfl) rfl ?_
    refine R_iinc (Dat dd_L_put_c2 56 rfl) rfl rfl rfl ?_
    refine R_bipush (Dat dd_L_put_c2 57 rfl) (a := 111) rfl ?_
    obtain ⟨g6, T⟩ := T
    exact R_call1 (Dat dd_L_put_c2 58 rfl) rfl g6 rfl rfl rfl rfl rfl T
  · replace T := T.2 c
    exact T
theorem t_L_put_314 {h : Hp} {P : Value → Hp → Prop} {a2 a5 a6 a7 s0 : Int} {a0 a1 a4 : Nat} {a3 a8 : Value} (T : (rng s0) ∧ ((s0 = 1 → R 89 321 [.ref a0, .ref a1, .int (I a2), a3, .ref a4, .int (I a5), .int (I a6), .int (I a7), a8] [] h P) ∧ (¬ s0 = 1 → R 89 318 [.ref a0, .ref a1, .int (I a2), a3, .ref a4, .int (I a5), .int (I a6), .int (I a7), a8] [] h P))) : R 89 314 [.ref a0, .ref a1, .int (I a2), a3, .ref a4, .int (I a5), .int (I a6), .int (I a7), a8] [.int (I s0)] h P := by
  refine R_iconst (Dat dd_L_put_c2 59 rfl) ?_
  obtain ⟨g1, T⟩ := T
  refine R_ic_eq (Dat dd_L_put_c3 0 rfl) rfl g1 (by decide) (fun c => ?_) (fun c => ?_)
  · replace T := T.1 c
    exact T
  · replace T := T.2 c
    exact T
theorem t_L_put_321 {h : Hp} {P : Value → Hp → Prop} {a2 a5 a6 a7 : Int} {a0 a1 a4 : Nat} {a3 a8 : Value} (T : R 89 43 [.ref a0, .ref a1, .int (I a2), a3, .ref a4, .int (I a5), .int (I a6), .int (I (a7 + 1)), a8] [] h P) : R 89 321 [.ref a0, .ref a1, .int (I a2), a3, .ref a4, .int (I a5), .int (I a6), .int (I a7), a8] [] h P := by
  refine R_iinc (Dat dd_L_put_c3 3 rfl) rfl rfl rfl ?_
  refine R_goto (Dat dd_L_put_c3 4 rfl) rfl ?_
  exact T
def dl_L_causes_c0 : List (Nat × Instr × Nat) := [(0, .aload_n 1, 1), (1, .iload_n 2, 1), (2, .invokestatic 9, 3), (5, .istore 4, 2), (7, .aload_n 3, 1), (8, .iconst 0, 1), (9, .iconst 1, 1), (10, .iload 4, 2), (12, .bipush 6, 2), (14, .invokestatic 15, 3), (17, .iadd, 1), (18, .iastore, 1), (19, .aload_n 0, 1), (20, .iconst 1, 1), (21, .iconst 2, 1), (22, .bipush 30, 2), (24, .invokevirtual 19, 3), (27, .iconst 1, 1), (28, .if_icmp .eq 6, 3), (31, .bipush (-99), 2), (33, .ireturn, 1), (34, .iconst 0, 1), (35, .istore 5, 2), (37, .iconst 0, 1), (38, .istore 6, 2), (40, .iload 6, 2), (42, .aload_n 3, 1), (43, .iconst 0, 1), (44, .iaload, 1), (45, .if_icmp .ge 267, 3), (48, .aload_n 1, 1), (49, .iload_n 2, 1), (50, .iconst 1, 1), (51, .iadd, 1), (52, .iload 6, 2), (54, .iconst 2, 1), (55, .irem, 1), (56, .iadd, 1), (57, .invokestatic 9, 3), (60, .iload 6, 2), (62, .iconst 2, 1), (63, .idiv, 1), (64, .bipush 8, 2), (66, .imul, 1), (67, .ishr, 1), (68, .istore 7, 2), (70, .aload_n 3, 1), (71, .iconst 1, 1), (72, .iconst 3, 1), (73, .iload 6, 2), (75, .imul, 1), (76, .iadd, 1), (77, .iload 7, 2), (79, .bipush 6, 2), (81, .invokestatic 15, 3), (84, .iastore, 1), (85, .aload_n 3, 1), (86, .iconst 2, 1), (87, .iconst 3, 1), (88, .iload 6, 2)]
theorem dd_L_causes_c0 : Dall 90 dl_L_causes_c0 = true := by decide +kernel
def dl_L_causes_c1 : List (Nat × Instr × Nat) := [(90, .imul, 1), (91, .iadd, 1), (92, .iload 7, 2), (94, .iconst 3, 1), (95, .ishr, 1), (96, .iload 7, 2), (98, .iconst 5, 1), (99, .ishr, 1), (100, .iconst 3, 1), (101, .invokestatic 15, 3), (104, .ifCond .ne 8, 3), (107, .bipush 10, 2), (109, .goto 4, 3), (112, .iconst 4, 1), (113, .invokestatic 15, 3), (116, .iastore, 1), (117, .aload_n 3, 1), (118, .iconst 3, 1), (119, .iconst 3, 1), (120, .iload 6, 2), (122, .imul, 1), (123, .iadd, 1), (124, .iconst 1, 1), (125, .iload 7, 2), (127, .bipush 6, 2), (129, .ishr, 1), (130, .iload 4, 2), (132, .bipush 7, 2), (134, .ishr, 1), (135, .iconst 2, 1), (136, .invokestatic 15, 3), (139, .ifCond .ne 7, 3), (142, .iconst 1, 1), (143, .goto 4, 3), (146, .iconst 3, 1), (147, .invokestatic 15, 3), (150, .iadd, 1), (151, .iastore, 1), (152, .aload_n 3, 1), (153, .iconst 1, 1), (154, .iconst 3, 1), (155, .iload 6, 2), (157, .imul, 1), (158, .iadd, 1), (159, .iaload, 1), (160, .istore 8, 2), (162, .iload 6, 2), (164, .ifCond .le 19, 3), (167, .aload_n 0, 1), (168, .iconst 1, 1), (169, .iload 5, 2), (171, .iinc 5 1, 3), (174, .bipush 59, 2), (176, .invokevirtual 25, 3), (179, .iconst 1, 1), (180, .if_icmp .ne 123, 3), (183, .aload_n 0, 1), (184, .iconst 1, 1), (185, .iload 5, 2), (187, .iinc 5 1, 3)]
theorem dd_L_causes_c1 : Dall 90 dl_L_causes_c1 = true := by decide +kernel
def dl_L_causes_c2 : List (Nat × Instr × Nat) := [(190, .iload 8, 2), (192, .ifCond .ne 8, 3), (195, .bipush 102, 2), (197, .goto 49, 3), (200, .iload 8, 2), (202, .iconst 1, 1), (203, .if_icmp .ne 8, 3), (206, .bipush 104, 2), (208, .goto 38, 3), (211, .iload 8, 2), (213, .iconst 2, 1), (214, .if_icmp .ne 8, 3), (217, .bipush 114, 2), (219, .goto 27, 3), (222, .iload 8, 2), (224, .iconst 3, 1), (225, .if_icmp .ne 8, 3), (228, .bipush 116, 2), (230, .goto 16, 3), (233, .iload 8, 2), (235, .iconst 4, 1), (236, .if_icmp .ne 8, 3), (239, .bipush 110, 2), (241, .goto 5, 3), (244, .bipush 97, 2), (246, .invokevirtual 25, 3), (249, .iconst 1, 1), (250, .if_icmp .ne 53, 3), (253, .aload_n 0, 1), (254, .iconst 1, 1), (255, .iload 5, 2), (257, .iinc 5 1, 3), (260, .bipush 48, 2), (262, .aload_n 3, 1), (263, .iconst 2, 1), (264, .iconst 3, 1), (265, .iload 6, 2), (267, .imul, 1), (268, .iadd, 1), (269, .iaload, 1), (270, .iadd, 1), (271, .invokevirtual 25, 3), (274, .iconst 1, 1), (275, .if_icmp .ne 28, 3), (278, .aload_n 0, 1), (279, .iconst 1, 1), (280, .iload 5, 2), (282, .iinc 5 1, 3), (285, .bipush 48, 2), (287, .aload_n 3, 1), (288, .iconst 3, 1), (289, .iconst 3, 1), (290, .iload 6, 2), (292, .imul, 1), (293, .iadd, 1), (294, .iaload, 1), (295, .iadd, 1), (296, .invokevirtual 25, 3), (299, .iconst 1, 1), (300, .if_icmp .eq 6, 3)]
theorem dd_L_causes_c2 : Dall 90 dl_L_causes_c2 = true := by decide +kernel
def dl_L_causes_c3 : List (Nat × Instr × Nat) := [(303, .bipush (-99), 2), (305, .ireturn, 1), (306, .iinc 6 1, 3), (309, .goto (-269), 3), (312, .iload 5, 2), (314, .ireturn, 1)]
theorem dd_L_causes_c3 : Dall 90 dl_L_causes_c3 = true := by decide +kernel
theorem t_L_causes {h : Hp} {P : Value → Hp → Prop} {p2 : Int} {p0 p1 p3 : Nat} (T : R 87 0 [.ref p1, .int (I p2)] [] h (fun v h2 => R 90 5 [.ref p0, .ref p1, .int (I p2), .ref p3, .retAddr 0, .retAddr 0, .retAddr 0, .retAddr 0, .retAddr 0] (v :: []) h2 P)) : R 90 0 [.ref p0, .ref p1, .int (I p2), .ref p3, .retAddr 0, .retAddr 0, .retAddr 0, .retAddr 0, .retAddr 0] [] h P := by
  refine R_aload_n (Dat dd_L_causes_c0 0 rfl) rfl rfl ?_
  refine R_iload_n (Dat dd_L_causes_c0 1 rfl) rfl ?_
  exact R_call0 (Dat dd_L_causes_c0 2 rfl) rfl rfl rfl rfl rfl rfl T
theorem t_L_causes_5 {h : Hp} {P : Value → Hp → Prop} {a2 s0 : Int} {a0 a1 a3 : Nat} {a4 a5 a6 a7 a8 : Value} (T : R 88 0 [.int (I s0), .int (I 6)] [] h (fun v h2 => R 90 17 [.ref a0, .ref a1, .int (I a2), .ref a3, .int (I s0), a5, a6, a7, a8] (v :: [.int (I 1), .int (I 0), .ref a3]) h2 P)) : R 90 5 [.ref a0, .ref a1, .int (I a2), .ref a3, a4, a5, a6, a7, a8] [.int (I s0)] h P := by
  refine R_istore (Dat dd_L_causes_c0 3 rfl) rfl rfl ?_
  refine R_aload_n (Dat dd_L_causes_c0 4 rfl) rfl rfl ?_
  refine R_iconst (Dat dd_L_causes_c0 5 rfl) ?_
  refine R_iconst (Dat dd_L_causes_c0 6 rfl) ?_
  refine R_iload (Dat dd_L_causes_c0 7 rfl) rfl ?_
  refine R_bipush (Dat dd_L_causes_c0 8 rfl) (a := 6) rfl ?_
  exact R_call0 (Dat dd_L_causes_c0 9 rfl) rfl rfl rfl rfl rfl rfl T
theorem t_L_causes_17 {h : Hp} {P : Value → Hp → Prop} {a2 a4 s0 s1 s2 : Int} {a0 a1 a3 s3 : Nat} {a5 a6 a7 a8 : Value} (T : (tg h s3 = 20) ∧ ((ln h s3 : Int) ≤ 2147483648) ∧ (0 ≤ s2) ∧ (s2 < ln h s3) ∧ (tg (setI h s3 s2 (wr (s1 + s0))) a0 = 12) ∧ R 82 0 [.ref a0, .int (I 1), .int (I 2), .int (I 30)] [] (setI h s3 s2 (wr (s1 + s0))) (fun v h2 => R 90 27 [.ref a0, .ref a1, .int (I a2), .ref a3, .int (I a4), a5, a6, a7, a8] (v :: []) h2 P)) : R 90 17 [.ref a0, .ref a1, .int (I a2), .ref a3, .int (I a4), a5, a6, a7, a8] [.int (I s0), .int (I s1), .int (I s2), .ref s3] h P := by
  refine R_iadd (Dat dd_L_causes_c0 10 rfl) ?_
  obtain ⟨g1, T⟩ := T
  obtain ⟨g2, T⟩ := T
  obtain ⟨g3, T⟩ := T
  obtain ⟨g4, T⟩ := T
  refine R_iastore (Dat dd_L_causes_c0 11 rfl) g1 g2 g3 g4 (v := wr (s1 + s0)) rfl ?_
  refine R_aload_n (Dat dd_L_causes_c0 12 rfl) rfl rfl ?_
  refine R_iconst (Dat dd_L_causes_c0 13 rfl) ?_
  refine R_iconst (Dat dd_L_causes_c0 14 rfl) ?_
  refine R_bipush (Dat dd_L_causes_c0 15 rfl) (a := 30) rfl ?_
  obtain ⟨g5, T⟩ := T
  exact R_call1 (Dat dd_L_causes_c0 16 rfl) rfl g5 rfl rfl rfl rfl rfl T
theorem t_L_causes_27 {h : Hp} {P : Value → Hp → Prop} {a2 a4 s0 : Int} {a0 a1 a3 : Nat} {a5 a6 a7 a8 : Value} (T : (rng s0) ∧ ((s0 = 1 → R 90 40 [.ref a0, .ref a1, .int (I a2), .ref a3, .int (I a4), .int (I 0), .int (I 0), a7, a8] [] h P) ∧ (¬ s0 = 1 → P (.int (I (-99))) h))) : R 90 27 [.ref a0, .ref a1, .int (I a2), .ref a3, .int (I a4), a5, a6, a7, a8] [.int (I s0)] h P := by
  refine R_iconst (Dat dd_L_causes_c0 17 rfl) ?_
  obtain ⟨g1, T⟩ := T
  refine R_ic_eq (Dat dd_L_causes_c0 18 rfl) rfl g1 (by decide) (fun c => ?_) (fun c => ?_)
  · replace T := T.1 c
    refine R_iconst (Dat dd_L_causes_c0 21 rfl) ?_
    refine R_istore (Dat dd_L_causes_c0 22 rfl) rfl rfl ?_
    refine R_iconst (Dat dd_L_causes_c0 23 rfl) ?_
    refine R_istore (Dat dd_L_causes_c0 24 rfl) rfl rfl ?_
    exact T
  · replace T := T.2 c
    refine R_bipush (Dat dd_L_causes_c0 19 rfl) (a := (-99)) rfl ?_
    exact R_ireturn (Dat dd_L_causes_c0 20 rfl) rfl T
theorem t_L_causes_40 {h : Hp} {P : Value → Hp → Prop} {a2 a4 a5 a6 : Int} {a0 a1 a3 : Nat} {a7 a8 : Value} (T : (tg h a3 = 20 ∨ tg h a3 = 30) ∧ ((ln h a3 : Int) ≤ 2147483648) ∧ ((0 : Int) < ln h a3) ∧ (rng a6) ∧ (rng (iv h a3 0)) ∧ ((a6 < (iv h a3 0) → (0 ≤ a6 ∧ a6 < 2147483648) ∧ R 87 0 [.ref a1, .int (I ((a2 + 1) + (a6 % 2)))] [] h (fun v h2 => R 90 60 [.ref a0, .ref a1, .int (I a2), .ref a3, .int (I a4), .int (I a5), .int (I a6), a7, a8] (v :: []) h2 P)) ∧ (¬ a6 < (iv h a3 0) → P (.int (I a5)) h))) : R 90 40 [.ref a0, .ref a1, .int (I a2), .ref a3, .int (I a4), .int (I a5), .int (I a6), a7, a8] [] h P := by
  refine R_iload (Dat dd_L_causes_c0 25 rfl) rfl ?_
  refine R_aload_n (Dat dd_L_causes_c0 26 rfl) rfl rfl ?_
  refine R_iconst (Dat dd_L_causes_c0 27 rfl) ?_
  obtain ⟨g1, T⟩ := T
  obtain ⟨g2, T⟩ := T
  obtain ⟨g3, T⟩ := T
  refine R_iaload (Dat dd_L_causes_c0 28 rfl) g1 g2 (by decide) g3 ?_
  obtain ⟨g4, T⟩ := T
  obtain ⟨g5, T⟩ := T
  refine R_ic_ge (Dat dd_L_causes_c0 29 rfl) rfl g4 g5 (fun c => ?_) (fun c => ?_)
  · replace T := T.1 c
    refine R_aload_n (Dat dd_L_causes_c0 30 rfl) rfl rfl ?_
    refine R_iload_n (Dat dd_L_causes_c0 31 rfl) rfl ?_
    refine R_iconst (Dat dd_L_causes_c0 32 rfl) ?_
    refine R_iadd (Dat dd_L_causes_c0 33 rfl) ?_
    refine R_iload (Dat dd_L_causes_c0 34 rfl) rfl ?_
    refine R_iconst (Dat dd_L_causes_c0 35 rfl) ?_
    obtain ⟨g6, T⟩ := T
    refine R_irem (Dat dd_L_causes_c0 36 rfl) g6 (by decide) ?_
    refine R_iadd (Dat dd_L_causes_c0 37 rfl) ?_
    exact R_call0 (Dat dd_L_causes_c0 38 rfl) rfl rfl rfl rfl rfl rfl T
  · replace T := T.2 c
    refine R_iload (Dat dd_L_causes_c3 4 rfl) rfl ?_
    exact R_ireturn (Dat dd_L_causes_c3 5 rfl) rfl T
theorem t_L_causes_60 {h : Hp} {P : Value → Hp → Prop} {a2 a4 a5 a6 s0 : Int} {a0 a1 a3 : Nat} {a7 a8 : Value} (T : (0 ≤ a6 ∧ a6 < 2147483648) ∧ R 88 0 [.int (I (shr s0 ((a6 / 2) * 8))), .int (I 6)] [] h (fun v h2 => R 90 84 [.ref a0, .ref a1, .int (I a2), .ref a3, .int (I a4), .int (I a5), .int (I a6), .int (I (shr s0 ((a6 / 2) * 8))), a8] (v :: [.int (I (1 + (3 * a6))), .ref a3]) h2 P)) : R 90 60 [.ref a0, .ref a1, .int (I a2), .ref a3, .int (I a4), .int (I a5), .int (I a6), a7, a8] [.int (I s0)] h P := by
  refine R_iload (Dat dd_L_causes_c0 39 rfl) rfl ?_
  refine R_iconst (Dat dd_L_causes_c0 40 rfl) ?_
  obtain ⟨g1, T⟩ := T
  refine R_idiv (Dat dd_L_causes_c0 41 rfl) g1 (by decide) ?_
  refine R_bipush (Dat dd_L_causes_c0 42 rfl) (a := 8) rfl ?_
  refine R_imul (Dat dd_L_causes_c0 43 rfl) ?_
  refine R_ishr (Dat dd_L_causes_c0 44 rfl) ?_
  refine R_istore (Dat dd_L_causes_c0 45 rfl) rfl rfl ?_
  refine R_aload_n (Dat dd_L_causes_c0 46 rfl) rfl rfl ?_
  refine R_iconst (Dat dd_L_causes_c0 47 rfl) ?_
  refine R_iconst (Dat dd_L_causes_c0 48 rfl) ?_
  refine R_iload (Dat dd_L_causes_c0 49 rfl) rfl ?_
  refine R_imul (Dat dd_L_causes_c0 50 rfl) ?_
  refine R_iadd (Dat dd_L_causes_c0 51 rfl) ?_
  refine R_iload (Dat dd_L_causes_c0 52 rfl) rfl ?_
  refine R_bipush (Dat dd_L_causes_c0 53 rfl) (a := 6) rfl ?_
  exact R_call0 (Dat dd_L_causes_c0 54 rfl) rfl rfl rfl rfl rfl rfl T
theorem t_L_causes_84 {h : Hp} {P : Value → Hp → Prop} {a2 a4 a5 a6 a7 s0 s1 : Int} {a0 a1 a3 s2 : Nat} {a8 : Value} (T : (tg h s2 = 20) ∧ ((ln h s2 : Int) ≤ 2147483648) ∧ (0 ≤ s1) ∧ (s1 < ln h s2) ∧ R 88 0 [.int (I (shr a7 5)), .int (I 3)] [] (setI h s2 s1 (wr s0)) (fun v h2 => R 90 104 [.ref a0, .ref a1, .int (I a2), .ref a3, .int (I a4), .int (I a5), .int (I a6), .int (I a7), a8] (v :: [.int (I (shr a7 3)), .int (I (2 + (3 * a6))), .ref a3]) h2 P)) : R 90 84 [.ref a0, .ref a1, .int (I a2), .ref a3, .int (I a4), .int (I a5), .int (I a6), .int (I a7), a8] [.int (I s0), .int (I s1), .ref s2] h P := by
  obtain ⟨g1, T⟩ := T
  obtain ⟨g2, T⟩ := T
  obtain ⟨g3, T⟩ := T
  obtain ⟨g4, T⟩ := T
  refine R_iastore (Dat dd_L_causes_c0 55 rfl) g1 g2 g3 g4 (v := wr s0) rfl ?_
  refine R_aload_n (Dat dd_L_causes_c0 56 rfl) rfl rfl ?_
  refine R_iconst (Dat dd_L_causes_c0 57 rfl) ?_
  refine R_iconst (Dat dd_L_causes_c0 58 rfl) ?_
  refine R_iload (Dat dd_L_causes_c0 59 rfl) rfl ?_
  refine R_imul (Dat dd_L_causes_c1 0 rfl) ?_
  refine R_iadd (Dat dd_L_causes_c1 1 rfl) ?_
  refine R_iload (Dat dd_L_causes_c1 2 rfl) rfl ?_
  refine R_iconst (Dat dd_L_causes_c1 3 rfl) ?_
  refine R_ishr (Dat dd_L_causes_c1 4 rfl) ?_
  refine R_iload (Dat dd_L_causes_c1 5 rfl) rfl ?_
  refine R_iconst (Dat dd_L_causes_c1 6 rfl) ?_
  refine R_ishr (Dat dd_L_causes_c1 7 rfl) ?_
  refine R_iconst (Dat dd_L_causes_c1 8 rfl) ?_
  exact R_call0 (Dat dd_L_causes_c1 9 rfl) rfl rfl rfl rfl rfl rfl T
theorem t_L_causes_104 {h : Hp} {P : Value → Hp → Prop} {a2 a4 a5 a6 a7 s0 s1 s2 : Int} {a0 a1 a3 s3 : Nat} {a8 : Value} (T : (rng s0) ∧ ((s0 = 0 → R 90 113 [.ref a0, .ref a1, .int (I a2), .ref a3, .int (I a4), .int (I a5), .int (I a6), .int (I a7), a8] [.int (I 10), .int (I s1), .int (I s2), .ref s3] h P) ∧ (¬ s0 = 0 → R 90 113 [.ref a0, .ref a1, .int (I a2), .ref a3, .int (I a4), .int (I a5), .int (I a6), .int (I a7), a8] [.int (I 4), .int (I s1), .int (I s2), .ref s3] h P))) : R 90 104 [.ref a0, .ref a1, .int (I a2), .ref a3, .int (I a4), .int (I a5), .int (I a6), .int (I a7), a8] [.int (I s0), .int (I s1), .int (I s2), .ref s3] h P := by
  obtain ⟨g1, T⟩ := T
  refine R_if_ne (Dat dd_L_causes_c1 10 rfl) rfl g1  (fun c => ?_) (fun c => ?_)
  · replace T := T.1 c
    refine R_bipush (Dat dd_L_causes_c1 11 rfl) (a := 10) rfl ?_
    refine R_goto (Dat dd_L_causes_c1 12 rfl) rfl ?_
    exact T
  · replace T := T.2 c
    refine R_iconst (Dat dd_L_causes_c1 13 rfl) ?_
    exact T
theorem t_L_causes_113 {h : Hp} {P : Value → Hp → Prop} {a2 a4 a5 a6 a7 s0 s1 s2 : Int} {a0 a1 a3 s3 : Nat} {a8 : Value} (T : R 88 0 [.int (I s1), .int (I s0)] [] h (fun v h2 => R 90 116 [.ref a0, .ref a1, .int (I a2), .ref a3, .int (I a4), .int (I a5), .int (I a6), .int (I a7), a8] (v :: [.int (I s2), .ref s3]) h2 P)) : R 90 113 [.ref a0, .ref a1, .int (I a2), .ref a3, .int (I a4), .int (I a5), .int (I a6), .int (I a7), a8] [.int (I s0), .int (I s1), .int (I s2), .ref s3] h P := by
  exact R_call0 (Dat dd_L_causes_c1 14 rfl) rfl rfl rfl rfl rfl rfl T
theorem t_L_causes_116 {h : Hp} {P : Value → Hp → Prop} {a2 a4 a5 a6 a7 s0 s1 : Int} {a0 a1 a3 s2 : Nat} {a8 : Value} (T : (tg h s2 = 20) ∧ ((ln h s2 : Int) ≤ 2147483648) ∧ (0 ≤ s1) ∧ (s1 < ln h s2) ∧ R 88 0 [.int (I (shr a4 7)), .int (I 2)] [] (setI h s2 s1 (wr s0)) (fun v h2 => R 90 139 [.ref a0, .ref a1, .int (I a2), .ref a3, .int (I a4), .int (I a5), .int (I a6), .int (I a7), a8] (v :: [.int (I (shr a7 6)), .int (I 1), .int (I (3 + (3 * a6))), .ref a3]) h2 P)) : R 90 116 [.ref a0, .ref a1, .int (I a2), .ref a3, .int (I a4), .int (I a5), .int (I a6), .int (I a7), a8] [.int (I s0), .int (I s1), .ref s2] h P := by
  obtain ⟨g1, T⟩ := T
  obtain ⟨g2, T⟩ := T
  obtain ⟨g3, T⟩ := T
  obtain ⟨g4, T⟩ := T
  refine R_iastore (Dat dd_L_causes_c1 15 rfl) g1 g2 g3 g4 (v := wr s0) rfl ?_
  refine R_aload_n (Dat dd_L_causes_c1 16 rfl) rfl rfl ?_
  refine R_iconst (Dat dd_L_causes_c1 17 rfl) ?_
  refine R_iconst (Dat dd_L_causes_c1 18 rfl) ?_
  refine R_iload (Dat dd_L_causes_c1 19 rfl) rfl ?_
  refine R_imul (Dat dd_L_causes_c1 20 rfl) ?_
  refine R_iadd (Dat dd_L_causes_c1 21 rfl) ?_
  refine R_iconst (Dat dd_L_causes_c1 22 rfl) ?_
  refine R_iload (Dat dd_L_causes_c1 23 rfl) rfl ?_
  refine R_bipush (Dat dd_L_causes_c1 24 rfl) (a := 6) rfl ?_
  refine R_ishr (Dat dd_L_causes_c1 25 rfl) ?_
  refine R_iload (Dat dd_L_causes_c1 26 rfl) rfl ?_
  refine R_bipush (Dat dd_L_causes_c1 27 rfl) (a := 7) rfl ?_
  refine R_ishr (Dat dd_L_causes_c1 28 rfl) ?_
  refine R_iconst (Dat dd_L_causes_c1 29 rfl) ?_
  exact R_call0 (Dat dd_L_causes_c1 30 rfl) rfl rfl rfl rfl rfl rfl T
theorem t_L_causes_139 {h : Hp} {P : Value → Hp → Prop} {a2 a4 a5 a6 s0 s1 s2 s3 : Int} {a0 a1 a3 s4 : Nat} {a7 a8 : Value} (T : (rng s0) ∧ ((s0 = 0 → R 90 147 [.ref a0, .ref a1, .int (I a2), .ref a3, .int (I a4), .int (I a5), .int (I a6), a7, a8] [.int (I 1), .int (I s1), .int (I s2), .int (I s3), .ref s4] h P) ∧ (¬ s0 = 0 → R 90 147 [.ref a0, .ref a1, .int (I a2), .ref a3, .int (I a4), .int (I a5), .int (I a6), a7, a8] [.int (I 3), .int (I s1), .int (I s2), .int (I s3), .ref s4] h P))) : R 90 139 [.ref a0, .ref a1, .int (I a2), .ref a3, .int (I a4), .int (I a5), .int (I a6), a7, a8] [.int (I s0), .int (I s1), .int (I s2), .int (I s3), .ref s4] h P := by
  obtain ⟨g1, T⟩ := T
  refine R_if_ne (Dat dd_L_causes_c1 31 rfl) rfl g1  (fun c => ?_) (fun c => ?_)
  · replace T := T.1 c
    refine R_iconst (Dat dd_L_causes_c1 32 rfl) ?_
    refine R_goto (Dat dd_L_causes_c1 33 rfl) rfl ?_
    exact T
  · replace T := T.2 c
    refine R_iconst (Dat dd_L_causes_c1 34 rfl) ?_
    exact T
theorem t_L_causes_147 {h : Hp} {P : Value → Hp → Prop} {a2 a4 a5 a6 s0 s1 s2 s3 : Int} {a0 a1 a3 s4 : Nat} {a7 a8 : Value} (T : R 88 0 [.int (I s1), .int (I s0)] [] h (fun v h2 => R 90 150 [.ref a0, .ref a1, .int (I a2), .ref a3, .int (I a4), .int (I a5), .int (I a6), a7, a8] (v :: [.int (I s2), .int (I s3), .ref s4]) h2 P)) : R 90 147 [.ref a0, .ref a1, .int (I a2), .ref a3, .int (I a4), .int (I a5), .int (I a6), a7, a8] [.int (I s0), .int (I s1), .int (I s2), .int (I s3), .ref s4] h P := by
  exact R_call0 (Dat dd_L_causes_c1 35 rfl) rfl rfl rfl rfl rfl rfl T
theorem t_L_causes_150 {h : Hp} {P : Value → Hp → Prop} {a2 a4 a5 a6 s0 s1 s2 : Int} {a0 a1 a3 s3 : Nat} {a7 a8 : Value} (T : (tg h s3 = 20) ∧ ((ln h s3 : Int) ≤ 2147483648) ∧ (0 ≤ s2) ∧ (s2 < ln h s3) ∧ (tg (setI h s3 s2 (wr (s1 + s0))) a3 = 20 ∨ tg (setI h s3 s2 (wr (s1 + s0))) a3 = 30) ∧ ((ln (setI h s3 s2 (wr (s1 + s0))) a3 : Int) ≤ 2147483648) ∧ (0 ≤ (1 + (3 * a6))) ∧ ((1 + (3 * a6)) < ln (setI h s3 s2 (wr (s1 + s0))) a3) ∧ (rng a6) ∧ (((0 : Int) < a6 → (tg (setI h s3 s2 (wr (s1 + s0))) a0 = 12) ∧ R 84 0 [.ref a0, .int (I 1), .int (I a5), .int (I 59), .retAddr 0] [] (setI h s3 s2 (wr (s1 + s0))) (fun v h2 => R 90 179 [.ref a0, .ref a1, .int (I a2), .ref a3, .int (I a4), .int (I (a5 + 1)), .int (I a6), a7, .int (I (iv (setI h s3 s2 (wr (s1 + s0))) a3 (1 + (3 * a6))))] (v :: []) h2 P)) ∧ (¬ (0 : Int) < a6 → R 90 183 [.ref a0, .ref a1, .int (I a2), .ref a3, .int (I a4), .int (I a5), .int (I a6), a7, .int (I (iv (setI h s3 s2 (wr (s1 + s0))) a3 (1 + (3 * a6))))] [] (setI h s3 s2 (wr (s1 + s0))) P))) : R 90 150 [.ref a0, .ref a1, .int (I a2), .ref a3, .int (I a4), .int (I a5), .int (I a6), a7, a8] [.int (I s0), .int (I s1), .int (I s2), .ref s3] h P := by
  refine R_iadd (Dat dd_L_causes_c1 36 rfl) ?_
  obtain ⟨g1, T⟩ := T
  obtain ⟨g2, T⟩ := T
  obtain ⟨g3, T⟩ := T
  obtain ⟨g4, T⟩ := T
  refine R_iastore (Dat dd_L_causes_c1 37 rfl) g1 g2 g3 g4 (v := wr (s1 + s0)) rfl ?_
  refine R_aload_n (Dat dd_L_causes_c1 38 rfl) rfl rfl ?_
  refine R_iconst (Dat dd_L_causes_c1 39 rfl) ?_
  refine R_iconst (Dat dd_L_causes_c1 40 rfl) ?_
  refine R_iload (Dat dd_L_causes_c1 41 rfl) rfl ?_
  refine R_imul (Dat dd_L_causes_c1 42 rfl) ?_
  refine R_iadd (Dat dd_L_causes_c1 43 rfl) ?_
  obtain ⟨g5, T⟩ := T
  obtain ⟨g6, T⟩ := T
  obtain ⟨g7, T⟩ := T
  obtain ⟨g8, T⟩ := T
  refine R_iaload (Dat dd_L_causes_c1 44 rfl) g5 g6 g7 g8 ?_
  refine R_istore (Dat dd_L_causes_c1 45 rfl) rfl rfl ?_
  refine R_iload (Dat dd_L_causes_c1 46 rfl) rfl ?_
  obtain ⟨g9, T⟩ := T
  refine R_if_le (Dat dd_L_causes_c1 47 rfl) rfl g9  (fun c => ?_) (fun c => ?_)
  · replace T := T.1 c
    refine R_aload_n (Dat dd_L_causes_c1 48 rfl) rfl rfl ?_
    refine R_iconst (Dat dd_L_causes_c1 49 rfl) ?_
    refine R_iload (Dat dd_L_causes_c1 50 rfl) rfl ?_
    refine R_iinc (Dat dd_L_causes_c1 51 rfl) rfl rfl rfl ?_
    refine R_bipush (Dat dd_L_causes_c1 52 rfl) (a := 59) rfl ?_
    obtain ⟨g10, T⟩ := T
    exact R_call1 (Dat dd_L_causes_c1 53 rfl) rfl g10 rfl rfl rfl rfl rfl T
  · replace T := T.2 c
    exact T
theorem t_L_causes_179 {h : Hp} {P : Value → Hp → Prop} {a2 a4 a5 a6 a8 s0 : Int} {a0 a1 a3 : Nat} {a7 : Value} (T : (rng s0) ∧ ((s0 = 1 → R 90 183 [.ref a0, .ref a1, .int (I a2), .ref a3, .int (I a4), .int (I a5), .int (I a6), a7, .int (I a8)] [] h P) ∧ (¬ s0 = 1 → R 90 303 [.ref a0, .ref a1, .int (I a2), .ref a3, .int (I a4), .int (I a5), .int (I a6), a7, .int (I a8)] [] h P))) : R 90 179 [.ref a0, .ref a1, .int (I a2), .ref a3, .int (I a4), .int (I a5), .int (I a6), a7, .int (I a8)] [.int (I s0)] h P := by
  refine R_iconst (Dat dd_L_causes_c1 54 rfl) ?_
  obtain ⟨g1, T⟩ := T
  refine R_ic_ne (Dat dd_L_causes_c1 55 rfl) rfl g1 (by decide) (fun c => ?_) (fun c => ?_)
  · replace T := T.1 c
    exact T
  · replace T := T.2 c
    exact T
theorem t_L_causes_183 {h : Hp} {P : Value → Hp → Prop} {a2 a4 a5 a6 a8 : Int} {a0 a1 a3 : Nat} {a7 : Value} (T : (rng a8) ∧ ((a8 = 0 → R 90 246 [.ref a0, .ref a1, .int (I a2), .ref a3, .int (I a4), .int (I (a5 + 1)), .int (I a6), a7, .int (I a8)] [.int (I 102), .int (I a5), .int (I 1), .ref a0] h P) ∧ (¬ a8 = 0 → (rng a8) ∧ ((a8 = 1 → R 90 246 [.ref a0, .ref a1, .int (I a2), .ref a3, .int (I a4), .int (I (a5 + 1)), .int (I a6), a7, .int (I a8)] [.int (I 104), .int (I a5), .int (I 1), .ref a0] h P) ∧ (¬ a8 = 1 → (rng a8) ∧ ((a8 = 2 → R 90 246 [.ref a0, .ref a1, .int (I a2), .ref a3, .int (I a4), .int (I (a5 + 1)), .int (I a6), a7, .int (I a8)] [.int (I 114), .int (I a5), .int (I 1), .ref a0] h P) ∧ (¬ a8 = 2 → (rng a8) ∧ ((a8 = 3 → R 90 246 [.ref a0, .ref a1, .int (I a2), .ref a3, .int (I a4), .int (I (a5 + 1)), .int (I a6), a7, .int (I a8)] [.int (I 116), .int (I a5), .int (I 1), .ref a0] h P) ∧ (¬ a8 = 3 → (rng a8) ∧ ((a8 = 4 → R 90 246 [.ref a0, .ref a1, .int (I a2), .ref a3, .int (I a4), .int (I (a5 + 1)), .int (I a6), a7, .int (I a8)] [.int (I 110), .int (I a5), .int (I 1), .ref a0] h P) ∧ (¬ a8 = 4 → R 90 246 [.ref a0, .ref a1, .int (I a2), .ref a3, .int (I a4), .int (I (a5 + 1)), .int (I a6), a7, .int (I a8)] [.int (I 97), .int (I a5), .int (I 1), .ref a0] h P))))))))))) : R 90 183 [.ref a0, .ref a1, .int (I a2), .ref a3, .int (I a4), .int (I a5), .int (I a6), a7, .int (I a8)] [] h P := by
  refine R_aload_n (Dat dd_L_causes_c1 56 rfl) rfl rfl ?_
  refine R_iconst (Dat dd_L_causes_c1 57 rfl) ?_
  refine R_iload (Dat dd_L_causes_c1 58 rfl) rfl ?_
  refine R_iinc (Dat dd_L_causes_c1 59 rfl) rfl rfl rfl ?_
  refine R_iload (Dat dd_L_causes_c2 0 rfl) rfl ?_
  obtain ⟨g1, T⟩ := T
  refine R_if_ne (Dat dd_L_causes_c2 1 rfl) rfl g1  (fun c => ?_) (fun c => ?_)
  · replace T := T.1 c
    refine R_bipush (Dat dd_L_causes_c2 2 rfl) (a := 102) rfl ?_
    refine R_goto (Dat dd_L_causes_c2 3 rfl) rfl ?_
    exact T
  · replace T := T.2 c
    refine R_iload (Dat dd_L_causes_c2 4 rfl) rfl ?_
    refine R_iconst (Dat dd_L_causes_c2 5 rfl) ?_
    obtain ⟨g2, T⟩ := T
    refine R_ic_ne (Dat dd_L_causes_c2 6 rfl) rfl g2 (by decide) (fun c => ?_) (fun c => ?_)
    · replace T := T.1 c
      refine R_bipush (Dat dd_L_causes_c2 7 rfl) (a := 104) rfl ?_
      refine R_goto (Dat dd_L_causes_c2 8 rfl) rfl ?_
      exact T
    · replace T := T.2 c
      refine R_iload (Dat dd_L_causes_c2 9 rfl) rfl ?_
      refine R_iconst (Dat dd_L_causes_c2 10 rfl) ?_
      obtain ⟨g3, T⟩ := T
      refine R_ic_ne (Dat dd_L_causes_c2 11 rfl) rfl g3 (by decide) (fun c => ?_) (fun c => ?_)
      · replace T := T.1 c
        refine R_bipush (Dat dd_L_causes_c2 12 rfl) (a := 114) rfl ?_
        refine R_goto (Dat dd_L_causes_c2 13 rfl) rfl ?_
        exact T
      · replace T := T.2 c
        refine R_iload (Dat dd_L_causes_c2 14 rfl) rfl ?_
        refine R_iconst (Dat dd_L_causes_c2 15 rfl) ?_
        obtain ⟨g4, T⟩ := T
        refine R_ic_ne (Dat dd_L_causes_c2 16 rfl) rfl g4 (by decide) (fun c => ?_) (fun c => ?_)
        · replace T := T.1 c
          refine R_bipush (Dat dd_L_causes_c2 17 rfl) (a := 116) rfl ?_
          refine R_goto (Dat dd_L_causes_c2 18 rfl) rfl ?_
          exact T
        · replace T := T.2 c
          refine R_iload (Dat dd_L_causes_c2 19 rfl) rfl ?_
          refine R_iconst (Dat dd_L_causes_c2 20 rfl) ?_
          obtain ⟨g5, T⟩ := T
          refine R_ic_ne (Dat dd_L_causes_c2 21 rfl) rfl g5 (by decide) (fun c => ?_) (fun c => ?_)
          · replace T := T.1 c
            refine R_bipush (Dat dd_L_causes_c2 22 rfl) (a := 110) rfl ?_
            refine R_goto (Dat dd_L_causes_c2 23 rfl) rfl ?_
            exact T
          · replace T := T.2 c
            refine R_bipush (Dat dd_L_causes_c2 24 rfl) (a := 97) rfl ?_
            exact T
theorem t_L_causes_303 {h : Hp} {P : Value → Hp → Prop} {a0 a1 a2 a3 a4 a5 a6 a7 a8 : Value} (T : P (.int (I (-99))) h) : R 90 303 [a0, a1, a2, a3, a4, a5, a6, a7, a8] [] h P := by
  refine R_bipush (Dat dd_L_causes_c3 0 rfl) (a := (-99)) rfl ?_
  exact R_ireturn (Dat dd_L_causes_c3 1 rfl) rfl T
theorem t_L_causes_246 {h : Hp} {P : Value → Hp → Prop} {a2 a4 a5 a6 s0 s1 s2 : Int} {a0 a1 a3 s3 : Nat} {a7 a8 : Value} (T : (tg h s3 = 12) ∧ R 84 0 [.ref s3, .int (I s2), .int (I s1), .int (I s0), .retAddr 0] [] h (fun v h2 => R 90 249 [.ref a0, .ref a1, .int (I a2), .ref a3, .int (I a4), .int (I a5), .int (I a6), a7, a8] (v :: []) h2 P)) : R 90 246 [.ref a0, .ref a1, .int (I a2), .ref a3, .int (I a4), .int (I a5), .int (I a6), a7, a8] [.int (I s0), .int (I s1), .int (I s2), .ref s3] h P := by
  obtain ⟨g1, T⟩ := T
  exact R_call1 (Dat dd_L_causes_c2 25 rfl) rfl g1 rfl rfl rfl rfl rfl T
theorem t_L_causes_249 {h : Hp} {P : Value → Hp → Prop} {a2 a4 a5 a6 s0 : Int} {a0 a1 a3 : Nat} {a7 a8 : Value} (T : (rng s0) ∧ ((s0 = 1 → (tg h a3 = 20 ∨ tg h a3 = 30) ∧ ((ln h a3 : Int) ≤ 2147483648) ∧ (0 ≤ (2 + (3 * a6))) ∧ ((2 + (3 * a6)) < ln h a3) ∧ (tg h a0 = 12) ∧ R 84 0 [.ref a0, .int (I 1), .int (I a5), .int (I (48 + (iv h a3 (2 + (3 * a6))))), .retAddr 0] [] h (fun v h2 => R 90 274 [.ref a0, .ref a1, .int (I a2), .ref a3, .int (I a4), .int (I (a5 + 1)), .int (I a6), a7, a8] (v :: []) h2 P)) ∧ (¬ s0 = 1 → R 90 303 [.ref a0, .ref a1, .int (I a2), .ref a3, .int (I a4), .int (I a5), .int (I a6), a7, a8] [] h P))) : R 90 249 [.ref a0, .ref a1, .int (I a2), .ref a3, .int (I a4), .int (I a5), .int (I a6), a7, a8] [.int (I s0)] h P := by
  refine R_iconst (Dat dd_L_causes_c2 26 rfl) ?_
  obtain ⟨g1, T⟩ := T
  refine R_ic_ne (Dat dd_L_causes_c2 27 rfl) rfl g1 (by decide) (fun c => ?_) (fun c => ?_)
  · replace T := T.1 c
    refine R_aload_n (Dat dd_L_causes_c2 28 rfl) rfl rfl ?_
    refine R_iconst (Dat dd_L_causes_c2 29 rfl) ?_
    refine R_iload (Dat dd_L_causes_c2 30 rfl) rfl ?_
    refine R_iinc (Dat dd_L_causes_c2 31 rfl) rfl rfl rfl ?_
    refine R_bipush (Dat dd_L_causes_c2 32 rfl) (a := 48) rfl ?_
    refine R_aload_n (Dat dd_L_causes_c2 33 rfl) rfl rfl ?_
    refine R_iconst (Dat dd_L_causes_c2 34 rfl) ?_
    refine R_iconst (Dat dd_L_causes_c2 35 rfl) ?_
    refine R_iload (Dat dd_L_causes_c2 36 rfl) rfl ?_
    refine R_imul (Dat dd_L_causes_c2 37 rfl) ?_
    refine R_iadd (Dat dd_L_causes_c2 38 rfl) ?_
    obtain ⟨g2, T⟩ := T
    obtain ⟨g3, T⟩ := T
    obtain ⟨g4, T⟩ := T
    obtain ⟨g5, T⟩ := T
    refine R_iaload (Dat dd_L_causes_c2 39 rfl) g2 g3 g4 g5 ?_
    refine R_iadd (Dat dd_L_causes_c2 40 rfl) ?_
    obtain ⟨g6, T⟩ := T
    exact R_call1 (Dat dd_L_causes_c2 41 rfl) rfl g6 rfl rfl rfl rfl rfl T
  · replace T := T.2 c
    exact T
theorem t_L_causes_274 {h : Hp} {P : Value → Hp → Prop} {a2 a4 a5 a6 s0 : Int} {a0 a1 a3 : Nat} {a7 a8 : Value} (T : (rng s0) ∧ ((s0 = 1 → (tg h a3 = 20 ∨ tg h a3 = 30) ∧ ((ln h a3 : Int) ≤ 2147483648) ∧ (0 ≤ (3 + (3 * a6))) ∧ ((3 + (3 * a6)) < ln h a3) ∧ (tg h a0 = 12) ∧ R 84 0 [.ref a0, .int (I 1), .int (I a5), .int (I (48 + (iv h a3 (3 + (3 * a6))))), .retAddr 0] [] h (fun v h2 => R 90 299 [.ref a0, .ref a1, .int (I a2), .ref a3, .int (I a4), .int (I (a5 + 1)), .int (I a6), a7, a8] (v :: []) h2 P)) ∧ (¬ s0 = 1 → R 90 303 [.ref a0, .ref a1, .int (I a2), .ref a3, .int (I a4), .int (I a5), .int (I a6), a7, a8] [] h P))) : R 90 274 [.ref a0, .ref a1, .int (I a2), .ref a3, .int (I a4), .int (I a5), .int (I a6), a7, a8] [.int (I s0)] h P := by
  refine R_iconst (Dat dd_L_causes_c2 42 rfl) ?_
  obtain ⟨g1, T⟩ := T
  refine R_ic_ne (Dat dd_L_causes_c2 43 rfl) rfl g1 (by decide) (fun c => ?_) (fun c => ?_)
  · replace T := T.1 c
    refine R_aload_n (Dat dd_L_causes_c2 44 rfl) rfl rfl ?_
    refine R_iconst (Dat dd_L_causes_c2 45 rfl) ?_
    refine R_iload (Dat dd_L_causes_c2 46 rfl) rfl ?_
    refine R_iinc (Dat dd_L_causes_c2 47 rfl) rfl rfl rfl ?_
    refine R_bipush (Dat dd_L_causes_c2 48 rfl) (a := 48) rfl ?_
    refine R_aload_n (Dat dd_L_causes_c2 49 rfl) rfl rfl ?_
    refine R_iconst (Dat dd_L_causes_c2 50 rfl) ?_
    refine R_iconst (Dat dd_L_causes_c2 51 rfl) ?_
    refine R_iload (Dat dd_L_causes_c2 52 rfl) rfl ?_
    refine R_imul (Dat dd_L_causes_c2 53 rfl) ?_
    refine R_iadd (Dat dd_L_causes_c2 54 rfl) ?_
    obtain ⟨g2, T⟩ := T
    obtain ⟨g3, T⟩ := T
    obtain ⟨g4, T⟩ := T
    obtain ⟨g5, T⟩ := T
    refine R_iaload (Dat dd_L_causes_c2 55 rfl) g2 g3 g4 g5 ?_
    refine R_iadd (Dat dd_L_causes_c2 56 rfl) ?_
    obtain ⟨g6, T⟩ := T
    exact R_call1 (Dat dd_L_causes_c2 57 rfl) rfl g6 rfl rfl rfl rfl rfl T
  · replace T := T.2 c
    exact T
theorem t_L_causes_299 {h : Hp} {P : Value → Hp → Prop} {a2 a4 a5 a6 s0 : Int} {a0 a1 a3 : Nat} {a7 a8 : Value} (T : (rng s0) ∧ ((s0 = 1 → R 90 40 [.ref a0, .ref a1, .int (I a2), .ref a3, .int (I a4), .int (I a5), .int (I (a6 + 1)), a7, a8] [] h P) ∧ (¬ s0 = 1 → R 90 303 [.ref a0, .ref a1, .int (I a2), .ref a3, .int (I a4), .int (I a5), .int (I a6), a7, a8] [] h P))) : R 90 299 [.ref a0, .ref a1, .int (I a2), .ref a3, .int (I a4), .int (I a5), .int (I a6), a7, a8] [.int (I s0)] h P := by
  refine R_iconst (Dat dd_L_causes_c2 58 rfl) ?_
  obtain ⟨g1, T⟩ := T
  refine R_ic_eq (Dat dd_L_causes_c2 59 rfl) rfl g1 (by decide) (fun c => ?_) (fun c => ?_)
  · replace T := T.1 c
    refine R_iinc (Dat dd_L_causes_c3 2 rfl) rfl rfl rfl ?_
    refine R_goto (Dat dd_L_causes_c3 3 rfl) rfl ?_
    exact T
  · replace T := T.2 c
    exact T
def dl_L_ruling : List (Nat × Instr × Nat) := [(0, .iconst 0, 1), (1, .istore 7, 2), (3, .iload 7, 2), (5, .aload_n 1, 1), (6, .iconst 0, 1), (7, .iaload, 1), (8, .if_icmp .ge 266, 3), (11, .iload 7, 2), (13, .iload_n 2, 1), (14, .if_icmp .eq 254, 3), (17, .aload_n 1, 1), (18, .iconst 3, 1), (19, .iconst 3, 1), (20, .iload 7, 2), (22, .imul, 1), (23, .iadd, 1), (24, .iaload, 1), (25, .iload 6, 2), (27, .if_icmp .le 6, 3), (30, .goto 238, 3), (33, .aload_n 1, 1), (34, .iconst 2, 1), (35, .iconst 3, 1), (36, .iload 7, 2), (38, .imul, 1), (39, .iadd, 1), (40, .iaload, 1), (41, .istore 8, 2), (43, .aload_n 0, 1), (44, .iload_n 3, 1), (45, .invokestatic 28, 3), (48, .aload_n 0, 1), (49, .iload 4, 2), (51, .invokestatic 28, 3), (54, .isub, 1), (55, .istore 9, 2), (57, .aload_n 0, 1), (58, .iload 4, 2), (60, .invokestatic 31, 3), (63, .aload_n 0, 1), (64, .iload_n 3, 1), (65, .invokestatic 31, 3), (68, .isub, 1), (69, .istore 10, 2), (71, .iconst 0, 1), (72, .istore 11, 2), (74, .aload_n 1, 1), (75, .iconst 1, 1), (76, .iconst 3, 1), (77, .iload 7, 2), (79, .imul, 1), (80, .iadd, 1), (81, .iaload, 1), (82, .tableswitch 156 0 4 #[34, 51, 73, 103, 139], 34), (116, .iload 9, 2), (118, .iload 8, 2), (120, .if_icmp .lt 7, 3), (123, .iconst 1, 1), (124, .goto 4, 3), (127, .iconst 0, 1), (128, .istore 11, 2), (130, .goto 130, 3), (133, .iload 10, 2), (135, .iload 8, 2), (137, .if_icmp .lt 12, 3), (140, .iload 10, 2), (142, .ifCond .le 7, 3), (145, .iconst 1, 1), (146, .goto 4, 3), (149, .iconst 0, 1), (150, .istore 11, 2), (152, .goto 108, 3), (155, .aload_n 0, 1), (156, .iload_n 3, 1), (157, .invokestatic 28, 3), (160, .iload 8, 2), (162, .if_icmp .lt 17, 3), (165, .iload 10, 2), (167, .ifCond .gt 12, 3), (170, .iload 9, 2), (172, .ifCond .le 7, 3), (175, .iconst 1, 1), (176, .goto 4, 3), (179, .iconst 0, 1), (180, .istore 11, 2), (182, .goto 78, 3), (185, .aload_n 0, 1), (186, .bipush 16, 2), (188, .iload_n 3, 1), (189, .iadd, 1), (190, .iaload, 1), (191, .ifCond .le 24, 3), (194, .aload_n 0, 1), (195, .bipush 16, 2), (197, .iload 4, 2), (199, .iadd, 1), (200, .iaload, 1), (201, .ifCond .ne 14, 3), (204, .iload 5, 2), (206, .iload 8, 2), (208, .if_icmp .ge 7, 3), (211, .iconst 1, 1), (212, .goto 4, 3), (215, .iconst 0, 1), (216, .istore 11, 2), (218, .goto 42, 3), (221, .iload 5, 2), (223, .iload 8, 2), (225, .if_icmp .lt 7, 3), (228, .iconst 1, 1), (229, .goto 4, 3), (232, .iconst 0, 1), (233, .istore 11, 2), (235, .goto 25, 3), (238, .iload 10, 2), (240, .iload 8, 2), (242, .if_icmp .ge 15, 3), (245, .iload 10, 2), (247, .ineg, 1), (248, .iload 8, 2), (250, .if_icmp .ge 7, 3), (253, .iconst 1, 1), (254, .goto 4, 3), (257, .iconst 0, 1), (258, .istore 11, 2), (260, .iload 11, 2), (262, .ifCond .eq 6, 3), (265, .iload 7, 2), (267, .ireturn, 1), (268, .iinc 7 1, 3), (271, .goto (-268), 3), (274, .bipush (-9), 2), (276, .ireturn, 1)]
theorem dd_L_ruling : Dall 91 dl_L_ruling = true := by decide +kernel
theorem t_L_ruling {h : Hp} {P : Value → Hp → Prop} {p2 p3 p4 p5 p6 : Int} {p0 p1 : Nat} (T : R 91 3 [.ref p0, .ref p1, .int (I p2), .int (I p3), .int (I p4), .int (I p5), .int (I p6), .int (I 0), .retAddr 0, .retAddr 0, .retAddr 0, .retAddr 0] [] h P) : R 91 0 [.ref p0, .ref p1, .int (I p2), .int (I p3), .int (I p4), .int (I p5), .int (I p6), .retAddr 0, .retAddr 0, .retAddr 0, .retAddr 0, .retAddr 0] [] h P := by
  refine R_iconst (Dat dd_L_ruling 0 rfl) ?_
  refine R_istore (Dat dd_L_ruling 1 rfl) rfl rfl ?_
  exact T
theorem t_L_ruling_3 {h : Hp} {P : Value → Hp → Prop} {a2 a3 a4 a5 a6 a7 : Int} {a0 a1 : Nat} {a8 a9 a10 a11 : Value} (T : (tg h a1 = 20 ∨ tg h a1 = 30) ∧ ((ln h a1 : Int) ≤ 2147483648) ∧ ((0 : Int) < ln h a1) ∧ (rng a7) ∧ (rng (iv h a1 0)) ∧ ((a7 < (iv h a1 0) → (rng a7) ∧ (rng a2) ∧ ((a7 = a2 → R 91 268 [.ref a0, .ref a1, .int (I a2), .int (I a3), .int (I a4), .int (I a5), .int (I a6), .int (I a7), a8, a9, a10, a11] [] h P) ∧ (¬ a7 = a2 → (tg h a1 = 20 ∨ tg h a1 = 30) ∧ ((ln h a1 : Int) ≤ 2147483648) ∧ (0 ≤ (3 + (3 * a7))) ∧ ((3 + (3 * a7)) < ln h a1) ∧ (rng (iv h a1 (3 + (3 * a7)))) ∧ (rng a6) ∧ ((a6 < (iv h a1 (3 + (3 * a7))) → R 91 268 [.ref a0, .ref a1, .int (I a2), .int (I a3), .int (I a4), .int (I a5), .int (I a6), .int (I a7), a8, a9, a10, a11] [] h P) ∧ (¬ a6 < (iv h a1 (3 + (3 * a7))) → (tg h a1 = 20 ∨ tg h a1 = 30) ∧ ((ln h a1 : Int) ≤ 2147483648) ∧ (0 ≤ (2 + (3 * a7))) ∧ ((2 + (3 * a7)) < ln h a1) ∧ R 92 0 [.ref a0, .int (I a3)] [] h (fun v h2 => R 91 48 [.ref a0, .ref a1, .int (I a2), .int (I a3), .int (I a4), .int (I a5), .int (I a6), .int (I a7), .int (I (iv h a1 (2 + (3 * a7)))), a9, a10, a11] (v :: []) h2 P)))))) ∧ (¬ a7 < (iv h a1 0) → P (.int (I (-9))) h))) : R 91 3 [.ref a0, .ref a1, .int (I a2), .int (I a3), .int (I a4), .int (I a5), .int (I a6), .int (I a7), a8, a9, a10, a11] [] h P := by
  refine R_iload (Dat dd_L_ruling 2 rfl) rfl ?_
  refine R_aload_n (Dat dd_L_ruling 3 rfl) rfl rfl ?_
  refine R_iconst (Dat dd_L_ruling 4 rfl) ?_
  obtain ⟨g1, T⟩ := T
  obtain ⟨g2, T⟩ := T
  obtain ⟨g3, T⟩ := T
  refine R_iaload (Dat dd_L_ruling 5 rfl) g1 g2 (by decide) g3 ?_
  obtain ⟨g4, T⟩ := T
  obtain ⟨g5, T⟩ := T
  refine R_ic_ge (Dat dd_L_ruling 6 rfl) rfl g4 g5 (fun c => ?_) (fun c => ?_)
  · replace T := T.1 c
    refine R_iload (Dat dd_L_ruling 7 rfl) rfl ?_
    refine R_iload_n (Dat dd_L_ruling 8 rfl) rfl ?_
    obtain ⟨g6, T⟩ := T
    obtain ⟨g7, T⟩ := T
    refine R_ic_eq (Dat dd_L_ruling 9 rfl) rfl g6 g7 (fun c => ?_) (fun c => ?_)
    · replace T := T.1 c
      exact T
    · replace T := T.2 c
      refine R_aload_n (Dat dd_L_ruling 10 rfl) rfl rfl ?_
      refine R_iconst (Dat dd_L_ruling 11 rfl) ?_
      refine R_iconst (Dat dd_L_ruling 12 rfl) ?_
      refine R_iload (Dat dd_L_ruling 13 rfl) rfl ?_
      refine R_imul (Dat dd_L_ruling 14 rfl) ?_
      refine R_iadd (Dat dd_L_ruling 15 rfl) ?_
      obtain ⟨g8, T⟩ := T
      obtain ⟨g9, T⟩ := T
      obtain ⟨g10, T⟩ := T
      obtain ⟨g11, T⟩ := T
      refine R_iaload (Dat dd_L_ruling 16 rfl) g8 g9 g10 g11 ?_
      refine R_iload (Dat dd_L_ruling 17 rfl) rfl ?_
      obtain ⟨g12, T⟩ := T
      obtain ⟨g13, T⟩ := T
      refine R_ic_le (Dat dd_L_ruling 18 rfl) rfl g12 g13 (fun c => ?_) (fun c => ?_)
      · replace T := T.1 c
        refine R_goto (Dat dd_L_ruling 19 rfl) rfl ?_
        exact T
      · replace T := T.2 c
        refine R_aload_n (Dat dd_L_ruling 20 rfl) rfl rfl ?_
        refine R_iconst (Dat dd_L_ruling 21 rfl) ?_
        refine R_iconst (Dat dd_L_ruling 22 rfl) ?_
        refine R_iload (Dat dd_L_ruling 23 rfl) rfl ?_
        refine R_imul (Dat dd_L_ruling 24 rfl) ?_
        refine R_iadd (Dat dd_L_ruling 25 rfl) ?_
        obtain ⟨g14, T⟩ := T
        obtain ⟨g15, T⟩ := T
        obtain ⟨g16, T⟩ := T
        obtain ⟨g17, T⟩ := T
        refine R_iaload (Dat dd_L_ruling 26 rfl) g14 g15 g16 g17 ?_
        refine R_istore (Dat dd_L_ruling 27 rfl) rfl rfl ?_
        refine R_aload_n (Dat dd_L_ruling 28 rfl) rfl rfl ?_
        refine R_iload_n (Dat dd_L_ruling 29 rfl) rfl ?_
        exact R_call0 (Dat dd_L_ruling 30 rfl) rfl rfl rfl rfl rfl rfl T
  · replace T := T.2 c
    refine R_bipush (Dat dd_L_ruling 131 rfl) (a := (-9)) rfl ?_
    exact R_ireturn (Dat dd_L_ruling 132 rfl) rfl T
theorem t_L_ruling_268 {h : Hp} {P : Value → Hp → Prop} {a2 a3 a4 a5 a6 a7 : Int} {a0 a1 : Nat} {a8 a9 a10 a11 : Value} (T : R 91 3 [.ref a0, .ref a1, .int (I a2), .int (I a3), .int (I a4), .int (I a5), .int (I a6), .int (I (a7 + 1)), a8, a9, a10, a11] [] h P) : R 91 268 [.ref a0, .ref a1, .int (I a2), .int (I a3), .int (I a4), .int (I a5), .int (I a6), .int (I a7), a8, a9, a10, a11] [] h P := by
  refine R_iinc (Dat dd_L_ruling 129 rfl) rfl rfl rfl ?_
  refine R_goto (Dat dd_L_ruling 130 rfl) rfl ?_
  exact T
theorem t_L_ruling_48 {h : Hp} {P : Value → Hp → Prop} {a2 a3 a4 a5 a6 a7 a8 s0 : Int} {a0 a1 : Nat} {a9 a10 a11 : Value} (T : R 92 0 [.ref a0, .int (I a4)] [] h (fun v h2 => R 91 54 [.ref a0, .ref a1, .int (I a2), .int (I a3), .int (I a4), .int (I a5), .int (I a6), .int (I a7), .int (I a8), a9, a10, a11] (v :: [.int (I s0)]) h2 P)) : R 91 48 [.ref a0, .ref a1, .int (I a2), .int (I a3), .int (I a4), .int (I a5), .int (I a6), .int (I a7), .int (I a8), a9, a10, a11] [.int (I s0)] h P := by
  refine R_aload_n (Dat dd_L_ruling 31 rfl) rfl rfl ?_
  refine R_iload (Dat dd_L_ruling 32 rfl) rfl ?_
  exact R_call0 (Dat dd_L_ruling 33 rfl) rfl rfl rfl rfl rfl rfl T
theorem t_L_ruling_54 {h : Hp} {P : Value → Hp → Prop} {a2 a3 a4 a5 a6 a7 a8 s0 s1 : Int} {a0 a1 : Nat} {a9 a10 a11 : Value} (T : R 93 0 [.ref a0, .int (I a4)] [] h (fun v h2 => R 91 63 [.ref a0, .ref a1, .int (I a2), .int (I a3), .int (I a4), .int (I a5), .int (I a6), .int (I a7), .int (I a8), .int (I (s1 - s0)), a10, a11] (v :: []) h2 P)) : R 91 54 [.ref a0, .ref a1, .int (I a2), .int (I a3), .int (I a4), .int (I a5), .int (I a6), .int (I a7), .int (I a8), a9, a10, a11] [.int (I s0), .int (I s1)] h P := by
  refine R_isub (Dat dd_L_ruling 34 rfl) ?_
  refine R_istore (Dat dd_L_ruling 35 rfl) rfl rfl ?_
  refine R_aload_n (Dat dd_L_ruling 36 rfl) rfl rfl ?_
  refine R_iload (Dat dd_L_ruling 37 rfl) rfl ?_
  exact R_call0 (Dat dd_L_ruling 38 rfl) rfl rfl rfl rfl rfl rfl T
theorem t_L_ruling_63 {h : Hp} {P : Value → Hp → Prop} {a2 a3 a4 a5 a6 a7 a8 a9 s0 : Int} {a0 a1 : Nat} {a10 a11 : Value} (T : R 93 0 [.ref a0, .int (I a3)] [] h (fun v h2 => R 91 68 [.ref a0, .ref a1, .int (I a2), .int (I a3), .int (I a4), .int (I a5), .int (I a6), .int (I a7), .int (I a8), .int (I a9), a10, a11] (v :: [.int (I s0)]) h2 P)) : R 91 63 [.ref a0, .ref a1, .int (I a2), .int (I a3), .int (I a4), .int (I a5), .int (I a6), .int (I a7), .int (I a8), .int (I a9), a10, a11] [.int (I s0)] h P := by
  refine R_aload_n (Dat dd_L_ruling 39 rfl) rfl rfl ?_
  refine R_iload_n (Dat dd_L_ruling 40 rfl) rfl ?_
  exact R_call0 (Dat dd_L_ruling 41 rfl) rfl rfl rfl rfl rfl rfl T
theorem t_L_ruling_68 {h : Hp} {P : Value → Hp → Prop} {a2 a3 a4 a5 a6 a7 a8 a9 s0 s1 : Int} {a0 a1 : Nat} {a10 a11 : Value} (T : (tg h a1 = 20 ∨ tg h a1 = 30) ∧ ((ln h a1 : Int) ≤ 2147483648) ∧ (0 ≤ (1 + (3 * a7))) ∧ ((1 + (3 * a7)) < ln h a1) ∧ (rng (iv h a1 (1 + (3 * a7)))) ∧ ((((iv h a1 (1 + (3 * a7))) = 0 → (rng a9) ∧ (rng a8) ∧ ((a9 < a8 → R 91 128 [.ref a0, .ref a1, .int (I a2), .int (I a3), .int (I a4), .int (I a5), .int (I a6), .int (I a7), .int (I a8), .int (I a9), .int (I (s1 - s0)), .int (I 0)] [.int (I 0)] h P) ∧ (¬ a9 < a8 → R 91 128 [.ref a0, .ref a1, .int (I a2), .int (I a3), .int (I a4), .int (I a5), .int (I a6), .int (I a7), .int (I a8), .int (I a9), .int (I (s1 - s0)), .int (I 0)] [.int (I 1)] h P))) ∧ ((iv h a1 (1 + (3 * a7))) = 1 → (rng (s1 - s0)) ∧ (rng a8) ∧ (((s1 - s0) < a8 → R 91 149 [.ref a0, .ref a1, .int (I a2), .int (I a3), .int (I a4), .int (I a5), .int (I a6), .int (I a7), .int (I a8), .int (I a9), .int (I (s1 - s0)), .int (I 0)] [] h P) ∧ (¬ (s1 - s0) < a8 → (rng (s1 - s0)) ∧ (((0 : Int) < (s1 - s0) → R 91 150 [.ref a0, .ref a1, .int (I a2), .int (I a3), .int (I a4), .int (I a5), .int (I a6), .int (I a7), .int (I a8), .int (I a9), .int (I (s1 - s0)), .int (I 0)] [.int (I 1)] h P) ∧ (¬ (0 : Int) < (s1 - s0) → R 91 149 [.ref a0, .ref a1, .int (I a2), .int (I a3), .int (I a4), .int (I a5), .int (I a6), .int (I a7), .int (I a8), .int (I a9), .int (I (s1 - s0)), .int (I 0)] [] h P))))) ∧ ((iv h a1 (1 + (3 * a7))) = 2 → R 92 0 [.ref a0, .int (I a3)] [] h (fun v h2 => R 91 160 [.ref a0, .ref a1, .int (I a2), .int (I a3), .int (I a4), .int (I a5), .int (I a6), .int (I a7), .int (I a8), .int (I a9), .int (I (s1 - s0)), .int (I 0)] (v :: []) h2 P)) ∧ ((iv h a1 (1 + (3 * a7))) = 3 → (tg h a0 = 20 ∨ tg h a0 = 30) ∧ ((ln h a0 : Int) ≤ 2147483648) ∧ (0 ≤ (16 + a3)) ∧ ((16 + a3) < ln h a0) ∧ (rng (iv h a0 (16 + a3))) ∧ (((0 : Int) < (iv h a0 (16 + a3)) → (tg h a0 = 20 ∨ tg h a0 = 30) ∧ ((ln h a0 : Int) ≤ 2147483648) ∧ (0 ≤ (16 + a4)) ∧ ((16 + a4) < ln h a0) ∧ (rng (iv h a0 (16 + a4))) ∧ (((iv h a0 (16 + a4)) = 0 → (rng a5) ∧ (rng a8) ∧ ((a5 < a8 → R 91 216 [.ref a0, .ref a1, .int (I a2), .int (I a3), .int (I a4), .int (I a5), .int (I a6), .int (I a7), .int (I a8), .int (I a9), .int (I (s1 - s0)), .int (I 0)] [.int (I 1)] h P) ∧ (¬ a5 < a8 → R 91 215 [.ref a0, .ref a1, .int (I a2), .int (I a3), .int (I a4), .int (I a5), .int (I a6), .int (I a7), .int (I a8), .int (I a9), .int (I (s1 - s0)), .int (I 0)] [] h P))) ∧ (¬ (iv h a0 (16 + a4)) = 0 → R 91 215 [.ref a0, .ref a1, .int (I a2), .int (I a3), .int (I a4), .int (I a5), .int (I a6), .int (I a7), .int (I a8), .int (I a9), .int (I (s1 - s0)), .int (I 0)] [] h P))) ∧ (¬ (0 : Int) < (iv h a0 (16 + a3)) → R 91 215 [.ref a0, .ref a1, .int (I a2), .int (I a3), .int (I a4), .int (I a5), .int (I a6), .int (I a7), .int (I a8), .int (I a9), .int (I (s1 - s0)), .int (I 0)] [] h P))) ∧ ((iv h a1 (1 + (3 * a7))) = 4 → (rng a5) ∧ (rng a8) ∧ ((a5 < a8 → R 91 233 [.ref a0, .ref a1, .int (I a2), .int (I a3), .int (I a4), .int (I a5), .int (I a6), .int (I a7), .int (I a8), .int (I a9), .int (I (s1 - s0)), .int (I 0)] [.int (I 0)] h P) ∧ (¬ a5 < a8 → R 91 233 [.ref a0, .ref a1, .int (I a2), .int (I a3), .int (I a4), .int (I a5), .int (I a6), .int (I a7), .int (I a8), .int (I a9), .int (I (s1 - s0)), .int (I 0)] [.int (I 1)] h P)))) ∧ ((iv h a1 (1 + (3 * a7))) < 0 ∨ 4 < (iv h a1 (1 + (3 * a7))) → (rng (s1 - s0)) ∧ (rng a8) ∧ (((s1 - s0) < a8 → (rng (-(s1 - s0))) ∧ (rng a8) ∧ (((-(s1 - s0)) < a8 → R 91 258 [.ref a0, .ref a1, .int (I a2), .int (I a3), .int (I a4), .int (I a5), .int (I a6), .int (I a7), .int (I a8), .int (I a9), .int (I (s1 - s0)), .int (I 0)] [.int (I 1)] h P) ∧ (¬ (-(s1 - s0)) < a8 → R 91 257 [.ref a0, .ref a1, .int (I a2), .int (I a3), .int (I a4), .int (I a5), .int (I a6), .int (I a7), .int (I a8), .int (I a9), .int (I (s1 - s0)), .int (I 0)] [] h P))) ∧ (¬ (s1 - s0) < a8 → R 91 257 [.ref a0, .ref a1, .int (I a2), .int (I a3), .int (I a4), .int (I a5), .int (I a6), .int (I a7), .int (I a8), .int (I a9), .int (I (s1 - s0)), .int (I 0)] [] h P))))) : R 91 68 [.ref a0, .ref a1, .int (I a2), .int (I a3), .int (I a4), .int (I a5), .int (I a6), .int (I a7), .int (I a8), .int (I a9), a10, a11] [.int (I s0), .int (I s1)] h P := by
  refine R_isub (Dat dd_L_ruling 42 rfl) ?_
  refine R_istore (Dat dd_L_ruling 43 rfl) rfl rfl ?_
  refine R_iconst (Dat dd_L_ruling 44 rfl) ?_
  refine R_istore (Dat dd_L_ruling 45 rfl) rfl rfl ?_
  refine R_aload_n (Dat dd_L_ruling 46 rfl) rfl rfl ?_
  refine R_iconst (Dat dd_L_ruling 47 rfl) ?_
  refine R_iconst (Dat dd_L_ruling 48 rfl) ?_
  refine R_iload (Dat dd_L_ruling 49 rfl) rfl ?_
  refine R_imul (Dat dd_L_ruling 50 rfl) ?_
  refine R_iadd (Dat dd_L_ruling 51 rfl) ?_
  obtain ⟨g1, T⟩ := T
  obtain ⟨g2, T⟩ := T
  obtain ⟨g3, T⟩ := T
  obtain ⟨g4, T⟩ := T
  refine R_iaload (Dat dd_L_ruling 52 rfl) g1 g2 g3 g4 ?_
  obtain ⟨g5, T⟩ := T
  refine R_tsw (lo := 0) (hi := 4) (Dat dd_L_ruling 53 rfl) (td := 238) (ts := [116, 133, 155, 185, 221]) g5 rfl rfl rfl rfl (fun i hi hc => ?_) (fun c => ?_)
  · obtain ⟨T, -⟩ := T
    have hi : i < 5 := hi
    rcases (show i = 0 ∨ i = 1 ∨ i = 2 ∨ i = 3 ∨ i = 4 by omega) with rfl | rfl | rfl | rfl | rfl
    · replace T := T.1 (by exact hc)
      refine R_iload (Dat dd_L_ruling 54 rfl) rfl ?_
      refine R_iload (Dat dd_L_ruling 55 rfl) rfl ?_
      obtain ⟨g6, T⟩ := T
      obtain ⟨g7, T⟩ := T
      refine R_ic_lt (Dat dd_L_ruling 56 rfl) rfl g6 g7 (fun c => ?_) (fun c => ?_)
      · replace T := T.1 c
        refine R_iconst (Dat dd_L_ruling 59 rfl) ?_
        exact T
      · replace T := T.2 c
        refine R_iconst (Dat dd_L_ruling 57 rfl) ?_
        refine R_goto (Dat dd_L_ruling 58 rfl) rfl ?_
        exact T
    · replace T := T.2.1 (by exact hc)
      refine R_iload (Dat dd_L_ruling 62 rfl) rfl ?_
      refine R_iload (Dat dd_L_ruling 63 rfl) rfl ?_
      obtain ⟨g8, T⟩ := T
      obtain ⟨g9, T⟩ := T
      refine R_ic_lt (Dat dd_L_ruling 64 rfl) rfl g8 g9 (fun c => ?_) (fun c => ?_)
      · replace T := T.1 c
        exact T
      · replace T := T.2 c
        refine R_iload (Dat dd_L_ruling 65 rfl) rfl ?_
        obtain ⟨g10, T⟩ := T
        refine R_if_le (Dat dd_L_ruling 66 rfl) rfl g10  (fun c => ?_) (fun c => ?_)
        · replace T := T.1 c
          refine R_iconst (Dat dd_L_ruling 67 rfl) ?_
          refine R_goto (Dat dd_L_ruling 68 rfl) rfl ?_
          exact T
        · replace T := T.2 c
          exact T
    · replace T := T.2.2.1 (by exact hc)
      refine R_aload_n (Dat dd_L_ruling 72 rfl) rfl rfl ?_
      refine R_iload_n (Dat dd_L_ruling 73 rfl) rfl ?_
      exact R_call0 (Dat dd_L_ruling 74 rfl) rfl rfl rfl rfl rfl rfl T
    · replace T := T.2.2.2.1 (by exact hc)
      refine R_aload_n (Dat dd_L_ruling 86 rfl) rfl rfl ?_
      refine R_bipush (Dat dd_L_ruling 87 rfl) (a := 16) rfl ?_
      refine R_iload_n (Dat dd_L_ruling 88 rfl) rfl ?_
      refine R_iadd (Dat dd_L_ruling 89 rfl) ?_
      obtain ⟨g11, T⟩ := T
      obtain ⟨g12, T⟩ := T
      obtain ⟨g13, T⟩ := T
      obtain ⟨g14, T⟩ := T
      refine R_iaload (Dat dd_L_ruling 90 rfl) g11 g12 g13 g14 ?_
      obtain ⟨g15, T⟩ := T
      refine R_if_le (Dat dd_L_ruling 91 rfl) rfl g15  (fun c => ?_) (fun c => ?_)
      · replace T := T.1 c
        refine R_aload_n (Dat dd_L_ruling 92 rfl) rfl rfl ?_
        refine R_bipush (Dat dd_L_ruling 93 rfl) (a := 16) rfl ?_
        refine R_iload (Dat dd_L_ruling 94 rfl) rfl ?_
        refine R_iadd (Dat dd_L_ruling 95 rfl) ?_
        obtain ⟨g16, T⟩ := T
        obtain ⟨g17, T⟩ := T
        obtain ⟨g18, T⟩ := T
        obtain ⟨g19, T⟩ := T
        refine R_iaload (Dat dd_L_ruling 96 rfl) g16 g17 g18 g19 ?_
        obtain ⟨g20, T⟩ := T
        refine R_if_ne (Dat dd_L_ruling 97 rfl) rfl g20  (fun c => ?_) (fun c => ?_)
        · replace T := T.1 c
          refine R_iload (Dat dd_L_ruling 98 rfl) rfl ?_
          refine R_iload (Dat dd_L_ruling 99 rfl) rfl ?_
          obtain ⟨g21, T⟩ := T
          obtain ⟨g22, T⟩ := T
          refine R_ic_ge (Dat dd_L_ruling 100 rfl) rfl g21 g22 (fun c => ?_) (fun c => ?_)
          · replace T := T.1 c
            refine R_iconst (Dat dd_L_ruling 101 rfl) ?_
            refine R_goto (Dat dd_L_ruling 102 rfl) rfl ?_
            exact T
          · replace T := T.2 c
            exact T
        · replace T := T.2 c
          exact T
      · replace T := T.2 c
        exact T
    · replace T := T.2.2.2.2 (by exact hc)
      refine R_iload (Dat dd_L_ruling 106 rfl) rfl ?_
      refine R_iload (Dat dd_L_ruling 107 rfl) rfl ?_
      obtain ⟨g23, T⟩ := T
      obtain ⟨g24, T⟩ := T
      refine R_ic_lt (Dat dd_L_ruling 108 rfl) rfl g23 g24 (fun c => ?_) (fun c => ?_)
      · replace T := T.1 c
        refine R_iconst (Dat dd_L_ruling 111 rfl) ?_
        exact T
      · replace T := T.2 c
        refine R_iconst (Dat dd_L_ruling 109 rfl) ?_
        refine R_goto (Dat dd_L_ruling 110 rfl) rfl ?_
        exact T
  · replace T := T.2 c
    refine R_iload (Dat dd_L_ruling 114 rfl) rfl ?_
    refine R_iload (Dat dd_L_ruling 115 rfl) rfl ?_
    obtain ⟨g25, T⟩ := T
    obtain ⟨g26, T⟩ := T
    refine R_ic_ge (Dat dd_L_ruling 116 rfl) rfl g25 g26 (fun c => ?_) (fun c => ?_)
    · replace T := T.1 c
      refine R_iload (Dat dd_L_ruling 117 rfl) rfl ?_
      refine R_ineg (Dat dd_L_ruling 118 rfl) ?_
      refine R_iload (Dat dd_L_ruling 119 rfl) rfl ?_
      obtain ⟨g27, T⟩ := T
      obtain ⟨g28, T⟩ := T
      refine R_ic_ge (Dat dd_L_ruling 120 rfl) rfl g27 g28 (fun c => ?_) (fun c => ?_)
      · replace T := T.1 c
        refine R_iconst (Dat dd_L_ruling 121 rfl) ?_
        refine R_goto (Dat dd_L_ruling 122 rfl) rfl ?_
        exact T
      · replace T := T.2 c
        exact T
    · replace T := T.2 c
      exact T
theorem t_L_ruling_128 {h : Hp} {P : Value → Hp → Prop} {a2 a3 a4 a5 a6 a7 s0 : Int} {a0 a1 : Nat} {a8 a9 a10 a11 : Value} (T : R 91 260 [.ref a0, .ref a1, .int (I a2), .int (I a3), .int (I a4), .int (I a5), .int (I a6), .int (I a7), a8, a9, a10, .int (I s0)] [] h P) : R 91 128 [.ref a0, .ref a1, .int (I a2), .int (I a3), .int (I a4), .int (I a5), .int (I a6), .int (I a7), a8, a9, a10, a11] [.int (I s0)] h P := by
  refine R_istore (Dat dd_L_ruling 60 rfl) rfl rfl ?_
  refine R_goto (Dat dd_L_ruling 61 rfl) rfl ?_
  exact T
theorem t_L_ruling_149 {h : Hp} {P : Value → Hp → Prop} {a2 a3 a4 a5 a6 a7 : Int} {a0 a1 : Nat} {a8 a9 a10 a11 : Value} (T : R 91 150 [.ref a0, .ref a1, .int (I a2), .int (I a3), .int (I a4), .int (I a5), .int (I a6), .int (I a7), a8, a9, a10, a11] [.int (I 0)] h P) : R 91 149 [.ref a0, .ref a1, .int (I a2), .int (I a3), .int (I a4), .int (I a5), .int (I a6), .int (I a7), a8, a9, a10, a11] [] h P := by
  refine R_iconst (Dat dd_L_ruling 69 rfl) ?_
  exact T
theorem t_L_ruling_150 {h : Hp} {P : Value → Hp → Prop} {a2 a3 a4 a5 a6 a7 s0 : Int} {a0 a1 : Nat} {a8 a9 a10 a11 : Value} (T : R 91 260 [.ref a0, .ref a1, .int (I a2), .int (I a3), .int (I a4), .int (I a5), .int (I a6), .int (I a7), a8, a9, a10, .int (I s0)] [] h P) : R 91 150 [.ref a0, .ref a1, .int (I a2), .int (I a3), .int (I a4), .int (I a5), .int (I a6), .int (I a7), a8, a9, a10, a11] [.int (I s0)] h P := by
  refine R_istore (Dat dd_L_ruling 70 rfl) rfl rfl ?_
  refine R_goto (Dat dd_L_ruling 71 rfl) rfl ?_
  exact T
theorem t_L_ruling_160 {h : Hp} {P : Value → Hp → Prop} {a2 a3 a4 a5 a6 a7 a8 a9 a10 s0 : Int} {a0 a1 : Nat} {a11 : Value} (T : (rng s0) ∧ (rng a8) ∧ ((s0 < a8 → R 91 179 [.ref a0, .ref a1, .int (I a2), .int (I a3), .int (I a4), .int (I a5), .int (I a6), .int (I a7), .int (I a8), .int (I a9), .int (I a10), a11] [] h P) ∧ (¬ s0 < a8 → (rng a10) ∧ (((0 : Int) < a10 → R 91 179 [.ref a0, .ref a1, .int (I a2), .int (I a3), .int (I a4), .int (I a5), .int (I a6), .int (I a7), .int (I a8), .int (I a9), .int (I a10), a11] [] h P) ∧ (¬ (0 : Int) < a10 → (rng a9) ∧ (((0 : Int) < a9 → R 91 180 [.ref a0, .ref a1, .int (I a2), .int (I a3), .int (I a4), .int (I a5), .int (I a6), .int (I a7), .int (I a8), .int (I a9), .int (I a10), a11] [.int (I 1)] h P) ∧ (¬ (0 : Int) < a9 → R 91 179 [.ref a0, .ref a1, .int (I a2), .int (I a3), .int (I a4), .int (I a5), .int (I a6), .int (I a7), .int (I a8), .int (I a9), .int (I a10), a11] [] h P))))))) : R 91 160 [.ref a0, .ref a1, .int (I a2), .int (I a3), .int (I a4), .int (I a5), .int (I a6), .int (I a7), .int (I a8), .int (I a9), .int (I a10), a11] [.int (I s0)] h P := by
  refine R_iload (Dat dd_L_ruling 75 rfl) rfl ?_
  obtain ⟨g1, T⟩ := T
  obtain ⟨g2, T⟩ := T
  refine R_ic_lt (Dat dd_L_ruling 76 rfl) rfl g1 g2 (fun c => ?_) (fun c => ?_)
  · replace T := T.1 c
    exact T
  · replace T := T.2 c
    refine R_iload (Dat dd_L_ruling 77 rfl) rfl ?_
    obtain ⟨g3, T⟩ := T
    refine R_if_gt (Dat dd_L_ruling 78 rfl) rfl g3  (fun c => ?_) (fun c => ?_)
    · replace T := T.1 c
      exact T
    · replace T := T.2 c
      refine R_iload (Dat dd_L_ruling 79 rfl) rfl ?_
      obtain ⟨g4, T⟩ := T
      refine R_if_le (Dat dd_L_ruling 80 rfl) rfl g4  (fun c => ?_) (fun c => ?_)
      · replace T := T.1 c
        refine R_iconst (Dat dd_L_ruling 81 rfl) ?_
        refine R_goto (Dat dd_L_ruling 82 rfl) rfl ?_
        exact T
      · replace T := T.2 c
        exact T
theorem t_L_ruling_216 {h : Hp} {P : Value → Hp → Prop} {a2 a3 a4 a5 a6 a7 s0 : Int} {a0 a1 : Nat} {a8 a9 a10 a11 : Value} (T : R 91 260 [.ref a0, .ref a1, .int (I a2), .int (I a3), .int (I a4), .int (I a5), .int (I a6), .int (I a7), a8, a9, a10, .int (I s0)] [] h P) : R 91 216 [.ref a0, .ref a1, .int (I a2), .int (I a3), .int (I a4), .int (I a5), .int (I a6), .int (I a7), a8, a9, a10, a11] [.int (I s0)] h P := by
  refine R_istore (Dat dd_L_ruling 104 rfl) rfl rfl ?_
  refine R_goto (Dat dd_L_ruling 105 rfl) rfl ?_
  exact T
theorem t_L_ruling_215 {h : Hp} {P : Value → Hp → Prop} {a2 a3 a4 a5 a6 a7 : Int} {a0 a1 : Nat} {a8 a9 a10 a11 : Value} (T : R 91 216 [.ref a0, .ref a1, .int (I a2), .int (I a3), .int (I a4), .int (I a5), .int (I a6), .int (I a7), a8, a9, a10, a11] [.int (I 0)] h P) : R 91 215 [.ref a0, .ref a1, .int (I a2), .int (I a3), .int (I a4), .int (I a5), .int (I a6), .int (I a7), a8, a9, a10, a11] [] h P := by
  refine R_iconst (Dat dd_L_ruling 103 rfl) ?_
  exact T
theorem t_L_ruling_233 {h : Hp} {P : Value → Hp → Prop} {a2 a3 a4 a5 a6 a7 s0 : Int} {a0 a1 : Nat} {a8 a9 a10 a11 : Value} (T : R 91 260 [.ref a0, .ref a1, .int (I a2), .int (I a3), .int (I a4), .int (I a5), .int (I a6), .int (I a7), a8, a9, a10, .int (I s0)] [] h P) : R 91 233 [.ref a0, .ref a1, .int (I a2), .int (I a3), .int (I a4), .int (I a5), .int (I a6), .int (I a7), a8, a9, a10, a11] [.int (I s0)] h P := by
  refine R_istore (Dat dd_L_ruling 112 rfl) rfl rfl ?_
  refine R_goto (Dat dd_L_ruling 113 rfl) rfl ?_
  exact T
theorem t_L_ruling_258 {h : Hp} {P : Value → Hp → Prop} {a2 a3 a4 a5 a6 a7 s0 : Int} {a0 a1 : Nat} {a8 a9 a10 a11 : Value} (T : R 91 260 [.ref a0, .ref a1, .int (I a2), .int (I a3), .int (I a4), .int (I a5), .int (I a6), .int (I a7), a8, a9, a10, .int (I s0)] [] h P) : R 91 258 [.ref a0, .ref a1, .int (I a2), .int (I a3), .int (I a4), .int (I a5), .int (I a6), .int (I a7), a8, a9, a10, a11] [.int (I s0)] h P := by
  refine R_istore (Dat dd_L_ruling 124 rfl) rfl rfl ?_
  exact T
theorem t_L_ruling_257 {h : Hp} {P : Value → Hp → Prop} {a2 a3 a4 a5 a6 a7 : Int} {a0 a1 : Nat} {a8 a9 a10 a11 : Value} (T : R 91 258 [.ref a0, .ref a1, .int (I a2), .int (I a3), .int (I a4), .int (I a5), .int (I a6), .int (I a7), a8, a9, a10, a11] [.int (I 0)] h P) : R 91 257 [.ref a0, .ref a1, .int (I a2), .int (I a3), .int (I a4), .int (I a5), .int (I a6), .int (I a7), a8, a9, a10, a11] [] h P := by
  refine R_iconst (Dat dd_L_ruling 123 rfl) ?_
  exact T
theorem t_L_ruling_260 {h : Hp} {P : Value → Hp → Prop} {a2 a3 a4 a5 a6 a7 a11 : Int} {a0 a1 : Nat} {a8 a9 a10 : Value} (T : (rng a11) ∧ ((a11 = 0 → R 91 268 [.ref a0, .ref a1, .int (I a2), .int (I a3), .int (I a4), .int (I a5), .int (I a6), .int (I a7), a8, a9, a10, .int (I a11)] [] h P) ∧ (¬ a11 = 0 → P (.int (I a7)) h))) : R 91 260 [.ref a0, .ref a1, .int (I a2), .int (I a3), .int (I a4), .int (I a5), .int (I a6), .int (I a7), a8, a9, a10, .int (I a11)] [] h P := by
  refine R_iload (Dat dd_L_ruling 125 rfl) rfl ?_
  obtain ⟨g1, T⟩ := T
  refine R_if_eq (Dat dd_L_ruling 126 rfl) rfl g1  (fun c => ?_) (fun c => ?_)
  · replace T := T.1 c
    exact T
  · replace T := T.2 c
    refine R_iload (Dat dd_L_ruling 127 rfl) rfl ?_
    exact R_ireturn (Dat dd_L_ruling 128 rfl) rfl T
theorem t_L_ruling_179 {h : Hp} {P : Value → Hp → Prop} {a2 a3 a4 a5 a6 a7 : Int} {a0 a1 : Nat} {a8 a9 a10 a11 : Value} (T : R 91 180 [.ref a0, .ref a1, .int (I a2), .int (I a3), .int (I a4), .int (I a5), .int (I a6), .int (I a7), a8, a9, a10, a11] [.int (I 0)] h P) : R 91 179 [.ref a0, .ref a1, .int (I a2), .int (I a3), .int (I a4), .int (I a5), .int (I a6), .int (I a7), a8, a9, a10, a11] [] h P := by
  refine R_iconst (Dat dd_L_ruling 83 rfl) ?_
  exact T
theorem t_L_ruling_180 {h : Hp} {P : Value → Hp → Prop} {a2 a3 a4 a5 a6 a7 s0 : Int} {a0 a1 : Nat} {a8 a9 a10 a11 : Value} (T : R 91 260 [.ref a0, .ref a1, .int (I a2), .int (I a3), .int (I a4), .int (I a5), .int (I a6), .int (I a7), a8, a9, a10, .int (I s0)] [] h P) : R 91 180 [.ref a0, .ref a1, .int (I a2), .int (I a3), .int (I a4), .int (I a5), .int (I a6), .int (I a7), a8, a9, a10, a11] [.int (I s0)] h P := by
  refine R_istore (Dat dd_L_ruling 84 rfl) rfl rfl ?_
  refine R_goto (Dat dd_L_ruling 85 rfl) rfl ?_
  exact T
def dl_L_bulk : List (Nat × Instr × Nat) := [(0, .aload_n 0, 1), (1, .iload_n 1, 1), (2, .iaload, 1), (3, .aload_n 0, 1), (4, .bipush 16, 2), (6, .iload_n 1, 1), (7, .iadd, 1), (8, .iaload, 1), (9, .ifCond .le 7, 3), (12, .iconst 1, 1), (13, .goto 4, 3), (16, .iconst 0, 1), (17, .isub, 1), (18, .ireturn, 1)]
theorem dd_L_bulk : Dall 92 dl_L_bulk = true := by decide +kernel
theorem t_L_bulk {h : Hp} {P : Value → Hp → Prop} {p1 : Int} {p0 : Nat} (T : (tg h p0 = 20 ∨ tg h p0 = 30) ∧ ((ln h p0 : Int) ≤ 2147483648) ∧ (0 ≤ p1) ∧ (p1 < ln h p0) ∧ (tg h p0 = 20 ∨ tg h p0 = 30) ∧ ((ln h p0 : Int) ≤ 2147483648) ∧ (0 ≤ (16 + p1)) ∧ ((16 + p1) < ln h p0) ∧ (rng (iv h p0 (16 + p1))) ∧ (((0 : Int) < (iv h p0 (16 + p1)) → R 92 17 [.ref p0, .int (I p1)] [.int (I 1), .int (I (iv h p0 p1))] h P) ∧ (¬ (0 : Int) < (iv h p0 (16 + p1)) → R 92 17 [.ref p0, .int (I p1)] [.int (I 0), .int (I (iv h p0 p1))] h P))) : R 92 0 [.ref p0, .int (I p1)] [] h P := by
  refine R_aload_n (Dat dd_L_bulk 0 rfl) rfl rfl ?_
  refine R_iload_n (Dat dd_L_bulk 1 rfl) rfl ?_
  obtain ⟨g1, T⟩ := T
  obtain ⟨g2, T⟩ := T
  obtain ⟨g3, T⟩ := T
  obtain ⟨g4, T⟩ := T
  refine R_iaload (Dat dd_L_bulk 2 rfl) g1 g2 g3 g4 ?_
  refine R_aload_n (Dat dd_L_bulk 3 rfl) rfl rfl ?_
  refine R_bipush (Dat dd_L_bulk 4 rfl) (a := 16) rfl ?_
  refine R_iload_n (Dat dd_L_bulk 5 rfl) rfl ?_
  refine R_iadd (Dat dd_L_bulk 6 rfl) ?_
  obtain ⟨g5, T⟩ := T
  obtain ⟨g6, T⟩ := T
  obtain ⟨g7, T⟩ := T
  obtain ⟨g8, T⟩ := T
  refine R_iaload (Dat dd_L_bulk 7 rfl) g5 g6 g7 g8 ?_
  obtain ⟨g9, T⟩ := T
  refine R_if_le (Dat dd_L_bulk 8 rfl) rfl g9  (fun c => ?_) (fun c => ?_)
  · replace T := T.1 c
    refine R_iconst (Dat dd_L_bulk 9 rfl) ?_
    refine R_goto (Dat dd_L_bulk 10 rfl) rfl ?_
    exact T
  · replace T := T.2 c
    refine R_iconst (Dat dd_L_bulk 11 rfl) ?_
    exact T
theorem t_L_bulk_17 {h : Hp} {P : Value → Hp → Prop} {s0 s1 : Int} {a0 a1 : Value} (T : P (.int (I (s1 - s0))) h) : R 92 17 [a0, a1] [.int (I s0), .int (I s1)] h P := by
  refine R_isub (Dat dd_L_bulk 12 rfl) ?_
  exact R_ireturn (Dat dd_L_bulk 13 rfl) rfl T
def dl_L_heft : List (Nat × Instr × Nat) := [(0, .aload_n 0, 1), (1, .bipush 8, 2), (3, .iload_n 1, 1), (4, .iadd, 1), (5, .iaload, 1), (6, .aload_n 0, 1), (7, .bipush 16, 2), (9, .iload_n 1, 1), (10, .iadd, 1), (11, .iaload, 1), (12, .iconst 1, 1), (13, .if_icmp .le 7, 3), (16, .iconst 2, 1), (17, .goto 4, 3), (20, .iconst 0, 1), (21, .iadd, 1), (22, .ireturn, 1)]
theorem dd_L_heft : Dall 93 dl_L_heft = true := by decide +kernel
theorem t_L_heft {h : Hp} {P : Value → Hp → Prop} {p1 : Int} {p0 : Nat} (T : (tg h p0 = 20 ∨ tg h p0 = 30) ∧ ((ln h p0 : Int) ≤ 2147483648) ∧ (0 ≤ (8 + p1)) ∧ ((8 + p1) < ln h p0) ∧ (tg h p0 = 20 ∨ tg h p0 = 30) ∧ ((ln h p0 : Int) ≤ 2147483648) ∧ (0 ≤ (16 + p1)) ∧ ((16 + p1) < ln h p0) ∧ (rng (iv h p0 (16 + p1))) ∧ (((1 : Int) < (iv h p0 (16 + p1)) → R 93 21 [.ref p0, .int (I p1)] [.int (I 2), .int (I (iv h p0 (8 + p1)))] h P) ∧ (¬ (1 : Int) < (iv h p0 (16 + p1)) → R 93 21 [.ref p0, .int (I p1)] [.int (I 0), .int (I (iv h p0 (8 + p1)))] h P))) : R 93 0 [.ref p0, .int (I p1)] [] h P := by
  refine R_aload_n (Dat dd_L_heft 0 rfl) rfl rfl ?_
  refine R_bipush (Dat dd_L_heft 1 rfl) (a := 8) rfl ?_
  refine R_iload_n (Dat dd_L_heft 2 rfl) rfl ?_
  refine R_iadd (Dat dd_L_heft 3 rfl) ?_
  obtain ⟨g1, T⟩ := T
  obtain ⟨g2, T⟩ := T
  obtain ⟨g3, T⟩ := T
  obtain ⟨g4, T⟩ := T
  refine R_iaload (Dat dd_L_heft 4 rfl) g1 g2 g3 g4 ?_
  refine R_aload_n (Dat dd_L_heft 5 rfl) rfl rfl ?_
  refine R_bipush (Dat dd_L_heft 6 rfl) (a := 16) rfl ?_
  refine R_iload_n (Dat dd_L_heft 7 rfl) rfl ?_
  refine R_iadd (Dat dd_L_heft 8 rfl) ?_
  obtain ⟨g5, T⟩ := T
  obtain ⟨g6, T⟩ := T
  obtain ⟨g7, T⟩ := T
  obtain ⟨g8, T⟩ := T
  refine R_iaload (Dat dd_L_heft 9 rfl) g5 g6 g7 g8 ?_
  refine R_iconst (Dat dd_L_heft 10 rfl) ?_
  obtain ⟨g9, T⟩ := T
  refine R_ic_le (Dat dd_L_heft 11 rfl) rfl g9 (by decide) (fun c => ?_) (fun c => ?_)
  · replace T := T.1 c
    refine R_iconst (Dat dd_L_heft 12 rfl) ?_
    refine R_goto (Dat dd_L_heft 13 rfl) rfl ?_
    exact T
  · replace T := T.2 c
    refine R_iconst (Dat dd_L_heft 14 rfl) ?_
    exact T
theorem t_L_heft_21 {h : Hp} {P : Value → Hp → Prop} {s0 s1 : Int} {a0 a1 : Value} (T : P (.int (I (s1 + s0))) h) : R 93 21 [a0, a1] [.int (I s0), .int (I s1)] h P := by
  refine R_iadd (Dat dd_L_heft 15 rfl) ?_
  exact R_ireturn (Dat dd_L_heft 16 rfl) rfl T
def dl_L_shake : List (Nat × Instr × Nat) := [(0, .iconst 0, 1), (1, .istore 5, 2), (3, .iconst 0, 1), (4, .istore 6, 2), (6, .iload 6, 2), (8, .iconst 2, 1), (9, .if_icmp .ge 99, 3), (12, .iload 6, 2), (14, .istore 7, 2), (16, .iload 7, 2), (18, .aload_n 0, 1), (19, .bipush 24, 2), (21, .iaload, 1), (22, .iconst 1, 1), (23, .isub, 1), (24, .if_icmp .ge 78, 3), (27, .aload_n 0, 1), (28, .aload_n 1, 1), (29, .iload_n 2, 1), (30, .aload_n 3, 1), (31, .iload 7, 2), (33, .iaload, 1), (34, .aload_n 3, 1), (35, .iload 7, 2), (37, .iconst 1, 1), (38, .iadd, 1), (39, .iaload, 1), (40, .iload 7, 2), (42, .iload 4, 2), (44, .invokestatic 34, 3), (47, .istore 8, 2), (49, .iload 8, 2), (51, .ifCond .lt 45, 3), (54, .aload_n 1, 1), (55, .iconst 1, 1), (56, .iconst 3, 1), (57, .iload 8, 2), (59, .imul, 1), (60, .iadd, 1), (61, .iaload, 1), (62, .iconst 3, 1), (63, .if_icmp .le 6, 3), (66, .goto 30, 3), (69, .aload_n 3, 1), (70, .iload 7, 2), (72, .iaload, 1), (73, .istore 9, 2), (75, .aload_n 3, 1), (76, .iload 7, 2), (78, .aload_n 3, 1), (79, .iload 7, 2), (81, .iconst 1, 1), (82, .iadd, 1), (83, .iaload, 1), (84, .iastore, 1), (85, .aload_n 3, 1), (86, .iload 7, 2), (88, .iconst 1, 1), (89, .iadd, 1), (90, .iload 9, 2), (92, .iastore, 1), (93, .iinc 5 1, 3), (96, .iinc 7 2, 3), (99, .goto (-83), 3), (102, .iinc 6 1, 3), (105, .goto (-99), 3), (108, .iload 5, 2), (110, .ireturn, 1)]
theorem dd_L_shake : Dall 94 dl_L_shake = true := by decide +kernel
theorem t_L_shake {h : Hp} {P : Value → Hp → Prop} {p2 p4 : Int} {p0 p1 p3 : Nat} (T : R 94 6 [.ref p0, .ref p1, .int (I p2), .ref p3, .int (I p4), .int (I 0), .int (I 0), .retAddr 0, .retAddr 0, .retAddr 0] [] h P) : R 94 0 [.ref p0, .ref p1, .int (I p2), .ref p3, .int (I p4), .retAddr 0, .retAddr 0, .retAddr 0, .retAddr 0, .retAddr 0] [] h P := by
  refine R_iconst (Dat dd_L_shake 0 rfl) ?_
  refine R_istore (Dat dd_L_shake 1 rfl) rfl rfl ?_
  refine R_iconst (Dat dd_L_shake 2 rfl) ?_
  refine R_istore (Dat dd_L_shake 3 rfl) rfl rfl ?_
  exact T
theorem t_L_shake_6 {h : Hp} {P : Value → Hp → Prop} {a2 a4 a5 a6 : Int} {a0 a1 a3 : Nat} {a7 a8 a9 : Value} (T : (rng a6) ∧ ((a6 < 2 → R 94 16 [.ref a0, .ref a1, .int (I a2), .ref a3, .int (I a4), .int (I a5), .int (I a6), .int (I a6), a8, a9] [] h P) ∧ (¬ a6 < 2 → P (.int (I a5)) h))) : R 94 6 [.ref a0, .ref a1, .int (I a2), .ref a3, .int (I a4), .int (I a5), .int (I a6), a7, a8, a9] [] h P := by
  refine R_iload (Dat dd_L_shake 4 rfl) rfl ?_
  refine R_iconst (Dat dd_L_shake 5 rfl) ?_
  obtain ⟨g1, T⟩ := T
  refine R_ic_ge (Dat dd_L_shake 6 rfl) rfl g1 (by decide) (fun c => ?_) (fun c => ?_)
  · replace T := T.1 c
    refine R_iload (Dat dd_L_shake 7 rfl) rfl ?_
    refine R_istore (Dat dd_L_shake 8 rfl) rfl rfl ?_
    exact T
  · replace T := T.2 c
    refine R_iload (Dat dd_L_shake 66 rfl) rfl ?_
    exact R_ireturn (Dat dd_L_shake 67 rfl) rfl T
theorem t_L_shake_16 {h : Hp} {P : Value → Hp → Prop} {a2 a4 a5 a6 a7 : Int} {a0 a1 a3 : Nat} {a8 a9 : Value} (T : (tg h a0 = 20 ∨ tg h a0 = 30) ∧ ((ln h a0 : Int) ≤ 2147483648) ∧ ((24 : Int) < ln h a0) ∧ (rng a7) ∧ (rng ((iv h a0 24) - 1)) ∧ ((a7 < ((iv h a0 24) - 1) → (tg h a3 = 20 ∨ tg h a3 = 30) ∧ ((ln h a3 : Int) ≤ 2147483648) ∧ (0 ≤ a7) ∧ (a7 < ln h a3) ∧ (tg h a3 = 20 ∨ tg h a3 = 30) ∧ ((ln h a3 : Int) ≤ 2147483648) ∧ (0 ≤ (a7 + 1)) ∧ ((a7 + 1) < ln h a3) ∧ R 91 0 [.ref a0, .ref a1, .int (I a2), .int (I (iv h a3 a7)), .int (I (iv h a3 (a7 + 1))), .int (I a7), .int (I a4), .retAddr 0, .retAddr 0, .retAddr 0, .retAddr 0, .retAddr 0] [] h (fun v h2 => R 94 47 [.ref a0, .ref a1, .int (I a2), .ref a3, .int (I a4), .int (I a5), .int (I a6), .int (I a7), a8, a9] (v :: []) h2 P)) ∧ (¬ a7 < ((iv h a0 24) - 1) → R 94 6 [.ref a0, .ref a1, .int (I a2), .ref a3, .int (I a4), .int (I a5), .int (I (a6 + 1)), .int (I a7), a8, a9] [] h P))) : R 94 16 [.ref a0, .ref a1, .int (I a2), .ref a3, .int (I a4), .int (I a5), .int (I a6), .int (I a7), a8, a9] [] h P := by
  refine R_iload (Dat dd_L_shake 9 rfl) rfl ?_
  refine R_aload_n (Dat dd_L_shake 10 rfl) rfl rfl ?_
  refine R_bipush (Dat dd_L_shake 11 rfl) (a := 24) rfl ?_
  obtain ⟨g1, T⟩ := T
  obtain ⟨g2, T⟩ := T
  obtain ⟨g3, T⟩ := T
  refine R_iaload (Dat dd_L_shake 12 rfl) g1 g2 (by decide) g3 ?_
  refine R_iconst (Dat dd_L_shake 13 rfl) ?_
  refine R_isub (Dat dd_L_shake 14 rfl) ?_
  obtain ⟨g4, T⟩ := T
  obtain ⟨g5, T⟩ := T
  refine R_ic_ge (Dat dd_L_shake 15 rfl) rfl g4 g5 (fun c => ?_) (fun c => ?_)
  · replace T := T.1 c
    refine R_aload_n (Dat dd_L_shake 16 rfl) rfl rfl ?_
    refine R_aload_n (Dat dd_L_shake 17 rfl) rfl rfl ?_
    refine R_iload_n (Dat dd_L_shake 18 rfl) rfl ?_
    refine R_aload_n (Dat dd_L_shake 19 rfl) rfl rfl ?_
    refine R_iload (Dat dd_L_shake 20 rfl) rfl ?_
    obtain ⟨g6, T⟩ := T
    obtain ⟨g7, T⟩ := T
    obtain ⟨g8, T⟩ := T
    obtain ⟨g9, T⟩ := T
    refine R_iaload (Dat dd_L_shake 21 rfl) g6 g7 g8 g9 ?_
    refine R_aload_n (Dat dd_L_shake 22 rfl) rfl rfl ?_
    refine R_iload (Dat dd_L_shake 23 rfl) rfl ?_
    refine R_iconst (Dat dd_L_shake 24 rfl) ?_
    refine R_iadd (Dat dd_L_shake 25 rfl) ?_
    obtain ⟨g10, T⟩ := T
    obtain ⟨g11, T⟩ := T
    obtain ⟨g12, T⟩ := T
    obtain ⟨g13, T⟩ := T
    refine R_iaload (Dat dd_L_shake 26 rfl) g10 g11 g12 g13 ?_
    refine R_iload (Dat dd_L_shake 27 rfl) rfl ?_
    refine R_iload (Dat dd_L_shake 28 rfl) rfl ?_
    exact R_call0 (Dat dd_L_shake 29 rfl) rfl rfl rfl rfl rfl rfl T
  · replace T := T.2 c
    refine R_iinc (Dat dd_L_shake 64 rfl) rfl rfl rfl ?_
    refine R_goto (Dat dd_L_shake 65 rfl) rfl ?_
    exact T
theorem t_L_shake_47 {h : Hp} {P : Value → Hp → Prop} {a2 a4 a5 a6 a7 s0 : Int} {a0 a1 a3 : Nat} {a8 a9 : Value} (T : (rng s0) ∧ ((s0 < 0 → R 94 96 [.ref a0, .ref a1, .int (I a2), .ref a3, .int (I a4), .int (I a5), .int (I a6), .int (I a7), .int (I s0), a9] [] h P) ∧ (¬ s0 < 0 → (tg h a1 = 20 ∨ tg h a1 = 30) ∧ ((ln h a1 : Int) ≤ 2147483648) ∧ (0 ≤ (1 + (3 * s0))) ∧ ((1 + (3 * s0)) < ln h a1) ∧ (rng (iv h a1 (1 + (3 * s0)))) ∧ (((3 : Int) < (iv h a1 (1 + (3 * s0))) → R 94 96 [.ref a0, .ref a1, .int (I a2), .ref a3, .int (I a4), .int (I a5), .int (I a6), .int (I a7), .int (I s0), a9] [] h P) ∧ (¬ (3 : Int) < (iv h a1 (1 + (3 * s0))) → (tg h a3 = 20 ∨ tg h a3 = 30) ∧ ((ln h a3 : Int) ≤ 2147483648) ∧ (0 ≤ a7) ∧ (a7 < ln h a3) ∧ (tg h a3 = 20 ∨ tg h a3 = 30) ∧ ((ln h a3 : Int) ≤ 2147483648) ∧ (0 ≤ (a7 + 1)) ∧ ((a7 + 1) < ln h a3) ∧ (tg h a3 = 20) ∧ ((ln h a3 : Int) ≤ 2147483648) ∧ (0 ≤ a7) ∧ (a7 < ln h a3) ∧ (tg (setI h a3 a7 (wr (iv h a3 (a7 + 1)))) a3 = 20) ∧ ((ln (setI h a3 a7 (wr (iv h a3 (a7 + 1)))) a3 : Int) ≤ 2147483648) ∧ (0 ≤ (a7 + 1)) ∧ ((a7 + 1) < ln (setI h a3 a7 (wr (iv h a3 (a7 + 1)))) a3) ∧ R 94 96 [.ref a0, .ref a1, .int (I a2), .ref a3, .int (I a4), .int (I (a5 + 1)), .int (I a6), .int (I a7), .int (I s0), .int (I (iv h a3 a7))] [] (setI (setI h a3 a7 (wr (iv h a3 (a7 + 1)))) a3 (a7 + 1) (wr (iv h a3 a7))) P))))) : R 94 47 [.ref a0, .ref a1, .int (I a2), .ref a3, .int (I a4), .int (I a5), .int (I a6), .int (I a7), a8, a9] [.int (I s0)] h P := by
  refine R_istore (Dat dd_L_shake 30 rfl) rfl rfl ?_
  refine R_iload (Dat dd_L_shake 31 rfl) rfl ?_
  obtain ⟨g1, T⟩ := T
  refine R_if_lt (Dat dd_L_shake 32 rfl) rfl g1  (fun c => ?_) (fun c => ?_)
  · replace T := T.1 c
    exact T
  · replace T := T.2 c
    refine R_aload_n (Dat dd_L_shake 33 rfl) rfl rfl ?_
    refine R_iconst (Dat dd_L_shake 34 rfl) ?_
    refine R_iconst (Dat dd_L_shake 35 rfl) ?_
    refine R_iload (Dat dd_L_shake 36 rfl) rfl ?_
    refine R_imul (Dat dd_L_shake 37 rfl) ?_
    refine R_iadd (Dat dd_L_shake 38 rfl) ?_
    obtain ⟨g2, T⟩ := T
    obtain ⟨g3, T⟩ := T
    obtain ⟨g4, T⟩ := T
    obtain ⟨g5, T⟩ := T
    refine R_iaload (Dat dd_L_shake 39 rfl) g2 g3 g4 g5 ?_
    refine R_iconst (Dat dd_L_shake 40 rfl) ?_
    obtain ⟨g6, T⟩ := T
    refine R_ic_le (Dat dd_L_shake 41 rfl) rfl g6 (by decide) (fun c => ?_) (fun c => ?_)
    · replace T := T.1 c
      refine R_goto (Dat dd_L_shake 42 rfl) rfl ?_
      exact T
    · replace T := T.2 c
      refine R_aload_n (Dat dd_L_shake 43 rfl) rfl rfl ?_
      refine R_iload (Dat dd_L_shake 44 rfl) rfl ?_
      obtain ⟨g7, T⟩ := T
      obtain ⟨g8, T⟩ := T
      obtain ⟨g9, T⟩ := T
      obtain ⟨g10, T⟩ := T
      refine R_iaload (Dat dd_L_shake 45 rfl) g7 g8 g9 g10 ?_
      refine R_istore (Dat dd_L_shake 46 rfl) rfl rfl ?_
      refine R_aload_n (Dat dd_L_shake 47 rfl) rfl rfl ?_
      refine R_iload (Dat dd_L_shake 48 rfl) rfl ?_
      refine R_aload_n (Dat dd_L_shake 49 rfl) rfl rfl ?_
      refine R_iload (Dat dd_L_shake 50 rfl) rfl ?_
      refine R_iconst (Dat dd_L_shake 51 rfl) ?_
      refine R_iadd (Dat dd_L_shake 52 rfl) ?_
      obtain ⟨g11, T⟩ := T
      obtain ⟨g12, T⟩ := T
      obtain ⟨g13, T⟩ := T
      obtain ⟨g14, T⟩ := T
      refine R_iaload (Dat dd_L_shake 53 rfl) g11 g12 g13 g14 ?_
      obtain ⟨g15, T⟩ := T
      obtain ⟨g16, T⟩ := T
      obtain ⟨g17, T⟩ := T
      obtain ⟨g18, T⟩ := T
      refine R_iastore (Dat dd_L_shake 54 rfl) g15 g16 g17 g18 (v := wr (iv h a3 (a7 + 1))) rfl ?_
      refine R_aload_n (Dat dd_L_shake 55 rfl) rfl rfl ?_
      refine R_iload (Dat dd_L_shake 56 rfl) rfl ?_
      refine R_iconst (Dat dd_L_shake 57 rfl) ?_
      refine R_iadd (Dat dd_L_shake 58 rfl) ?_
      refine R_iload (Dat dd_L_shake 59 rfl) rfl ?_
      obtain ⟨g19, T⟩ := T
      obtain ⟨g20, T⟩ := T
      obtain ⟨g21, T⟩ := T
      obtain ⟨g22, T⟩ := T
      refine R_iastore (Dat dd_L_shake 60 rfl) g19 g20 g21 g22 (v := wr (iv h a3 a7)) rfl ?_
      refine R_iinc (Dat dd_L_shake 61 rfl) rfl rfl rfl ?_
      exact T
theorem t_L_shake_96 {h : Hp} {P : Value → Hp → Prop} {a2 a4 a5 a6 a7 : Int} {a0 a1 a3 : Nat} {a8 a9 : Value} (T : R 94 16 [.ref a0, .ref a1, .int (I a2), .ref a3, .int (I a4), .int (I a5), .int (I a6), .int (I (a7 + 2)), a8, a9] [] h P) : R 94 96 [.ref a0, .ref a1, .int (I a2), .ref a3, .int (I a4), .int (I a5), .int (I a6), .int (I a7), a8, a9] [] h P := by
  refine R_iinc (Dat dd_L_shake 62 rfl) rfl rfl rfl ?_
  refine R_goto (Dat dd_L_shake 63 rfl) rfl ?_
  exact T
def dl_L_number : List (Nat × Instr × Nat) := [(0, .iconst 0, 1), (1, .istore_n 2, 1), (2, .iconst 1, 1), (3, .istore_n 3, 1), (4, .aload_n 0, 1), (5, .bipush 24, 2), (7, .iaload, 1), (8, .iconst 1, 1), (9, .isub, 1), (10, .istore 4, 2), (12, .iload 4, 2), (14, .ifCond .lt 71, 3), (17, .iconst 0, 1), (18, .istore 5, 2), (20, .iload 4, 2), (22, .iconst 1, 1), (23, .iadd, 1), (24, .istore 6, 2), (26, .iload 6, 2), (28, .aload_n 0, 1), (29, .bipush 24, 2), (31, .iaload, 1), (32, .if_icmp .ge 30, 3), (35, .iload 5, 2), (37, .aload_n 1, 1), (38, .iload 6, 2), (40, .iaload, 1), (41, .aload_n 1, 1), (42, .iload 4, 2), (44, .iaload, 1), (45, .if_icmp .ge 7, 3), (48, .iconst 1, 1), (49, .goto 4, 3), (52, .iconst 0, 1), (53, .iadd, 1), (54, .istore 5, 2), (56, .iinc 6 1, 3), (59, .goto (-33), 3), (62, .iload_n 2, 1), (63, .iload 5, 2), (65, .iload_n 3, 1), (66, .imul, 1), (67, .iadd, 1), (68, .istore_n 2, 1), (69, .iload_n 3, 1), (70, .aload_n 0, 1), (71, .bipush 24, 2), (73, .iaload, 1), (74, .iload 4, 2), (76, .isub, 1), (77, .imul, 1), (78, .istore_n 3, 1), (79, .iinc 4 (-1), 3), (82, .goto (-70), 3), (85, .iload_n 2, 1), (86, .ireturn, 1)]
theorem dd_L_number : Dall 95 dl_L_number = true := by decide +kernel
theorem t_L_number {h : Hp} {P : Value → Hp → Prop} {p0 p1 : Nat} (T : (tg h p0 = 20 ∨ tg h p0 = 30) ∧ ((ln h p0 : Int) ≤ 2147483648) ∧ ((24 : Int) < ln h p0) ∧ R 95 12 [.ref p0, .ref p1, .int (I 0), .int (I 1), .int (I ((iv h p0 24) - 1)), .retAddr 0, .retAddr 0] [] h P) : R 95 0 [.ref p0, .ref p1, .retAddr 0, .retAddr 0, .retAddr 0, .retAddr 0, .retAddr 0] [] h P := by
  refine R_iconst (Dat dd_L_number 0 rfl) ?_
  refine R_istore_n (Dat dd_L_number 1 rfl) rfl rfl ?_
  refine R_iconst (Dat dd_L_number 2 rfl) ?_
  refine R_istore_n (Dat dd_L_number 3 rfl) rfl rfl ?_
  refine R_aload_n (Dat dd_L_number 4 rfl) rfl rfl ?_
  refine R_bipush (Dat dd_L_number 5 rfl) (a := 24) rfl ?_
  obtain ⟨g1, T⟩ := T
  obtain ⟨g2, T⟩ := T
  obtain ⟨g3, T⟩ := T
  refine R_iaload (Dat dd_L_number 6 rfl) g1 g2 (by decide) g3 ?_
  refine R_iconst (Dat dd_L_number 7 rfl) ?_
  refine R_isub (Dat dd_L_number 8 rfl) ?_
  refine R_istore (Dat dd_L_number 9 rfl) rfl rfl ?_
  exact T
theorem t_L_number_12 {h : Hp} {P : Value → Hp → Prop} {a2 a3 a4 : Int} {a0 a1 : Nat} {a5 a6 : Value} (T : (rng a4) ∧ ((a4 < 0 → P (.int (I a2)) h) ∧ (¬ a4 < 0 → R 95 26 [.ref a0, .ref a1, .int (I a2), .int (I a3), .int (I a4), .int (I 0), .int (I (a4 + 1))] [] h P))) : R 95 12 [.ref a0, .ref a1, .int (I a2), .int (I a3), .int (I a4), a5, a6] [] h P := by
  refine R_iload (Dat dd_L_number 10 rfl) rfl ?_
  obtain ⟨g1, T⟩ := T
  refine R_if_lt (Dat dd_L_number 11 rfl) rfl g1  (fun c => ?_) (fun c => ?_)
  · replace T := T.1 c
    refine R_iload_n (Dat dd_L_number 54 rfl) rfl ?_
    exact R_ireturn (Dat dd_L_number 55 rfl) rfl T
  · replace T := T.2 c
    refine R_iconst (Dat dd_L_number 12 rfl) ?_
    refine R_istore (Dat dd_L_number 13 rfl) rfl rfl ?_
    refine R_iload (Dat dd_L_number 14 rfl) rfl ?_
    refine R_iconst (Dat dd_L_number 15 rfl) ?_
    refine R_iadd (Dat dd_L_number 16 rfl) ?_
    refine R_istore (Dat dd_L_number 17 rfl) rfl rfl ?_
    exact T
theorem t_L_number_26 {h : Hp} {P : Value → Hp → Prop} {a2 a3 a4 a5 a6 : Int} {a0 a1 : Nat} (T : (tg h a0 = 20 ∨ tg h a0 = 30) ∧ ((ln h a0 : Int) ≤ 2147483648) ∧ ((24 : Int) < ln h a0) ∧ (rng a6) ∧ (rng (iv h a0 24)) ∧ ((a6 < (iv h a0 24) → (tg h a1 = 20 ∨ tg h a1 = 30) ∧ ((ln h a1 : Int) ≤ 2147483648) ∧ (0 ≤ a6) ∧ (a6 < ln h a1) ∧ (tg h a1 = 20 ∨ tg h a1 = 30) ∧ ((ln h a1 : Int) ≤ 2147483648) ∧ (0 ≤ a4) ∧ (a4 < ln h a1) ∧ (rng (iv h a1 a6)) ∧ (rng (iv h a1 a4)) ∧ (((iv h a1 a6) < (iv h a1 a4) → R 95 53 [.ref a0, .ref a1, .int (I a2), .int (I a3), .int (I a4), .int (I a5), .int (I a6)] [.int (I 1), .int (I a5)] h P) ∧ (¬ (iv h a1 a6) < (iv h a1 a4) → R 95 53 [.ref a0, .ref a1, .int (I a2), .int (I a3), .int (I a4), .int (I a5), .int (I a6)] [.int (I 0), .int (I a5)] h P))) ∧ (¬ a6 < (iv h a0 24) → (tg h a0 = 20 ∨ tg h a0 = 30) ∧ ((ln h a0 : Int) ≤ 2147483648) ∧ ((24 : Int) < ln h a0) ∧ R 95 12 [.ref a0, .ref a1, .int (I (a2 + (a5 * a3))), .int (I (a3 * ((iv h a0 24) - a4))), .int (I (a4 + (-1))), .int (I a5), .int (I a6)] [] h P))) : R 95 26 [.ref a0, .ref a1, .int (I a2), .int (I a3), .int (I a4), .int (I a5), .int (I a6)] [] h P := by
  refine R_iload (Dat dd_L_number 18 rfl) rfl ?_
  refine R_aload_n (Dat dd_L_number 19 rfl) rfl rfl ?_
  refine R_bipush (Dat dd_L_number 20 rfl) (a := 24) rfl ?_
  obtain ⟨g1, T⟩ := T
  obtain ⟨g2, T⟩ := T
  obtain ⟨g3, T⟩ := T
  refine R_iaload (Dat dd_L_number 21 rfl) g1 g2 (by decide) g3 ?_
  obtain ⟨g4, T⟩ := T
  obtain ⟨g5, T⟩ := T
  refine R_ic_ge (Dat dd_L_number 22 rfl) rfl g4 g5 (fun c => ?_) (fun c => ?_)
  · replace T := T.1 c
    refine R_iload (Dat dd_L_number 23 rfl) rfl ?_
    refine R_aload_n (Dat dd_L_number 24 rfl) rfl rfl ?_
    refine R_iload (Dat dd_L_number 25 rfl) rfl ?_
    obtain ⟨g6, T⟩ := T
    obtain ⟨g7, T⟩ := T
    obtain ⟨g8, T⟩ := T
    obtain ⟨g9, T⟩ := T
    refine R_iaload (Dat dd_L_number 26 rfl) g6 g7 g8 g9 ?_
    refine R_aload_n (Dat dd_L_number 27 rfl) rfl rfl ?_
    refine R_iload (Dat dd_L_number 28 rfl) rfl ?_
    obtain ⟨g10, T⟩ := T
    obtain ⟨g11, T⟩ := T
    obtain ⟨g12, T⟩ := T
    obtain ⟨g13, T⟩ := T
    refine R_iaload (Dat dd_L_number 29 rfl) g10 g11 g12 g13 ?_
    obtain ⟨g14, T⟩ := T
    obtain ⟨g15, T⟩ := T
    refine R_ic_ge (Dat dd_L_number 30 rfl) rfl g14 g15 (fun c => ?_) (fun c => ?_)
    · replace T := T.1 c
      refine R_iconst (Dat dd_L_number 31 rfl) ?_
      refine R_goto (Dat dd_L_number 32 rfl) rfl ?_
      exact T
    · replace T := T.2 c
      refine R_iconst (Dat dd_L_number 33 rfl) ?_
      exact T
  · replace T := T.2 c
    refine R_iload_n (Dat dd_L_number 38 rfl) rfl ?_
    refine R_iload (Dat dd_L_number 39 rfl) rfl ?_
    refine R_iload_n (Dat dd_L_number 40 rfl) rfl ?_
    refine R_imul (Dat dd_L_number 41 rfl) ?_
    refine R_iadd (Dat dd_L_number 42 rfl) ?_
    refine R_istore_n (Dat dd_L_number 43 rfl) rfl rfl ?_
    refine R_iload_n (Dat dd_L_number 44 rfl) rfl ?_
    refine R_aload_n (Dat dd_L_number 45 rfl) rfl rfl ?_
    refine R_bipush (Dat dd_L_number 46 rfl) (a := 24) rfl ?_
    obtain ⟨g16, T⟩ := T
    obtain ⟨g17, T⟩ := T
    obtain ⟨g18, T⟩ := T
    refine R_iaload (Dat dd_L_number 47 rfl) g16 g17 (by decide) g18 ?_
    refine R_iload (Dat dd_L_number 48 rfl) rfl ?_
    refine R_isub (Dat dd_L_number 49 rfl) ?_
    refine R_imul (Dat dd_L_number 50 rfl) ?_
    refine R_istore_n (Dat dd_L_number 51 rfl) rfl rfl ?_
    refine R_iinc (Dat dd_L_number 52 rfl) rfl rfl rfl ?_
    refine R_goto (Dat dd_L_number 53 rfl) rfl ?_
    exact T
theorem t_L_number_53 {h : Hp} {P : Value → Hp → Prop} {a2 a3 a4 a6 s0 s1 : Int} {a0 a1 : Nat} {a5 : Value} (T : R 95 26 [.ref a0, .ref a1, .int (I a2), .int (I a3), .int (I a4), .int (I (s1 + s0)), .int (I (a6 + 1))] [] h P) : R 95 53 [.ref a0, .ref a1, .int (I a2), .int (I a3), .int (I a4), a5, .int (I a6)] [.int (I s0), .int (I s1)] h P := by
  refine R_iadd (Dat dd_L_number 34 rfl) ?_
  refine R_istore (Dat dd_L_number 35 rfl) rfl rfl ?_
  refine R_iinc (Dat dd_L_number 36 rfl) rfl rfl rfl ?_
  refine R_goto (Dat dd_L_number 37 rfl) rfl ?_
  exact T
def dl_L_open : List (Nat × Instr × Nat) := [(0, .iconst 1, 1), (1, .istore_n 3, 1), (2, .iconst 2, 1), (3, .istore 4, 2), (5, .iload 4, 2), (7, .aload_n 0, 1), (8, .bipush 24, 2), (10, .iaload, 1), (11, .if_icmp .gt 14, 3), (14, .iload_n 3, 1), (15, .iload 4, 2), (17, .imul, 1), (18, .istore_n 3, 1), (19, .iinc 4 1, 3), (22, .goto (-17), 3), (25, .iload_n 1, 1), (26, .istore 4, 2), (28, .iconst 0, 1), (29, .istore 5, 2), (31, .iconst 0, 1), (32, .istore 6, 2), (34, .iload 6, 2), (36, .aload_n 0, 1), (37, .bipush 24, 2), (39, .iaload, 1), (40, .if_icmp .ge 81, 3), (43, .iload_n 3, 1), (44, .aload_n 0, 1), (45, .bipush 24, 2), (47, .iaload, 1), (48, .iload 6, 2), (50, .isub, 1), (51, .idiv, 1), (52, .istore_n 3, 1), (53, .iconst 0, 1), (54, .istore 7, 2), (56, .iload 7, 2), (58, .aload_n 0, 1), (59, .bipush 24, 2), (61, .iaload, 1), (62, .if_icmp .ge 53, 3), (65, .iload 5, 2), (67, .iload 7, 2), (69, .ishr, 1), (70, .iconst 1, 1), (71, .iand, 1), (72, .iconst 1, 1), (73, .if_icmp .ne 6, 3), (76, .goto 33, 3), (79, .iload 4, 2), (81, .iload_n 3, 1), (82, .if_icmp .ge 21, 3), (85, .aload_n 2, 1), (86, .iload 6, 2), (88, .iload 7, 2), (90, .iastore, 1), (91, .iload 5, 2), (93, .iconst 1, 1), (94, .iload 7, 2), (96, .ishl, 1), (97, .ior, 1), (98, .istore 5, 2), (100, .goto 15, 3), (103, .iload 4, 2), (105, .iload_n 3, 1), (106, .isub, 1), (107, .istore 4, 2), (109, .iinc 7 1, 3), (112, .goto (-56), 3), (115, .iinc 6 1, 3), (118, .goto (-84), 3), (121, .return_, 1)]
theorem dd_L_open : Dall 96 dl_L_open = true := by decide +kernel
theorem t_L_open {h : Hp} {P : Value → Hp → Prop} {p1 : Int} {p0 p2 : Nat} (T : R 96 5 [.ref p0, .int (I p1), .ref p2, .int (I 1), .int (I 2), .retAddr 0, .retAddr 0, .retAddr 0] [] h P) : R 96 0 [.ref p0, .int (I p1), .ref p2, .retAddr 0, .retAddr 0, .retAddr 0, .retAddr 0, .retAddr 0] [] h P := by
  refine R_iconst (Dat dd_L_open 0 rfl) ?_
  refine R_istore_n (Dat dd_L_open 1 rfl) rfl rfl ?_
  refine R_iconst (Dat dd_L_open 2 rfl) ?_
  refine R_istore (Dat dd_L_open 3 rfl) rfl rfl ?_
  exact T
theorem t_L_open_5 {h : Hp} {P : Value → Hp → Prop} {a1 a3 a4 : Int} {a0 a2 : Nat} {a5 a6 a7 : Value} (T : (tg h a0 = 20 ∨ tg h a0 = 30) ∧ ((ln h a0 : Int) ≤ 2147483648) ∧ ((24 : Int) < ln h a0) ∧ (rng a4) ∧ (rng (iv h a0 24)) ∧ (((iv h a0 24) < a4 → R 96 34 [.ref a0, .int (I a1), .ref a2, .int (I a3), .int (I a1), .int (I 0), .int (I 0), a7] [] h P) ∧ (¬ (iv h a0 24) < a4 → R 96 5 [.ref a0, .int (I a1), .ref a2, .int (I (a3 * a4)), .int (I (a4 + 1)), a5, a6, a7] [] h P))) : R 96 5 [.ref a0, .int (I a1), .ref a2, .int (I a3), .int (I a4), a5, a6, a7] [] h P := by
  refine R_iload (Dat dd_L_open 4 rfl) rfl ?_
  refine R_aload_n (Dat dd_L_open 5 rfl) rfl rfl ?_
  refine R_bipush (Dat dd_L_open 6 rfl) (a := 24) rfl ?_
  obtain ⟨g1, T⟩ := T
  obtain ⟨g2, T⟩ := T
  obtain ⟨g3, T⟩ := T
  refine R_iaload (Dat dd_L_open 7 rfl) g1 g2 (by decide) g3 ?_
  obtain ⟨g4, T⟩ := T
  obtain ⟨g5, T⟩ := T
  refine R_ic_gt (Dat dd_L_open 8 rfl) rfl g4 g5 (fun c => ?_) (fun c => ?_)
  · replace T := T.1 c
    refine R_iload_n (Dat dd_L_open 15 rfl) rfl ?_
    refine R_istore (Dat dd_L_open 16 rfl) rfl rfl ?_
    refine R_iconst (Dat dd_L_open 17 rfl) ?_
    refine R_istore (Dat dd_L_open 18 rfl) rfl rfl ?_
    refine R_iconst (Dat dd_L_open 19 rfl) ?_
    refine R_istore (Dat dd_L_open 20 rfl) rfl rfl ?_
    exact T
  · replace T := T.2 c
    refine R_iload_n (Dat dd_L_open 9 rfl) rfl ?_
    refine R_iload (Dat dd_L_open 10 rfl) rfl ?_
    refine R_imul (Dat dd_L_open 11 rfl) ?_
    refine R_istore_n (Dat dd_L_open 12 rfl) rfl rfl ?_
    refine R_iinc (Dat dd_L_open 13 rfl) rfl rfl rfl ?_
    refine R_goto (Dat dd_L_open 14 rfl) rfl ?_
    exact T
theorem t_L_open_34 {h : Hp} {P : Value → Hp → Prop} {a3 a4 a5 a6 : Int} {a0 a2 : Nat} {a1 a7 : Value} (T : (tg h a0 = 20 ∨ tg h a0 = 30) ∧ ((ln h a0 : Int) ≤ 2147483648) ∧ ((24 : Int) < ln h a0) ∧ (rng a6) ∧ (rng (iv h a0 24)) ∧ ((a6 < (iv h a0 24) → (tg h a0 = 20 ∨ tg h a0 = 30) ∧ ((ln h a0 : Int) ≤ 2147483648) ∧ ((24 : Int) < ln h a0) ∧ (0 ≤ a3 ∧ a3 < 2147483648) ∧ (0 < ((iv h a0 24) - a6) ∧ ((iv h a0 24) - a6) < 2147483648) ∧ R 96 56 [.ref a0, a1, .ref a2, .int (I (a3 / ((iv h a0 24) - a6))), .int (I a4), .int (I a5), .int (I a6), .int (I 0)] [] h P) ∧ (¬ a6 < (iv h a0 24) → P .null h))) : R 96 34 [.ref a0, a1, .ref a2, .int (I a3), .int (I a4), .int (I a5), .int (I a6), a7] [] h P := by
  refine R_iload (Dat dd_L_open 21 rfl) rfl ?_
  refine R_aload_n (Dat dd_L_open 22 rfl) rfl rfl ?_
  refine R_bipush (Dat dd_L_open 23 rfl) (a := 24) rfl ?_
  obtain ⟨g1, T⟩ := T
  obtain ⟨g2, T⟩ := T
  obtain ⟨g3, T⟩ := T
  refine R_iaload (Dat dd_L_open 24 rfl) g1 g2 (by decide) g3 ?_
  obtain ⟨g4, T⟩ := T
  obtain ⟨g5, T⟩ := T
  refine R_ic_ge (Dat dd_L_open 25 rfl) rfl g4 g5 (fun c => ?_) (fun c => ?_)
  · replace T := T.1 c
    refine R_iload_n (Dat dd_L_open 26 rfl) rfl ?_
    refine R_aload_n (Dat dd_L_open 27 rfl) rfl rfl ?_
    refine R_bipush (Dat dd_L_open 28 rfl) (a := 24) rfl ?_
    obtain ⟨g6, T⟩ := T
    obtain ⟨g7, T⟩ := T
    obtain ⟨g8, T⟩ := T
    refine R_iaload (Dat dd_L_open 29 rfl) g6 g7 (by decide) g8 ?_
    refine R_iload (Dat dd_L_open 30 rfl) rfl ?_
    refine R_isub (Dat dd_L_open 31 rfl) ?_
    obtain ⟨g9, T⟩ := T
    obtain ⟨g10, T⟩ := T
    refine R_idiv (Dat dd_L_open 32 rfl) g9 g10 ?_
    refine R_istore_n (Dat dd_L_open 33 rfl) rfl rfl ?_
    refine R_iconst (Dat dd_L_open 34 rfl) ?_
    refine R_istore (Dat dd_L_open 35 rfl) rfl rfl ?_
    exact T
  · replace T := T.2 c
    exact R_return (Dat dd_L_open 71 rfl) rfl T
theorem t_L_open_56 {h : Hp} {P : Value → Hp → Prop} {a3 a4 a5 a6 a7 : Int} {a0 a2 : Nat} {a1 : Value} (T : (tg h a0 = 20 ∨ tg h a0 = 30) ∧ ((ln h a0 : Int) ≤ 2147483648) ∧ ((24 : Int) < ln h a0) ∧ (rng a7) ∧ (rng (iv h a0 24)) ∧ ((a7 < (iv h a0 24) → (rng (band (shr a5 a7) 1)) ∧ (((band (shr a5 a7) 1) = 1 → R 96 109 [.ref a0, a1, .ref a2, .int (I a3), .int (I a4), .int (I a5), .int (I a6), .int (I a7)] [] h P) ∧ (¬ (band (shr a5 a7) 1) = 1 → (rng a4) ∧ (rng a3) ∧ ((a4 < a3 → (tg h a2 = 20) ∧ ((ln h a2 : Int) ≤ 2147483648) ∧ (0 ≤ a6) ∧ (a6 < ln h a2) ∧ R 96 115 [.ref a0, a1, .ref a2, .int (I a3), .int (I a4), .int (I (bor a5 (shl 1 a7))), .int (I a6), .int (I a7)] [] (setI h a2 a6 (wr a7)) P) ∧ (¬ a4 < a3 → R 96 109 [.ref a0, a1, .ref a2, .int (I a3), .int (I (a4 - a3)), .int (I a5), .int (I a6), .int (I a7)] [] h P))))) ∧ (¬ a7 < (iv h a0 24) → R 96 115 [.ref a0, a1, .ref a2, .int (I a3), .int (I a4), .int (I a5), .int (I a6), .int (I a7)] [] h P))) : R 96 56 [.ref a0, a1, .ref a2, .int (I a3), .int (I a4), .int (I a5), .int (I a6), .int (I a7)] [] h P := by
  refine R_iload (Dat dd_L_open 36 rfl) rfl ?_
  refine R_aload_n (Dat dd_L_open 37 rfl) rfl rfl ?_
  refine R_bipush (Dat dd_L_open 38 rfl) (a := 24) rfl ?_
  obtain ⟨g1, T⟩ := T
  obtain ⟨g2, T⟩ := T
  obtain ⟨g3, T⟩ := T
  refine R_iaload (Dat dd_L_open 39 rfl) g1 g2 (by decide) g3 ?_
  obtain ⟨g4, T⟩ := T
  obtain ⟨g5, T⟩ := T
  refine R_ic_ge (Dat dd_L_open 40 rfl) rfl g4 g5 (fun c => ?_) (fun c => ?_)
  · replace T := T.1 c
    refine R_iload (Dat dd_L_open 41 rfl) rfl ?_
    refine R_iload (Dat dd_L_open 42 rfl) rfl ?_
    refine R_ishr (Dat dd_L_open 43 rfl) ?_
    refine R_iconst (Dat dd_L_open 44 rfl) ?_
    refine R_iand (Dat dd_L_open 45 rfl) ?_
    refine R_iconst (Dat dd_L_open 46 rfl) ?_
    obtain ⟨g6, T⟩ := T
    refine R_ic_ne (Dat dd_L_open 47 rfl) rfl g6 (by decide) (fun c => ?_) (fun c => ?_)
    · replace T := T.1 c
      refine R_goto (Dat dd_L_open 48 rfl) rfl ?_
      exact T
    · replace T := T.2 c
      refine R_iload (Dat dd_L_open 49 rfl) rfl ?_
      refine R_iload_n (Dat dd_L_open 50 rfl) rfl ?_
      obtain ⟨g7, T⟩ := T
      obtain ⟨g8, T⟩ := T
      refine R_ic_ge (Dat dd_L_open 51 rfl) rfl g7 g8 (fun c => ?_) (fun c => ?_)
      · replace T := T.1 c
        refine R_aload_n (Dat dd_L_open 52 rfl) rfl rfl ?_
        refine R_iload (Dat dd_L_open 53 rfl) rfl ?_
        refine R_iload (Dat dd_L_open 54 rfl) rfl ?_
        obtain ⟨g9, T⟩ := T
        obtain ⟨g10, T⟩ := T
        obtain ⟨g11, T⟩ := T
        obtain ⟨g12, T⟩ := T
        refine R_iastore (Dat dd_L_open 55 rfl) g9 g10 g11 g12 (v := wr a7) rfl ?_
        refine R_iload (Dat dd_L_open 56 rfl) rfl ?_
        refine R_iconst (Dat dd_L_open 57 rfl) ?_
        refine R_iload (Dat dd_L_open 58 rfl) rfl ?_
        refine R_ishl (Dat dd_L_open 59 rfl) ?_
        refine R_ior (Dat dd_L_open 60 rfl) ?_
        refine R_istore (Dat dd_L_open 61 rfl) rfl rfl ?_
        refine R_goto (Dat dd_L_open 62 rfl) rfl ?_
        exact T
      · replace T := T.2 c
        refine R_iload (Dat dd_L_open 63 rfl) rfl ?_
        refine R_iload_n (Dat dd_L_open 64 rfl) rfl ?_
        refine R_isub (Dat dd_L_open 65 rfl) ?_
        refine R_istore (Dat dd_L_open 66 rfl) rfl rfl ?_
        exact T
  · replace T := T.2 c
    exact T
theorem t_L_open_109 {h : Hp} {P : Value → Hp → Prop} {a3 a4 a5 a6 a7 : Int} {a0 a2 : Nat} {a1 : Value} (T : R 96 56 [.ref a0, a1, .ref a2, .int (I a3), .int (I a4), .int (I a5), .int (I a6), .int (I (a7 + 1))] [] h P) : R 96 109 [.ref a0, a1, .ref a2, .int (I a3), .int (I a4), .int (I a5), .int (I a6), .int (I a7)] [] h P := by
  refine R_iinc (Dat dd_L_open 67 rfl) rfl rfl rfl ?_
  refine R_goto (Dat dd_L_open 68 rfl) rfl ?_
  exact T
theorem t_L_open_115 {h : Hp} {P : Value → Hp → Prop} {a3 a4 a5 a6 : Int} {a0 a2 : Nat} {a1 a7 : Value} (T : R 96 34 [.ref a0, a1, .ref a2, .int (I a3), .int (I a4), .int (I a5), .int (I (a6 + 1)), a7] [] h P) : R 96 115 [.ref a0, a1, .ref a2, .int (I a3), .int (I a4), .int (I a5), .int (I a6), a7] [] h P := by
  refine R_iinc (Dat dd_L_open 69 rfl) rfl rfl rfl ?_
  refine R_goto (Dat dd_L_open 70 rfl) rfl ?_
  exact T
def dl_L_soon : List (Nat × Instr × Nat) := [(0, .bipush 7, 2), (2, .newarray .int, 2), (4, .astore 6, 2), (6, .aload_n 0, 1), (7, .iload 4, 2), (9, .aload 6, 2), (11, .invokestatic 38, 3), (14, .iconst 1, 1), (15, .istore 7, 2), (17, .iconst 2, 1), (18, .istore 8, 2), (20, .iload 8, 2), (22, .aload_n 0, 1), (23, .bipush 24, 2), (25, .iaload, 1), (26, .if_icmp .gt 16, 3), (29, .iload 7, 2), (31, .iload 8, 2), (33, .imul, 1), (34, .istore 7, 2), (36, .iinc 8 1, 3), (39, .goto (-19), 3), (42, .iconst 0, 1), (43, .istore 8, 2), (45, .iload 8, 2), (47, .iload 7, 2), (49, .if_icmp .gt 69, 3), (52, .aload 6, 2), (54, .aload_n 0, 1), (55, .bipush 24, 2), (57, .iaload, 1), (58, .iconst 1, 1), (59, .isub, 1), (60, .iaload, 1), (61, .iload_n 3, 1), (62, .if_icmp .ne 6, 3), (65, .iload 8, 2), (67, .ireturn, 1), (68, .iload 8, 2), (70, .bipush 60, 2), (72, .if_icmp .le 29, 3), (75, .iload 8, 2), (77, .bipush 8, 2), (79, .irem, 1), (80, .ifCond .ne 21, 3), (83, .aload_n 0, 1), (84, .aload_n 1, 1), (85, .iload_n 2, 1), (86, .aload 6, 2), (88, .iload_n 3, 1), (89, .iload 5, 2), (91, .invokestatic 42, 3), (94, .ifCond .eq 7, 3), (97, .sipush 9999, 3), (100, .ireturn, 1), (101, .aload_n 0, 1), (102, .aload_n 1, 1), (103, .iload_n 2, 1), (104, .aload 6, 2), (106, .iload 5, 2), (108, .invokestatic 46, 3), (111, .pop, 1), (112, .iinc 8 1, 3), (115, .goto (-70), 3), (118, .sipush 9999, 3), (121, .ireturn, 1)]
theorem dd_L_soon : Dall 97 dl_L_soon = true := by decide +kernel
theorem t_L_soon {h : Hp} {P : Value → Hp → Prop} {p2 p3 p4 p5 : Int} {p0 p1 : Nat} (T : (tg h (10000 + ck h) = 0) ∧ R 96 0 [.ref p0, .int (I p4), .ref (10000 + ck h), .retAddr 0, .retAddr 0, .retAddr 0, .retAddr 0, .retAddr 0] [] (mk h (10000 + ck h) 20 (7 : Int).toNat (7 : Int).toNat) (fun _ h2 => R 97 14 [.ref p0, .ref p1, .int (I p2), .int (I p3), .int (I p4), .int (I p5), .ref (10000 + ck h), .retAddr 0, .retAddr 0] [] h2 P)) : R 97 0 [.ref p0, .ref p1, .int (I p2), .int (I p3), .int (I p4), .int (I p5), .retAddr 0, .retAddr 0, .retAddr 0] [] h P := by
  refine R_bipush (Dat dd_L_soon 0 rfl) (a := 7) rfl ?_
  obtain ⟨g1, T⟩ := T
  refine R_newa (Dat dd_L_soon 1 rfl) rfl (q := 10000 + ck h) rfl g1 (Or.inr (Nat.le_add_right _ _)) (by decide) (by decide) ?_
  refine R_astore (Dat dd_L_soon 2 rfl) rfl rfl rfl ?_
  refine R_aload_n (Dat dd_L_soon 3 rfl) rfl rfl ?_
  refine R_iload (Dat dd_L_soon 4 rfl) rfl ?_
  refine R_aload (Dat dd_L_soon 5 rfl) rfl rfl ?_
  exact R_call0 (Dat dd_L_soon 6 rfl) rfl rfl rfl rfl rfl rfl T
theorem t_L_soon_14 {h : Hp} {P : Value → Hp → Prop} {a2 a3 a5 : Int} {a0 a1 a6 : Nat} {a4 a7 a8 : Value} (T : R 97 20 [.ref a0, .ref a1, .int (I a2), .int (I a3), a4, .int (I a5), .ref a6, .int (I 1), .int (I 2)] [] h P) : R 97 14 [.ref a0, .ref a1, .int (I a2), .int (I a3), a4, .int (I a5), .ref a6, a7, a8] [] h P := by
  refine R_iconst (Dat dd_L_soon 7 rfl) ?_
  refine R_istore (Dat dd_L_soon 8 rfl) rfl rfl ?_
  refine R_iconst (Dat dd_L_soon 9 rfl) ?_
  refine R_istore (Dat dd_L_soon 10 rfl) rfl rfl ?_
  exact T
theorem t_L_soon_20 {h : Hp} {P : Value → Hp → Prop} {a2 a3 a5 a7 a8 : Int} {a0 a1 a6 : Nat} {a4 : Value} (T : (tg h a0 = 20 ∨ tg h a0 = 30) ∧ ((ln h a0 : Int) ≤ 2147483648) ∧ ((24 : Int) < ln h a0) ∧ (rng a8) ∧ (rng (iv h a0 24)) ∧ (((iv h a0 24) < a8 → R 97 45 [.ref a0, .ref a1, .int (I a2), .int (I a3), a4, .int (I a5), .ref a6, .int (I a7), .int (I 0)] [] h P) ∧ (¬ (iv h a0 24) < a8 → R 97 20 [.ref a0, .ref a1, .int (I a2), .int (I a3), a4, .int (I a5), .ref a6, .int (I (a7 * a8)), .int (I (a8 + 1))] [] h P))) : R 97 20 [.ref a0, .ref a1, .int (I a2), .int (I a3), a4, .int (I a5), .ref a6, .int (I a7), .int (I a8)] [] h P := by
  refine R_iload (Dat dd_L_soon 11 rfl) rfl ?_
  refine R_aload_n (Dat dd_L_soon 12 rfl) rfl rfl ?_
  refine R_bipush (Dat dd_L_soon 13 rfl) (a := 24) rfl ?_
  obtain ⟨g1, T⟩ := T
  obtain ⟨g2, T⟩ := T
  obtain ⟨g3, T⟩ := T
  refine R_iaload (Dat dd_L_soon 14 rfl) g1 g2 (by decide) g3 ?_
  obtain ⟨g4, T⟩ := T
  obtain ⟨g5, T⟩ := T
  refine R_ic_gt (Dat dd_L_soon 15 rfl) rfl g4 g5 (fun c => ?_) (fun c => ?_)
  · replace T := T.1 c
    refine R_iconst (Dat dd_L_soon 22 rfl) ?_
    refine R_istore (Dat dd_L_soon 23 rfl) rfl rfl ?_
    exact T
  · replace T := T.2 c
    refine R_iload (Dat dd_L_soon 16 rfl) rfl ?_
    refine R_iload (Dat dd_L_soon 17 rfl) rfl ?_
    refine R_imul (Dat dd_L_soon 18 rfl) ?_
    refine R_istore (Dat dd_L_soon 19 rfl) rfl rfl ?_
    refine R_iinc (Dat dd_L_soon 20 rfl) rfl rfl rfl ?_
    refine R_goto (Dat dd_L_soon 21 rfl) rfl ?_
    exact T
theorem t_L_soon_45 {h : Hp} {P : Value → Hp → Prop} {a2 a3 a5 a7 a8 : Int} {a0 a1 a6 : Nat} {a4 : Value} (T : (rng a8) ∧ (rng a7) ∧ ((a7 < a8 → P (.int (I 9999)) h) ∧ (¬ a7 < a8 → (tg h a0 = 20 ∨ tg h a0 = 30) ∧ ((ln h a0 : Int) ≤ 2147483648) ∧ ((24 : Int) < ln h a0) ∧ (tg h a6 = 20 ∨ tg h a6 = 30) ∧ ((ln h a6 : Int) ≤ 2147483648) ∧ (0 ≤ ((iv h a0 24) - 1)) ∧ (((iv h a0 24) - 1) < ln h a6) ∧ (rng (iv h a6 ((iv h a0 24) - 1))) ∧ (rng a3) ∧ (((iv h a6 ((iv h a0 24) - 1)) = a3 → P (.int (I a8)) h) ∧ (¬ (iv h a6 ((iv h a0 24) - 1)) = a3 → (rng a8) ∧ (((60 : Int) < a8 → (0 ≤ a8 ∧ a8 < 2147483648) ∧ (rng (a8 % 8)) ∧ (((a8 % 8) = 0 → (okg 97 98 [.ref a0, .ref a1, .int (I a2), .int (I a3), a4, .int (I a5), .ref a6, .int (I a7), .int (I a8)] [] [.ref a0, .ref a1, .int (I a2), .ref a6, .int (I a3), .int (I a5)] = true) ∧ R 98 0 [.ref a0, .ref a1, .int (I a2), .ref a6, .int (I a3), .int (I a5), .retAddr 0, .retAddr 0] [] h (fun v h2 => R 97 94 [.ref a0, .ref a1, .int (I a2), .int (I a3), a4, .int (I a5), .ref a6, .int (I a7), .int (I a8)] (v :: []) h2 P)) ∧ (¬ (a8 % 8) = 0 → R 97 101 [.ref a0, .ref a1, .int (I a2), .int (I a3), a4, .int (I a5), .ref a6, .int (I a7), .int (I a8)] [] h P))) ∧ (¬ (60 : Int) < a8 → R 97 101 [.ref a0, .ref a1, .int (I a2), .int (I a3), a4, .int (I a5), .ref a6, .int (I a7), .int (I a8)] [] h P))))))) : R 97 45 [.ref a0, .ref a1, .int (I a2), .int (I a3), a4, .int (I a5), .ref a6, .int (I a7), .int (I a8)] [] h P := by
  refine R_iload (Dat dd_L_soon 24 rfl) rfl ?_
  refine R_iload (Dat dd_L_soon 25 rfl) rfl ?_
  obtain ⟨g1, T⟩ := T
  obtain ⟨g2, T⟩ := T
  refine R_ic_gt (Dat dd_L_soon 26 rfl) rfl g1 g2 (fun c => ?_) (fun c => ?_)
  · replace T := T.1 c
    refine R_sipush (Dat dd_L_soon 64 rfl) (a := 9999) rfl ?_
    exact R_ireturn (Dat dd_L_soon 65 rfl) rfl T
  · replace T := T.2 c
    refine R_aload (Dat dd_L_soon 27 rfl) rfl rfl ?_
    refine R_aload_n (Dat dd_L_soon 28 rfl) rfl rfl ?_
    refine R_bipush (Dat dd_L_soon 29 rfl) (a := 24) rfl ?_
    obtain ⟨g3, T⟩ := T
    obtain ⟨g4, T⟩ := T
    obtain ⟨g5, T⟩ := T
    refine R_iaload (Dat dd_L_soon 30 rfl) g3 g4 (by decide) g5 ?_
    refine R_iconst (Dat dd_L_soon 31 rfl) ?_
    refine R_isub (Dat dd_L_soon 32 rfl) ?_
    obtain ⟨g6, T⟩ := T
    obtain ⟨g7, T⟩ := T
    obtain ⟨g8, T⟩ := T
    obtain ⟨g9, T⟩ := T
    refine R_iaload (Dat dd_L_soon 33 rfl) g6 g7 g8 g9 ?_
    refine R_iload_n (Dat dd_L_soon 34 rfl) rfl ?_
    obtain ⟨g10, T⟩ := T
    obtain ⟨g11, T⟩ := T
    refine R_ic_ne (Dat dd_L_soon 35 rfl) rfl g10 g11 (fun c => ?_) (fun c => ?_)
    · replace T := T.1 c
      refine R_iload (Dat dd_L_soon 36 rfl) rfl ?_
      exact R_ireturn (Dat dd_L_soon 37 rfl) rfl T
    · replace T := T.2 c
      refine R_iload (Dat dd_L_soon 38 rfl) rfl ?_
      refine R_bipush (Dat dd_L_soon 39 rfl) (a := 60) rfl ?_
      obtain ⟨g12, T⟩ := T
      refine R_ic_le (Dat dd_L_soon 40 rfl) rfl g12 (by decide) (fun c => ?_) (fun c => ?_)
      · replace T := T.1 c
        refine R_iload (Dat dd_L_soon 41 rfl) rfl ?_
        refine R_bipush (Dat dd_L_soon 42 rfl) (a := 8) rfl ?_
        obtain ⟨g13, T⟩ := T
        refine R_irem (Dat dd_L_soon 43 rfl) g13 (by decide) ?_
        obtain ⟨g14, T⟩ := T
        refine R_if_ne (Dat dd_L_soon 44 rfl) rfl g14  (fun c => ?_) (fun c => ?_)
        · replace T := T.1 c
          refine R_aload_n (Dat dd_L_soon 45 rfl) rfl rfl ?_
          refine R_aload_n (Dat dd_L_soon 46 rfl) rfl rfl ?_
          refine R_iload_n (Dat dd_L_soon 47 rfl) rfl ?_
          refine R_aload (Dat dd_L_soon 48 rfl) rfl rfl ?_
          refine R_iload_n (Dat dd_L_soon 49 rfl) rfl ?_
          refine R_iload (Dat dd_L_soon 50 rfl) rfl ?_
          obtain ⟨g15, T⟩ := T
          exact R_call0 (Dat dd_L_soon 51 rfl) rfl rfl rfl rfl g15 rfl T
        · replace T := T.2 c
          exact T
      · replace T := T.2 c
        exact T
theorem t_L_soon_94 {h : Hp} {P : Value → Hp → Prop} {a2 a3 a5 a7 a8 s0 : Int} {a0 a1 a6 : Nat} {a4 : Value} (T : (rng s0) ∧ ((s0 = 0 → R 97 101 [.ref a0, .ref a1, .int (I a2), .int (I a3), a4, .int (I a5), .ref a6, .int (I a7), .int (I a8)] [] h P) ∧ (¬ s0 = 0 → P (.int (I 9999)) h))) : R 97 94 [.ref a0, .ref a1, .int (I a2), .int (I a3), a4, .int (I a5), .ref a6, .int (I a7), .int (I a8)] [.int (I s0)] h P := by
  obtain ⟨g1, T⟩ := T
  refine R_if_eq (Dat dd_L_soon 52 rfl) rfl g1  (fun c => ?_) (fun c => ?_)
  · replace T := T.1 c
    exact T
  · replace T := T.2 c
    refine R_sipush (Dat dd_L_soon 53 rfl) (a := 9999) rfl ?_
    exact R_ireturn (Dat dd_L_soon 54 rfl) rfl T
theorem t_L_soon_101 {h : Hp} {P : Value → Hp → Prop} {a2 a3 a5 a7 a8 : Int} {a0 a1 a6 : Nat} {a4 : Value} (T : R 94 0 [.ref a0, .ref a1, .int (I a2), .ref a6, .int (I a5), .retAddr 0, .retAddr 0, .retAddr 0, .retAddr 0, .retAddr 0] [] h (fun v h2 => R 97 111 [.ref a0, .ref a1, .int (I a2), .int (I a3), a4, .int (I a5), .ref a6, .int (I a7), .int (I a8)] (v :: []) h2 P)) : R 97 101 [.ref a0, .ref a1, .int (I a2), .int (I a3), a4, .int (I a5), .ref a6, .int (I a7), .int (I a8)] [] h P := by
  refine R_aload_n (Dat dd_L_soon 55 rfl) rfl rfl ?_
  refine R_aload_n (Dat dd_L_soon 56 rfl) rfl rfl ?_
  refine R_iload_n (Dat dd_L_soon 57 rfl) rfl ?_
  refine R_aload (Dat dd_L_soon 58 rfl) rfl rfl ?_
  refine R_iload (Dat dd_L_soon 59 rfl) rfl ?_
  exact R_call0 (Dat dd_L_soon 60 rfl) rfl rfl rfl rfl rfl rfl T
theorem t_L_soon_111 {h : Hp} {P : Value → Hp → Prop} {a2 a3 a5 a7 a8 s0 : Int} {a0 a1 a6 : Nat} {a4 : Value} (T : R 97 45 [.ref a0, .ref a1, .int (I a2), .int (I a3), a4, .int (I a5), .ref a6, .int (I a7), .int (I (a8 + 1))] [] h P) : R 97 111 [.ref a0, .ref a1, .int (I a2), .int (I a3), a4, .int (I a5), .ref a6, .int (I a7), .int (I a8)] [.int (I s0)] h P := by
  refine R_pop (Dat dd_L_soon 61 rfl) rfl ?_
  refine R_iinc (Dat dd_L_soon 62 rfl) rfl rfl rfl ?_
  refine R_goto (Dat dd_L_soon 63 rfl) rfl ?_
  exact T
def dl_L_isRound : List (Nat × Instr × Nat) := [(0, .bipush 7, 2), (2, .newarray .int, 2), (4, .astore 6, 2), (6, .iconst 0, 1), (7, .istore 7, 2), (9, .iload 7, 2), (11, .bipush 7, 2), (13, .if_icmp .ge 18, 3), (16, .aload 6, 2), (18, .iload 7, 2), (20, .aload_n 3, 1), (21, .iload 7, 2), (23, .iaload, 1), (24, .iastore, 1), (25, .iinc 7 1, 3), (28, .goto (-19), 3), (31, .iconst 0, 1), (32, .istore 7, 2), (34, .iload 7, 2), (36, .bipush 40, 2), (38, .if_icmp .ge 52, 3), (41, .aload_n 0, 1), (42, .aload_n 1, 1), (43, .iload_n 2, 1), (44, .aload 6, 2), (46, .iload 5, 2), (48, .invokestatic 46, 3), (51, .pop, 1), (52, .aload 6, 2), (54, .aload_n 0, 1), (55, .bipush 24, 2), (57, .iaload, 1), (58, .iconst 1, 1), (59, .isub, 1), (60, .iaload, 1), (61, .iload 4, 2), (63, .if_icmp .ne 5, 3), (66, .iconst 0, 1), (67, .ireturn, 1), (68, .aload_n 0, 1), (69, .aload 6, 2), (71, .invokestatic 50, 3), (74, .aload_n 0, 1), (75, .aload_n 3, 1), (76, .invokestatic 50, 3), (79, .if_icmp .ne 5, 3), (82, .iconst 1, 1), (83, .ireturn, 1), (84, .iinc 7 1, 3), (87, .goto (-53), 3), (90, .iconst 0, 1), (91, .ireturn, 1)]
theorem dd_L_isRound : Dall 98 dl_L_isRound = true := by decide +kernel
theorem t_L_isRound {h : Hp} {P : Value → Hp → Prop} {p2 p4 p5 : Int} {p0 p1 p3 : Nat} (T : (tg h (10000 + ck h) = 0) ∧ R 98 9 [.ref p0, .ref p1, .int (I p2), .ref p3, .int (I p4), .int (I p5), .ref (10000 + ck h), .int (I 0)] [] (mk h (10000 + ck h) 20 (7 : Int).toNat (7 : Int).toNat) P) : R 98 0 [.ref p0, .ref p1, .int (I p2), .ref p3, .int (I p4), .int (I p5), .retAddr 0, .retAddr 0] [] h P := by
  refine R_bipush (Dat dd_L_isRound 0 rfl) (a := 7) rfl ?_
  obtain ⟨g1, T⟩ := T
  refine R_newa (Dat dd_L_isRound 1 rfl) rfl (q := 10000 + ck h) rfl g1 (Or.inr (Nat.le_add_right _ _)) (by decide) (by decide) ?_
  refine R_astore (Dat dd_L_isRound 2 rfl) rfl rfl rfl ?_
  refine R_iconst (Dat dd_L_isRound 3 rfl) ?_
  refine R_istore (Dat dd_L_isRound 4 rfl) rfl rfl ?_
  exact T
theorem t_L_isRound_9 {h : Hp} {P : Value → Hp → Prop} {a2 a4 a5 a7 : Int} {a0 a1 a3 a6 : Nat} (T : (rng a7) ∧ ((a7 < 7 → (tg h a3 = 20 ∨ tg h a3 = 30) ∧ ((ln h a3 : Int) ≤ 2147483648) ∧ (0 ≤ a7) ∧ (a7 < ln h a3) ∧ (tg h a6 = 20) ∧ ((ln h a6 : Int) ≤ 2147483648) ∧ (0 ≤ a7) ∧ (a7 < ln h a6) ∧ R 98 9 [.ref a0, .ref a1, .int (I a2), .ref a3, .int (I a4), .int (I a5), .ref a6, .int (I (a7 + 1))] [] (setI h a6 a7 (wr (iv h a3 a7))) P) ∧ (¬ a7 < 7 → R 98 34 [.ref a0, .ref a1, .int (I a2), .ref a3, .int (I a4), .int (I a5), .ref a6, .int (I 0)] [] h P))) : R 98 9 [.ref a0, .ref a1, .int (I a2), .ref a3, .int (I a4), .int (I a5), .ref a6, .int (I a7)] [] h P := by
  refine R_iload (Dat dd_L_isRound 5 rfl) rfl ?_
  refine R_bipush (Dat dd_L_isRound 6 rfl) (a := 7) rfl ?_
  obtain ⟨g1, T⟩ := T
  refine R_ic_ge (Dat dd_L_isRound 7 rfl) rfl g1 (by decide) (fun c => ?_) (fun c => ?_)
  · replace T := T.1 c
    refine R_aload (Dat dd_L_isRound 8 rfl) rfl rfl ?_
    refine R_iload (Dat dd_L_isRound 9 rfl) rfl ?_
    refine R_aload_n (Dat dd_L_isRound 10 rfl) rfl rfl ?_
    refine R_iload (Dat dd_L_isRound 11 rfl) rfl ?_
    obtain ⟨g2, T⟩ := T
    obtain ⟨g3, T⟩ := T
    obtain ⟨g4, T⟩ := T
    obtain ⟨g5, T⟩ := T
    refine R_iaload (Dat dd_L_isRound 12 rfl) g2 g3 g4 g5 ?_
    obtain ⟨g6, T⟩ := T
    obtain ⟨g7, T⟩ := T
    obtain ⟨g8, T⟩ := T
    obtain ⟨g9, T⟩ := T
    refine R_iastore (Dat dd_L_isRound 13 rfl) g6 g7 g8 g9 (v := wr (iv h a3 a7)) rfl ?_
    refine R_iinc (Dat dd_L_isRound 14 rfl) rfl rfl rfl ?_
    refine R_goto (Dat dd_L_isRound 15 rfl) rfl ?_
    exact T
  · replace T := T.2 c
    refine R_iconst (Dat dd_L_isRound 16 rfl) ?_
    refine R_istore (Dat dd_L_isRound 17 rfl) rfl rfl ?_
    exact T
theorem t_L_isRound_34 {h : Hp} {P : Value → Hp → Prop} {a2 a4 a5 a7 : Int} {a0 a1 a3 a6 : Nat} (T : (rng a7) ∧ ((a7 < 40 → R 94 0 [.ref a0, .ref a1, .int (I a2), .ref a6, .int (I a5), .retAddr 0, .retAddr 0, .retAddr 0, .retAddr 0, .retAddr 0] [] h (fun v h2 => R 98 51 [.ref a0, .ref a1, .int (I a2), .ref a3, .int (I a4), .int (I a5), .ref a6, .int (I a7)] (v :: []) h2 P)) ∧ (¬ a7 < 40 → P (.int (I 0)) h))) : R 98 34 [.ref a0, .ref a1, .int (I a2), .ref a3, .int (I a4), .int (I a5), .ref a6, .int (I a7)] [] h P := by
  refine R_iload (Dat dd_L_isRound 18 rfl) rfl ?_
  refine R_bipush (Dat dd_L_isRound 19 rfl) (a := 40) rfl ?_
  obtain ⟨g1, T⟩ := T
  refine R_ic_ge (Dat dd_L_isRound 20 rfl) rfl g1 (by decide) (fun c => ?_) (fun c => ?_)
  · replace T := T.1 c
    refine R_aload_n (Dat dd_L_isRound 21 rfl) rfl rfl ?_
    refine R_aload_n (Dat dd_L_isRound 22 rfl) rfl rfl ?_
    refine R_iload_n (Dat dd_L_isRound 23 rfl) rfl ?_
    refine R_aload (Dat dd_L_isRound 24 rfl) rfl rfl ?_
    refine R_iload (Dat dd_L_isRound 25 rfl) rfl ?_
    exact R_call0 (Dat dd_L_isRound 26 rfl) rfl rfl rfl rfl rfl rfl T
  · replace T := T.2 c
    refine R_iconst (Dat dd_L_isRound 50 rfl) ?_
    exact R_ireturn (Dat dd_L_isRound 51 rfl) rfl T
theorem t_L_isRound_51 {h : Hp} {P : Value → Hp → Prop} {a2 a4 a5 a7 s0 : Int} {a0 a1 a3 a6 : Nat} (T : (tg h a0 = 20 ∨ tg h a0 = 30) ∧ ((ln h a0 : Int) ≤ 2147483648) ∧ ((24 : Int) < ln h a0) ∧ (tg h a6 = 20 ∨ tg h a6 = 30) ∧ ((ln h a6 : Int) ≤ 2147483648) ∧ (0 ≤ ((iv h a0 24) - 1)) ∧ (((iv h a0 24) - 1) < ln h a6) ∧ (rng (iv h a6 ((iv h a0 24) - 1))) ∧ (rng a4) ∧ (((iv h a6 ((iv h a0 24) - 1)) = a4 → P (.int (I 0)) h) ∧ (¬ (iv h a6 ((iv h a0 24) - 1)) = a4 → R 95 0 [.ref a0, .ref a6, .retAddr 0, .retAddr 0, .retAddr 0, .retAddr 0, .retAddr 0] [] h (fun v h2 => R 98 74 [.ref a0, .ref a1, .int (I a2), .ref a3, .int (I a4), .int (I a5), .ref a6, .int (I a7)] (v :: []) h2 P)))) : R 98 51 [.ref a0, .ref a1, .int (I a2), .ref a3, .int (I a4), .int (I a5), .ref a6, .int (I a7)] [.int (I s0)] h P := by
  refine R_pop (Dat dd_L_isRound 27 rfl) rfl ?_
  refine R_aload (Dat dd_L_isRound 28 rfl) rfl rfl ?_
  refine R_aload_n (Dat dd_L_isRound 29 rfl) rfl rfl ?_
  refine R_bipush (Dat dd_L_isRound 30 rfl) (a := 24) rfl ?_
  obtain ⟨g1, T⟩ := T
  obtain ⟨g2, T⟩ := T
  obtain ⟨g3, T⟩ := T
  refine R_iaload (Dat dd_L_isRound 31 rfl) g1 g2 (by decide) g3 ?_
  refine R_iconst (Dat dd_L_isRound 32 rfl) ?_
  refine R_isub (Dat dd_L_isRound 33 rfl) ?_
  obtain ⟨g4, T⟩ := T
  obtain ⟨g5, T⟩ := T
  obtain ⟨g6, T⟩ := T
  obtain ⟨g7, T⟩ := T
  refine R_iaload (Dat dd_L_isRound 34 rfl) g4 g5 g6 g7 ?_
  refine R_iload (Dat dd_L_isRound 35 rfl) rfl ?_
  obtain ⟨g8, T⟩ := T
  obtain ⟨g9, T⟩ := T
  refine R_ic_ne (Dat dd_L_isRound 36 rfl) rfl g8 g9 (fun c => ?_) (fun c => ?_)
  · replace T := T.1 c
    refine R_iconst (Dat dd_L_isRound 37 rfl) ?_
    exact R_ireturn (Dat dd_L_isRound 38 rfl) rfl T
  · replace T := T.2 c
    refine R_aload_n (Dat dd_L_isRound 39 rfl) rfl rfl ?_
    refine R_aload (Dat dd_L_isRound 40 rfl) rfl rfl ?_
    exact R_call0 (Dat dd_L_isRound 41 rfl) rfl rfl rfl rfl rfl rfl T
theorem t_L_isRound_74 {h : Hp} {P : Value → Hp → Prop} {a2 a4 a5 a7 s0 : Int} {a0 a1 a3 a6 : Nat} (T : R 95 0 [.ref a0, .ref a3, .retAddr 0, .retAddr 0, .retAddr 0, .retAddr 0, .retAddr 0] [] h (fun v h2 => R 98 79 [.ref a0, .ref a1, .int (I a2), .ref a3, .int (I a4), .int (I a5), .ref a6, .int (I a7)] (v :: [.int (I s0)]) h2 P)) : R 98 74 [.ref a0, .ref a1, .int (I a2), .ref a3, .int (I a4), .int (I a5), .ref a6, .int (I a7)] [.int (I s0)] h P := by
  refine R_aload_n (Dat dd_L_isRound 42 rfl) rfl rfl ?_
  refine R_aload_n (Dat dd_L_isRound 43 rfl) rfl rfl ?_
  exact R_call0 (Dat dd_L_isRound 44 rfl) rfl rfl rfl rfl rfl rfl T
theorem t_L_isRound_79 {h : Hp} {P : Value → Hp → Prop} {a2 a4 a5 a7 s0 s1 : Int} {a0 a1 a3 a6 : Nat} (T : (rng s1) ∧ (rng s0) ∧ ((s1 = s0 → P (.int (I 1)) h) ∧ (¬ s1 = s0 → R 98 34 [.ref a0, .ref a1, .int (I a2), .ref a3, .int (I a4), .int (I a5), .ref a6, .int (I (a7 + 1))] [] h P))) : R 98 79 [.ref a0, .ref a1, .int (I a2), .ref a3, .int (I a4), .int (I a5), .ref a6, .int (I a7)] [.int (I s0), .int (I s1)] h P := by
  obtain ⟨g1, T⟩ := T
  obtain ⟨g2, T⟩ := T
  refine R_ic_ne (Dat dd_L_isRound 45 rfl) rfl g1 g2 (fun c => ?_) (fun c => ?_)
  · replace T := T.1 c
    refine R_iconst (Dat dd_L_isRound 46 rfl) ?_
    exact R_ireturn (Dat dd_L_isRound 47 rfl) rfl T
  · replace T := T.2 c
    refine R_iinc (Dat dd_L_isRound 48 rfl) rfl rfl rfl ?_
    refine R_goto (Dat dd_L_isRound 49 rfl) rfl ?_
    exact T
def dl_L_law_c0 : List (Nat × Instr × Nat) := [(0, .new 20, 3), (3, .dup, 1), (4, .invokespecial 54, 3), (7, .astore_n 1, 1), (8, .bipush 25, 2), (10, .newarray .int, 2), (12, .astore_n 2, 1), (13, .aload_n 1, 1), (14, .aload_n 0, 1), (15, .iconst 0, 1), (16, .bipush 6, 2), (18, .aload_n 2, 1), (19, .invokestatic 55, 3), (22, .istore_n 3, 1), (23, .iload_n 3, 1), (24, .bipush 7, 2), (26, .if_icmp .lt 29, 3), (29, .aload_n 1, 1), (30, .iconst 0, 1), (31, .iconst 0, 1), (32, .iconst 0, 1), (33, .iload_n 3, 1), (34, .invokevirtual 58, 3), (37, .aload_n 2, 1), (38, .bipush 24, 2), (40, .iaload, 1), (41, .if_icmp .ne 14, 3), (44, .aload_n 1, 1), (45, .iconst 1, 1), (46, .iconst 1, 1), (47, .invokevirtual 62, 3), (50, .bipush (-3), 2), (52, .if_icmp .eq 5, 3), (55, .iconst 0, 1), (56, .ireturn, 1), (57, .aload_n 2, 1), (58, .bipush 24, 2), (60, .iaload, 1), (61, .istore 4, 2), (63, .bipush 19, 2), (65, .newarray .int, 2), (67, .astore 5, 2), (69, .bipush 19, 2), (71, .newarray .int, 2), (73, .astore 6, 2), (75, .aload_n 1, 1), (76, .aload_n 0, 1), (77, .iconst 4, 1), (78, .aload 5, 2), (80, .invokestatic 64, 3), (83, .istore 7, 2), (85, .iload 7, 2), (87, .iconst 3, 1), (88, .if_icmp .lt 15, 3), (91, .aload_n 1, 1), (92, .iconst 1, 1), (93, .iconst 2, 1), (94, .iconst 0, 1), (95, .iload 7, 2), (97, .invokevirtual 68, 3)]
theorem dd_L_law_c0 : Dall 99 dl_L_law_c0 = true := by decide +kernel
def dl_L_law_c1 : List (Nat × Instr × Nat) := [(100, .ifCond .eq 5, 3), (103, .iconst 0, 1), (104, .ireturn, 1), (105, .aload_n 1, 1), (106, .aload_n 0, 1), (107, .bipush 7, 2), (109, .aload 6, 2), (111, .invokestatic 64, 3), (114, .istore 7, 2), (116, .iload 7, 2), (118, .iconst 3, 1), (119, .if_icmp .lt 24, 3), (122, .aload_n 1, 1), (123, .iconst 1, 1), (124, .iconst 2, 1), (125, .iconst 0, 1), (126, .iload 7, 2), (128, .invokevirtual 68, 3), (131, .iconst 1, 1), (132, .if_icmp .ne 11, 3), (135, .aload_n 1, 1), (136, .iconst 5, 1), (137, .invokevirtual 71, 3), (140, .ifCond .eq 5, 3), (143, .iconst 0, 1), (144, .ireturn, 1), (145, .aload_n 1, 1), (146, .iconst 1, 1), (147, .invokevirtual 71, 3), (150, .istore 8, 2), (152, .bipush 7, 2), (154, .newarray .int, 2), (156, .astore 9, 2), (158, .iconst 0, 1), (159, .istore 10, 2), (161, .iload 10, 2), (163, .iload 4, 2), (165, .if_icmp .ge 16, 3), (168, .aload 9, 2), (170, .iload 10, 2), (172, .iload 10, 2), (174, .iastore, 1), (175, .iinc 10 1, 3), (178, .goto (-17), 3), (181, .iconst 0, 1), (182, .istore 10, 2), (184, .iconst 0, 1), (185, .istore 11, 2), (187, .iload 11, 2), (189, .bipush 12, 2), (191, .if_icmp .ge 1101, 3), (194, .aload_n 0, 1), (195, .bipush 10, 2), (197, .iload 11, 2), (199, .iadd, 1), (200, .invokestatic 9, 3), (203, .istore 12, 2), (205, .iload 12, 2), (207, .bipush 7, 2), (209, .invokestatic 15, 3)]
theorem dd_L_law_c1 : Dall 99 dl_L_law_c1 = true := by decide +kernel
def dl_L_law_c2 : List (Nat × Instr × Nat) := [(212, .istore 13, 2), (214, .iconst 1, 1), (215, .iload 12, 2), (217, .iconst 3, 1), (218, .ishr, 1), (219, .iconst 3, 1), (220, .invokestatic 15, 3), (223, .iadd, 1), (224, .istore 14, 2), (226, .iload 13, 2), (228, .iconst 3, 1), (229, .if_icmp .ge 75, 3), (232, .iload 12, 2), (234, .iconst 5, 1), (235, .ishr, 1), (236, .bipush 6, 2), (238, .invokestatic 15, 3), (241, .istore 15, 2), (243, .iconst 0, 1), (244, .istore 16, 2), (246, .iconst 0, 1), (247, .istore 17, 2), (249, .iload 17, 2), (251, .iload 15, 2), (253, .if_icmp .ge 26, 3), (256, .iload 16, 2), (258, .aload_n 2, 1), (259, .aload 5, 2), (261, .bipush (-9), 2), (263, .aload 9, 2), (265, .iload 14, 2), (267, .invokestatic 46, 3), (270, .iadd, 1), (271, .istore 16, 2), (273, .iinc 17 1, 3), (276, .goto (-27), 3), (279, .aload_n 1, 1), (280, .iload 14, 2), (282, .iload 15, 2), (284, .invokevirtual 62, 3), (287, .iload 16, 2), (289, .if_icmp .eq 5, 3), (292, .iconst 0, 1), (293, .ireturn, 1), (294, .iload 10, 2), (296, .iload 15, 2), (298, .iadd, 1), (299, .istore 10, 2), (301, .goto 302, 3), (304, .iload 13, 2), (306, .iconst 3, 1), (307, .if_icmp .ne 70, 3), (310, .iconst 0, 1), (311, .istore 15, 2), (313, .iload 15, 2), (315, .iload 4, 2), (317, .iconst 2, 1), (318, .idiv, 1), (319, .if_icmp .ge 43, 3), (322, .aload 9, 2)]
theorem dd_L_law_c2 : Dall 99 dl_L_law_c2 = true := by decide +kernel
def dl_L_law_c3 : List (Nat × Instr × Nat) := [(324, .iload 15, 2), (326, .iaload, 1), (327, .istore 16, 2), (329, .aload 9, 2), (331, .iload 15, 2), (333, .aload 9, 2), (335, .iload 4, 2), (337, .iconst 1, 1), (338, .isub, 1), (339, .iload 15, 2), (341, .isub, 1), (342, .iaload, 1), (343, .iastore, 1), (344, .aload 9, 2), (346, .iload 4, 2), (348, .iconst 1, 1), (349, .isub, 1), (350, .iload 15, 2), (352, .isub, 1), (353, .iload 16, 2), (355, .iastore, 1), (356, .iinc 15 1, 3), (359, .goto (-46), 3), (362, .aload_n 1, 1), (363, .invokevirtual 75, 3), (366, .aload_n 2, 1), (367, .aload 9, 2), (369, .invokestatic 50, 3), (372, .if_icmp .eq 231, 3), (375, .iconst 0, 1), (376, .ireturn, 1), (377, .iload 13, 2), (379, .iconst 4, 1), (380, .if_icmp .ne 60, 3), (383, .aload 9, 2), (385, .iconst 0, 1), (386, .iaload, 1), (387, .istore 15, 2), (389, .iconst 1, 1), (390, .istore 16, 2), (392, .iload 16, 2), (394, .iload 4, 2), (396, .if_icmp .ge 21, 3), (399, .aload 9, 2), (401, .iload 16, 2), (403, .iconst 1, 1), (404, .isub, 1), (405, .aload 9, 2), (407, .iload 16, 2), (409, .iaload, 1), (410, .iastore, 1), (411, .iinc 16 1, 3), (414, .goto (-22), 3), (417, .aload 9, 2), (419, .iload 4, 2), (421, .iconst 1, 1), (422, .isub, 1), (423, .iload 15, 2), (425, .iastore, 1), (426, .aload_n 1, 1)]
theorem dd_L_law_c3 : Dall 99 dl_L_law_c3 = true := by decide +kernel
def dl_L_law_c4 : List (Nat × Instr × Nat) := [(427, .invokevirtual 79, 3), (430, .iload 15, 2), (432, .if_icmp .eq 5, 3), (435, .iconst 0, 1), (436, .ireturn, 1), (437, .goto 166, 3), (440, .iload 13, 2), (442, .iconst 5, 1), (443, .if_icmp .ne 42, 3), (446, .iload 12, 2), (448, .iconst 5, 1), (449, .ishr, 1), (450, .iload 8, 2), (452, .invokestatic 15, 3), (455, .istore 15, 2), (457, .aload_n 1, 1), (458, .iload 15, 2), (460, .invokevirtual 82, 3), (463, .aload_n 2, 1), (464, .aload 9, 2), (466, .invokestatic 50, 3), (469, .if_icmp .eq 5, 3), (472, .iconst 0, 1), (473, .ireturn, 1), (474, .aload_n 2, 1), (475, .iload 15, 2), (477, .aload 9, 2), (479, .invokestatic 38, 3), (482, .goto 121, 3), (485, .iload 12, 2), (487, .iconst 5, 1), (488, .ishr, 1), (489, .iconst 5, 1), (490, .invokestatic 15, 3), (493, .istore 15, 2), (495, .iconst 0, 1), (496, .istore 16, 2), (498, .aload_n 1, 1), (499, .iconst 2, 1), (500, .iconst 0, 1), (501, .bipush 6, 2), (503, .invokevirtual 19, 3), (506, .iconst 1, 1), (507, .if_icmp .eq 5, 3), (510, .iconst 0, 1), (511, .ireturn, 1), (512, .iconst 0, 1), (513, .istore 17, 2), (515, .iload 17, 2), (517, .iload 15, 2), (519, .if_icmp .ge 61, 3), (522, .iconst 1, 1), (523, .iload 12, 2), (525, .bipush 8, 2), (527, .iconst 2, 1), (528, .iload 17, 2), (530, .imul, 1), (531, .iadd, 1), (532, .ishr, 1), (533, .iconst 3, 1)]
theorem dd_L_law_c4 : Dall 99 dl_L_law_c4 = true := by decide +kernel
def dl_L_law_c5 : List (Nat × Instr × Nat) := [(534, .invokestatic 15, 3), (537, .iadd, 1), (538, .istore 18, 2), (540, .aload_n 1, 1), (541, .iconst 2, 1), (542, .iconst 1, 1), (543, .iload 17, 2), (545, .iadd, 1), (546, .iload 18, 2), (548, .invokevirtual 25, 3), (551, .iconst 1, 1), (552, .if_icmp .eq 5, 3), (555, .iconst 0, 1), (556, .ireturn, 1), (557, .iload 16, 2), (559, .aload_n 2, 1), (560, .aload 5, 2), (562, .bipush (-9), 2), (564, .aload 9, 2), (566, .iload 18, 2), (568, .invokestatic 46, 3), (571, .iadd, 1), (572, .istore 16, 2), (574, .iinc 17 1, 3), (577, .goto (-62), 3), (580, .aload_n 1, 1), (581, .iconst 2, 1), (582, .iconst 0, 1), (583, .iconst 1, 1), (584, .iload 15, 2), (586, .invokevirtual 85, 3), (589, .iload 16, 2), (591, .if_icmp .eq 5, 3), (594, .iconst 0, 1), (595, .ireturn, 1), (596, .iload 10, 2), (598, .iload 15, 2), (600, .iadd, 1), (601, .istore 10, 2), (603, .aload_n 2, 1), (604, .aload 9, 2), (606, .invokestatic 50, 3), (609, .istore 15, 2), (611, .aload_n 1, 1), (612, .invokevirtual 88, 3), (615, .iload 15, 2), (617, .if_icmp .ne 13, 3), (620, .aload_n 1, 1), (621, .iconst 4, 1), (622, .invokevirtual 71, 3), (625, .iload 10, 2), (627, .if_icmp .eq 5, 3), (630, .iconst 0, 1), (631, .ireturn, 1), (632, .iconst 0, 1), (633, .istore 16, 2), (635, .iload 16, 2), (637, .iload 4, 2), (639, .if_icmp .ge 56, 3), (642, .aload_n 1, 1)]
theorem dd_L_law_c5 : Dall 99 dl_L_law_c5 = true := by decide +kernel
def dl_L_law_c6 : List (Nat × Instr × Nat) := [(643, .iload 16, 2), (645, .invokevirtual 91, 3), (648, .aload 9, 2), (650, .iload 16, 2), (652, .iaload, 1), (653, .if_icmp .ne 34, 3), (656, .aload_n 1, 1), (657, .iload 15, 2), (659, .iload 16, 2), (661, .invokevirtual 94, 3), (664, .aload 9, 2), (666, .iload 16, 2), (668, .iaload, 1), (669, .if_icmp .ne 18, 3), (672, .aload_n 1, 1), (673, .aload 9, 2), (675, .iload 16, 2), (677, .iaload, 1), (678, .iconst 5, 1), (679, .invokevirtual 97, 3), (682, .iload 16, 2), (684, .if_icmp .eq 5, 3), (687, .iconst 0, 1), (688, .ireturn, 1), (689, .iinc 16 1, 3), (692, .goto (-57), 3), (695, .iconst 0, 1), (696, .istore 16, 2), (698, .iload 16, 2), (700, .iload 4, 2), (702, .iconst 1, 1), (703, .isub, 1), (704, .if_icmp .ge 58, 3), (707, .aload_n 1, 1), (708, .aload 9, 2), (710, .iload 16, 2), (712, .iaload, 1), (713, .aload 9, 2), (715, .iload 16, 2), (717, .iconst 1, 1), (718, .iadd, 1), (719, .iaload, 1), (720, .iload 16, 2), (722, .iload 14, 2), (724, .invokevirtual 100, 3), (727, .aload_n 2, 1), (728, .aload 5, 2), (730, .bipush (-9), 2), (732, .aload 9, 2), (734, .iload 16, 2), (736, .iaload, 1), (737, .aload 9, 2), (739, .iload 16, 2), (741, .iconst 1, 1), (742, .iadd, 1), (743, .iaload, 1), (744, .iload 16, 2), (746, .iload 14, 2), (748, .invokestatic 34, 3), (751, .if_icmp .eq 5, 3)]
theorem dd_L_law_c6 : Dall 99 dl_L_law_c6 = true := by decide +kernel
def dl_L_law_c7 : List (Nat × Instr × Nat) := [(754, .iconst 0, 1), (755, .ireturn, 1), (756, .iinc 16 1, 3), (759, .goto (-61), 3), (762, .bipush 7, 2), (764, .newarray .int, 2), (766, .astore 16, 2), (768, .iconst 0, 1), (769, .istore 17, 2), (771, .iload 17, 2), (773, .bipush 7, 2), (775, .if_icmp .ge 19, 3), (778, .aload 16, 2), (780, .iload 17, 2), (782, .aload 9, 2), (784, .iload 17, 2), (786, .iaload, 1), (787, .iastore, 1), (788, .iinc 17 1, 3), (791, .goto (-20), 3), (794, .aload_n 2, 1), (795, .aload 5, 2), (797, .bipush (-9), 2), (799, .aload 16, 2), (801, .iload 14, 2), (803, .invokestatic 46, 3), (806, .pop, 1), (807, .aload_n 1, 1), (808, .iload 15, 2), (810, .iload 14, 2), (812, .invokevirtual 103, 3), (815, .aload_n 2, 1), (816, .aload 16, 2), (818, .invokestatic 50, 3), (821, .if_icmp .eq 5, 3), (824, .iconst 0, 1), (825, .ireturn, 1), (826, .aload_n 1, 1), (827, .iload 15, 2), (829, .iload 14, 2), (831, .iconst 0, 1), (832, .invokevirtual 106, 3), (835, .istore 17, 2), (837, .aload_n 1, 1), (838, .iload 15, 2), (840, .iload 14, 2), (842, .iconst 1, 1), (843, .invokevirtual 106, 3), (846, .istore 18, 2), (848, .iload 17, 2), (850, .ifCond .lt 19, 3), (853, .iload 18, 2), (855, .iconst 1, 1), (856, .if_icmp .lt 13, 3), (859, .iload 17, 2), (861, .iload 18, 2), (863, .iadd, 1), (864, .iload 8, 2), (866, .if_icmp .le 5, 3), (869, .iconst 0, 1)]
theorem dd_L_law_c7 : Dall 99 dl_L_law_c7 = true := by decide +kernel
def dl_L_law_c8 : List (Nat × Instr × Nat) := [(870, .ireturn, 1), (871, .aload_n 2, 1), (872, .iload 15, 2), (874, .aload 16, 2), (876, .invokestatic 38, 3), (879, .iconst (-1), 1), (880, .istore 19, 2), (882, .iconst (-1), 1), (883, .istore 20, 2), (885, .iconst 0, 1), (886, .istore 21, 2), (888, .iload 21, 2), (890, .iload 17, 2), (892, .iload 18, 2), (894, .iadd, 1), (895, .if_icmp .gt 146, 3), (898, .aload_n 2, 1), (899, .aload 16, 2), (901, .invokestatic 50, 3), (904, .istore 22, 2), (906, .iload 21, 2), (908, .iload 17, 2), (910, .if_icmp .ne 7, 3), (913, .iload 22, 2), (915, .istore 19, 2), (917, .iload 21, 2), (919, .iload 17, 2), (921, .iconst 1, 1), (922, .isub, 1), (923, .if_icmp .ne 7, 3), (926, .iload 22, 2), (928, .istore 20, 2), (930, .iload 21, 2), (932, .iload 17, 2), (934, .if_icmp .le 33, 3), (937, .iload 22, 2), (939, .iload 19, 2), (941, .if_icmp .ne 7, 3), (944, .iconst 1, 1), (945, .goto 4, 3), (948, .iconst 0, 1), (949, .iload 21, 2), (951, .iload 17, 2), (953, .iload 18, 2), (955, .iadd, 1), (956, .if_icmp .ne 7, 3), (959, .iconst 1, 1), (960, .goto 4, 3), (963, .iconst 0, 1), (964, .if_icmp .ne 25, 3), (967, .iload 21, 2), (969, .iload 17, 2), (971, .iload 18, 2), (973, .iadd, 1), (974, .if_icmp .ne 17, 3), (977, .iload 17, 2), (979, .ifCond .le 12, 3), (982, .iload 22, 2), (984, .iload 20, 2), (986, .if_icmp .ne 5, 3)]
theorem dd_L_law_c8 : Dall 99 dl_L_law_c8 = true := by decide +kernel
def dl_L_law_c9 : List (Nat × Instr × Nat) := [(989, .iconst 0, 1), (990, .ireturn, 1), (991, .iload 21, 2), (993, .iload 17, 2), (995, .iload 18, 2), (997, .iadd, 1), (998, .iconst 1, 1), (999, .isub, 1), (1000, .if_icmp .ne 22, 3), (1003, .iload 17, 2), (1005, .ifCond .le 17, 3), (1008, .iload 20, 2), (1010, .ifCond .lt 12, 3), (1013, .iload 22, 2), (1015, .iload 20, 2), (1017, .if_icmp .ne 5, 3), (1020, .iconst 0, 1), (1021, .ireturn, 1), (1022, .aload_n 2, 1), (1023, .aload 5, 2), (1025, .bipush (-9), 2), (1027, .aload 16, 2), (1029, .iload 14, 2), (1031, .invokestatic 46, 3), (1034, .pop, 1), (1035, .iinc 21 1, 3), (1038, .goto (-150), 3), (1041, .iload 12, 2), (1043, .bipush 15, 2), (1045, .ishr, 1), (1046, .iload 4, 2), (1048, .invokestatic 15, 3), (1051, .istore 21, 2), (1053, .aload_n 2, 1), (1054, .aload 5, 2), (1056, .bipush (-9), 2), (1058, .iload 21, 2), (1060, .iload 15, 2), (1062, .iload 14, 2), (1064, .invokestatic 109, 3), (1067, .istore 22, 2), (1069, .aload_n 1, 1), (1070, .iload 21, 2), (1072, .iload 15, 2), (1074, .iload 14, 2), (1076, .invokevirtual 113, 3), (1079, .iload 22, 2), (1081, .sipush 9999, 3), (1084, .if_icmp .ne 8, 3), (1087, .bipush (-9), 2), (1089, .goto 5, 3), (1092, .iload 22, 2), (1094, .if_icmp .eq 5, 3), (1097, .iconst 0, 1), (1098, .ireturn, 1), (1099, .bipush (-9), 2), (1101, .istore 23, 2), (1103, .iconst 0, 1), (1104, .istore 24, 2), (1106, .iconst 0, 1)]
theorem dd_L_law_c9 : Dall 99 dl_L_law_c9 = true := by decide +kernel
def dl_L_law_c10 : List (Nat × Instr × Nat) := [(1107, .istore 25, 2), (1109, .iload 25, 2), (1111, .aload 5, 2), (1113, .iconst 0, 1), (1114, .iaload, 1), (1115, .if_icmp .ge 65, 3), (1118, .aload_n 2, 1), (1119, .aload 5, 2), (1121, .iload 25, 2), (1123, .iload 21, 2), (1125, .iload 15, 2), (1127, .iload 14, 2), (1129, .invokestatic 109, 3), (1132, .istore 26, 2), (1134, .iload 26, 2), (1136, .iload 22, 2), (1138, .if_icmp .le 11, 3), (1141, .iload 26, 2), (1143, .iload 22, 2), (1145, .isub, 1), (1146, .goto 8, 3), (1149, .iload 22, 2), (1151, .iload 26, 2), (1153, .isub, 1), (1154, .istore 27, 2), (1156, .iload 27, 2), (1158, .iload 24, 2), (1160, .if_icmp .gt 6, 3), (1163, .goto 11, 3), (1166, .iload 27, 2), (1168, .istore 24, 2), (1170, .iload 25, 2), (1172, .istore 23, 2), (1174, .iinc 25 1, 3), (1177, .goto (-68), 3), (1180, .aload_n 1, 1), (1181, .iload 21, 2), (1183, .iload 15, 2), (1185, .iload 14, 2), (1187, .invokevirtual 115, 3), (1190, .iload 23, 2), (1192, .if_icmp .eq 5, 3), (1195, .iconst 0, 1), (1196, .ireturn, 1), (1197, .iload 12, 2), (1199, .bipush 18, 2), (1201, .ishr, 1), (1202, .iconst 5, 1), (1203, .invokestatic 15, 3), (1206, .ifCond .le 6, 3), (1209, .goto 77, 3), (1212, .aload_n 1, 1), (1213, .iconst 5, 1), (1214, .invokevirtual 71, 3), (1217, .istore 25, 2), (1219, .aload_n 1, 1), (1220, .iconst 1, 1), (1221, .iload 25, 2), (1223, .isub, 1), (1224, .invokevirtual 118, 3)]
theorem dd_L_law_c10 : Dall 99 dl_L_law_c10 = true := by decide +kernel
def dl_L_law_c11 : List (Nat × Instr × Nat) := [(1227, .iload 25, 2), (1229, .if_icmp .ne 15, 3), (1232, .aload_n 1, 1), (1233, .iconst 5, 1), (1234, .invokevirtual 71, 3), (1237, .iconst 1, 1), (1238, .iload 25, 2), (1240, .isub, 1), (1241, .if_icmp .eq 5, 3), (1244, .iconst 0, 1), (1245, .ireturn, 1), (1246, .iconst 0, 1), (1247, .istore 26, 2), (1249, .iload 26, 2), (1251, .bipush 19, 2), (1253, .if_icmp .ge 33, 3), (1256, .aload 5, 2), (1258, .iload 26, 2), (1260, .iaload, 1), (1261, .istore 27, 2), (1263, .aload 5, 2), (1265, .iload 26, 2), (1267, .aload 6, 2), (1269, .iload 26, 2), (1271, .iaload, 1), (1272, .iastore, 1), (1273, .aload 6, 2), (1275, .iload 26, 2), (1277, .iload 27, 2), (1279, .iastore, 1), (1280, .iinc 26 1, 3), (1283, .goto (-34), 3), (1286, .iinc 11 1, 3), (1289, .goto (-1102), 3), (1292, .aload_n 1, 1), (1293, .iconst 2, 1), (1294, .invokevirtual 118, 3), (1297, .iconst (-1), 1), (1298, .if_icmp .ne 198, 3), (1301, .aload_n 1, 1), (1302, .iload 8, 2), (1304, .invokevirtual 82, 3), (1307, .iconst (-1), 1), (1308, .if_icmp .ne 188, 3), (1311, .aload_n 1, 1), (1312, .iconst 0, 1), (1313, .iload 4, 2), (1315, .invokevirtual 94, 3), (1318, .iconst (-1), 1), (1319, .if_icmp .ne 177, 3), (1322, .aload_n 1, 1), (1323, .iload 4, 2), (1325, .invokevirtual 91, 3), (1328, .iconst (-1), 1), (1329, .if_icmp .ne 167, 3), (1332, .aload_n 1, 1), (1333, .iconst 0, 1), (1334, .iload 4, 2), (1336, .iconst 0, 1), (1337, .iconst 1, 1)]
theorem dd_L_law_c11 : Dall 99 dl_L_law_c11 = true := by decide +kernel
def dl_L_law_c12 : List (Nat × Instr × Nat) := [(1338, .invokevirtual 100, 3), (1341, .iconst (-1), 1), (1342, .if_icmp .ne 154, 3), (1345, .aload_n 1, 1), (1346, .iconst 0, 1), (1347, .iconst 0, 1), (1348, .iconst 0, 1), (1349, .iconst 1, 1), (1350, .invokevirtual 100, 3), (1353, .bipush (-2), 2), (1355, .if_icmp .ne 141, 3), (1358, .aload_n 1, 1), (1359, .iconst 0, 1), (1360, .iconst 1, 1), (1361, .iload 4, 2), (1363, .iconst 1, 1), (1364, .isub, 1), (1365, .iconst 1, 1), (1366, .invokevirtual 100, 3), (1369, .bipush (-2), 2), (1371, .if_icmp .ne 125, 3), (1374, .aload_n 1, 1), (1375, .iconst 0, 1), (1376, .iconst 1, 1), (1377, .iconst 0, 1), (1378, .iconst 4, 1), (1379, .invokevirtual 100, 3), (1382, .bipush (-2), 2), (1384, .if_icmp .ne 112, 3), (1387, .aload_n 1, 1), (1388, .iconst 0, 1), (1389, .iconst 1, 1), (1390, .invokevirtual 62, 3), (1393, .bipush (-2), 2), (1395, .if_icmp .ne 101, 3), (1398, .aload_n 1, 1), (1399, .iconst 1, 1), (1400, .bipush 100, 2), (1402, .invokevirtual 62, 3), (1405, .bipush (-2), 2), (1407, .if_icmp .ne 89, 3), (1410, .aload_n 1, 1), (1411, .iload 8, 2), (1413, .iconst 1, 1), (1414, .invokevirtual 103, 3), (1417, .iconst (-1), 1), (1418, .if_icmp .ne 78, 3), (1421, .aload_n 1, 1), (1422, .iconst 0, 1), (1423, .iconst 4, 1), (1424, .invokevirtual 103, 3), (1427, .bipush (-2), 2), (1429, .if_icmp .ne 67, 3), (1432, .aload_n 1, 1), (1433, .iload 8, 2), (1435, .iconst 1, 1), (1436, .iconst 0, 1), (1437, .invokevirtual 106, 3), (1440, .iconst (-1), 1), (1441, .if_icmp .ne 55, 3)]
theorem dd_L_law_c12 : Dall 99 dl_L_law_c12 = true := by decide +kernel
def dl_L_law_c13 : List (Nat × Instr × Nat) := [(1444, .aload_n 1, 1), (1445, .iconst 0, 1), (1446, .iconst 1, 1), (1447, .iconst 2, 1), (1448, .invokevirtual 106, 3), (1451, .bipush (-2), 2), (1453, .if_icmp .ne 43, 3), (1456, .aload_n 1, 1), (1457, .iload 4, 2), (1459, .iconst 0, 1), (1460, .iconst 1, 1), (1461, .invokevirtual 113, 3), (1464, .iconst (-1), 1), (1465, .if_icmp .ne 31, 3), (1468, .aload_n 1, 1), (1469, .iconst 0, 1), (1470, .iconst 0, 1), (1471, .iconst 0, 1), (1472, .invokevirtual 113, 3), (1475, .bipush (-2), 2), (1477, .if_icmp .ne 19, 3), (1480, .aload_n 1, 1), (1481, .iconst 0, 1), (1482, .iload 8, 2), (1484, .iconst 1, 1), (1485, .invokevirtual 115, 3), (1488, .iconst (-1), 1), (1489, .if_icmp .ne 7, 3), (1492, .iconst 1, 1), (1493, .goto 4, 3), (1496, .iconst 0, 1), (1497, .ireturn, 1)]
theorem dd_L_law_c13 : Dall 99 dl_L_law_c13 = true := by decide +kernel
theorem t_L_law {h : Hp} {P : Value → Hp → Prop} {p0 : Nat} (T : (tg h 0 = 0) ∧ (okg 99 0 [.ref p0, .retAddr 0, .retAddr 0, .retAddr 0, .retAddr 0, .retAddr 0, .retAddr 0, .retAddr 0, .retAddr 0, .retAddr 0, .retAddr 0, .retAddr 0, .retAddr 0, .retAddr 0, .retAddr 0, .retAddr 0, .retAddr 0, .retAddr 0, .retAddr 0, .retAddr 0, .retAddr 0, .retAddr 0, .retAddr 0, .retAddr 0, .retAddr 0, .retAddr 0, .retAddr 0, .retAddr 0] [.ref 0] [.ref 0] = true) ∧ R 0 0 [.ref 0, .retAddr 0] [] (mk h 0 12 0 17) (fun _ h2 => R 99 7 [.ref p0, .retAddr 0, .retAddr 0, .retAddr 0, .retAddr 0, .retAddr 0, .retAddr 0, .retAddr 0, .retAddr 0, .retAddr 0, .retAddr 0, .retAddr 0, .retAddr 0, .retAddr 0, .retAddr 0, .retAddr 0, .retAddr 0, .retAddr 0, .retAddr 0, .retAddr 0, .retAddr 0, .retAddr 0, .retAddr 0, .retAddr 0, .retAddr 0, .retAddr 0, .retAddr 0, .retAddr 0] [.ref 0] h2 P)) : R 99 0 [.ref p0, .retAddr 0, .retAddr 0, .retAddr 0, .retAddr 0, .retAddr 0, .retAddr 0, .retAddr 0, .retAddr 0, .retAddr 0, .retAddr 0, .retAddr 0, .retAddr 0, .retAddr 0, .retAddr 0, .retAddr 0, .retAddr 0, .retAddr 0, .retAddr 0, .retAddr 0, .retAddr 0, .retAddr 0, .retAddr 0, .retAddr 0, .retAddr 0, .retAddr 0, .retAddr 0, .retAddr 0] [] h P := by
  obtain ⟨g1, T⟩ := T
  refine R_new (Dat dd_L_law_c0 0 rfl) (ci := 11) rfl rfl (q := 0) rfl g1 (Or.inl (by decide)) ?_
  refine R_dup (Dat dd_L_law_c0 1 rfl) rfl ?_
  obtain ⟨g2, T⟩ := T
  exact R_call2 (Dat dd_L_law_c0 2 rfl) rfl rfl rfl rfl g2 rfl T
theorem t_L_law_7 {h : Hp} {P : Value → Hp → Prop} {a0 : Nat} {a1 a2 a3 a4 a5 a6 a7 a8 a9 a10 a11 a12 a13 a14 a15 a16 a17 a18 a19 a20 a21 a22 a23 a24 a25 a26 a27 : Value} (T : (tg h (10000 + ck h) = 0) ∧ R 89 0 [.ref 0, .ref a0, .int (I 0), .int (I 6), .ref (10000 + ck h), .retAddr 0, .retAddr 0, .retAddr 0, .retAddr 0] [] (mk h (10000 + ck h) 20 (25 : Int).toNat (25 : Int).toNat) (fun v h2 => R 99 22 [.ref a0, .ref 0, .ref (10000 + ck h), a3, a4, a5, a6, a7, a8, a9, a10, a11, a12, a13, a14, a15, a16, a17, a18, a19, a20, a21, a22, a23, a24, a25, a26, a27] (v :: []) h2 P)) : R 99 7 [.ref a0, a1, a2, a3, a4, a5, a6, a7, a8, a9, a10, a11, a12, a13, a14, a15, a16, a17, a18, a19, a20, a21, a22, a23, a24, a25, a26, a27] [.ref 0] h P := by
  refine R_astore_n (Dat dd_L_law_c0 3 rfl) rfl rfl rfl ?_
  refine R_bipush (Dat dd_L_law_c0 4 rfl) (a := 25) rfl ?_
  obtain ⟨g1, T⟩ := T
  refine R_newa (Dat dd_L_law_c0 5 rfl) rfl (q := 10000 + ck h) rfl g1 (Or.inr (Nat.le_add_right _ _)) (by decide) (by decide) ?_
  refine R_astore_n (Dat dd_L_law_c0 6 rfl) rfl rfl rfl ?_
  refine R_aload_n (Dat dd_L_law_c0 7 rfl) rfl rfl ?_
  refine R_aload_n (Dat dd_L_law_c0 8 rfl) rfl rfl ?_
  refine R_iconst (Dat dd_L_law_c0 9 rfl) ?_
  refine R_bipush (Dat dd_L_law_c0 10 rfl) (a := 6) rfl ?_
  refine R_aload_n (Dat dd_L_law_c0 11 rfl) rfl rfl ?_
  exact R_call0 (Dat dd_L_law_c0 12 rfl) rfl rfl rfl rfl rfl rfl T
theorem t_L_law_22 {h : Hp} {P : Value → Hp → Prop} {s0 : Int} {a0 a2 : Nat} {a3 a4 a5 a6 a7 a8 a9 a10 a11 a12 a13 a14 a15 a16 a17 a18 a19 a20 a21 a22 a23 a24 a25 a26 a27 : Value} (T : (rng s0) ∧ ((s0 < 7 → P (.int (I 0)) h) ∧ (¬ s0 < 7 → (okg 99 7 [.ref a0, .ref 0, .ref a2, .int (I s0), a4, a5, a6, a7, a8, a9, a10, a11, a12, a13, a14, a15, a16, a17, a18, a19, a20, a21, a22, a23, a24, a25, a26, a27] [] [.ref 0, .int (I 0), .int (I 0), .int (I 0), .int (I s0)] = true) ∧ (tg h 0 = 12) ∧ R 7 0 [.ref 0, .int (I 0), .int (I 0), .int (I 0), .int (I s0), .retAddr 0, .retAddr 0, .retAddr 0] [] h (fun v h2 => R 99 37 [.ref a0, .ref 0, .ref a2, .int (I s0), a4, a5, a6, a7, a8, a9, a10, a11, a12, a13, a14, a15, a16, a17, a18, a19, a20, a21, a22, a23, a24, a25, a26, a27] (v :: []) h2 P)))) : R 99 22 [.ref a0, .ref 0, .ref a2, a3, a4, a5, a6, a7, a8, a9, a10, a11, a12, a13, a14, a15, a16, a17, a18, a19, a20, a21, a22, a23, a24, a25, a26, a27] [.int (I s0)] h P := by
  refine R_istore_n (Dat dd_L_law_c0 13 rfl) rfl rfl ?_
  refine R_iload_n (Dat dd_L_law_c0 14 rfl) rfl ?_
  refine R_bipush (Dat dd_L_law_c0 15 rfl) (a := 7) rfl ?_
  obtain ⟨g1, T⟩ := T
  refine R_ic_lt (Dat dd_L_law_c0 16 rfl) rfl g1 (by decide) (fun c => ?_) (fun c => ?_)
  · replace T := T.1 c
    refine R_iconst (Dat dd_L_law_c0 33 rfl) ?_
    exact R_ireturn (Dat dd_L_law_c0 34 rfl) rfl T
  · replace T := T.2 c
    refine R_aload_n (Dat dd_L_law_c0 17 rfl) rfl rfl ?_
    refine R_iconst (Dat dd_L_law_c0 18 rfl) ?_
    refine R_iconst (Dat dd_L_law_c0 19 rfl) ?_
    refine R_iconst (Dat dd_L_law_c0 20 rfl) ?_
    refine R_iload_n (Dat dd_L_law_c0 21 rfl) rfl ?_
    obtain ⟨g2, T⟩ := T
    obtain ⟨g3, T⟩ := T
    exact R_call1 (Dat dd_L_law_c0 22 rfl) rfl g3 rfl rfl rfl g2 rfl T
theorem t_L_law_37 {h : Hp} {P : Value → Hp → Prop} {s0 : Int} {a0 a2 : Nat} {a3 a4 a5 a6 a7 a8 a9 a10 a11 a12 a13 a14 a15 a16 a17 a18 a19 a20 a21 a22 a23 a24 a25 a26 a27 : Value} (T : (tg h a2 = 20 ∨ tg h a2 = 30) ∧ ((ln h a2 : Int) ≤ 2147483648) ∧ ((24 : Int) < ln h a2) ∧ (rng s0) ∧ (rng (iv h a2 24)) ∧ ((s0 = (iv h a2 24) → (okg 99 53 [.ref a0, .ref 0, .ref a2, a3, a4, a5, a6, a7, a8, a9, a10, a11, a12, a13, a14, a15, a16, a17, a18, a19, a20, a21, a22, a23, a24, a25, a26, a27] [] [.ref 0, .int (I 1), .int (I 1)] = true) ∧ (tg h 0 = 12) ∧ R 53 0 [.ref 0, .int (I 1), .int (I 1), .retAddr 0, .retAddr 0, .retAddr 0] [] h (fun v h2 => R 99 50 [.ref a0, .ref 0, .ref a2, a3, a4, a5, a6, a7, a8, a9, a10, a11, a12, a13, a14, a15, a16, a17, a18, a19, a20, a21, a22, a23, a24, a25, a26, a27] (v :: []) h2 P)) ∧ (¬ s0 = (iv h a2 24) → P (.int (I 0)) h))) : R 99 37 [.ref a0, .ref 0, .ref a2, a3, a4, a5, a6, a7, a8, a9, a10, a11, a12, a13, a14, a15, a16, a17, a18, a19, a20, a21, a22, a23, a24, a25, a26, a27] [.int (I s0)] h P := by
  refine R_aload_n (Dat dd_L_law_c0 23 rfl) rfl rfl ?_
  refine R_bipush (Dat dd_L_law_c0 24 rfl) (a := 24) rfl ?_
  obtain ⟨g1, T⟩ := T
  obtain ⟨g2, T⟩ := T
  obtain ⟨g3, T⟩ := T
  refine R_iaload (Dat dd_L_law_c0 25 rfl) g1 g2 (by decide) g3 ?_
  obtain ⟨g4, T⟩ := T
  obtain ⟨g5, T⟩ := T
  refine R_ic_ne (Dat dd_L_law_c0 26 rfl) rfl g4 g5 (fun c => ?_) (fun c => ?_)
  · replace T := T.1 c
    refine R_aload_n (Dat dd_L_law_c0 27 rfl) rfl rfl ?_
    refine R_iconst (Dat dd_L_law_c0 28 rfl) ?_
    refine R_iconst (Dat dd_L_law_c0 29 rfl) ?_
    obtain ⟨g6, T⟩ := T
    obtain ⟨g7, T⟩ := T
    exact R_call1 (Dat dd_L_law_c0 30 rfl) rfl g7 rfl rfl rfl g6 rfl T
  · replace T := T.2 c
    refine R_iconst (Dat dd_L_law_c0 33 rfl) ?_
    exact R_ireturn (Dat dd_L_law_c0 34 rfl) rfl T
theorem t_L_law_50 {h : Hp} {P : Value → Hp → Prop} {s0 : Int} {a0 a2 : Nat} {a3 a4 a5 a6 a7 a8 a9 a10 a11 a12 a13 a14 a15 a16 a17 a18 a19 a20 a21 a22 a23 a24 a25 a26 a27 : Value} (T : (rng s0) ∧ ((s0 = (-3) → (tg h a2 = 20 ∨ tg h a2 = 30) ∧ ((ln h a2 : Int) ≤ 2147483648) ∧ ((24 : Int) < ln h a2) ∧ (tg h (10000 + ck h) = 0) ∧ (tg (mk h (10000 + ck h) 20 (19 : Int).toNat (19 : Int).toNat) (10000 + ck (mk h (10000 + ck h) 20 (19 : Int).toNat (19 : Int).toNat)) = 0) ∧ R 90 0 [.ref 0, .ref a0, .int (I 4), .ref (10000 + ck h), .retAddr 0, .retAddr 0, .retAddr 0, .retAddr 0, .retAddr 0] [] (mk (mk h (10000 + ck h) 20 (19 : Int).toNat (19 : Int).toNat) (10000 + ck (mk h (10000 + ck h) 20 (19 : Int).toNat (19 : Int).toNat)) 20 (19 : Int).toNat (19 : Int).toNat) (fun v h2 => R 99 83 [.ref a0, .ref 0, .ref a2, a3, .int (I (iv h a2 24)), .ref (10000 + ck h), .ref (10000 + ck (mk h (10000 + ck h) 20 (19 : Int).toNat (19 : Int).toNat)), a7, a8, a9, a10, a11, a12, a13, a14, a15, a16, a17, a18, a19, a20, a21, a22, a23, a24, a25, a26, a27] (v :: []) h2 P)) ∧ (¬ s0 = (-3) → P (.int (I 0)) h))) : R 99 50 [.ref a0, .ref 0, .ref a2, a3, a4, a5, a6, a7, a8, a9, a10, a11, a12, a13, a14, a15, a16, a17, a18, a19, a20, a21, a22, a23, a24, a25, a26, a27] [.int (I s0)] h P := by
  refine R_bipush (Dat dd_L_law_c0 31 rfl) (a := (-3)) rfl ?_
  obtain ⟨g1, T⟩ := T
  refine R_ic_eq (Dat dd_L_law_c0 32 rfl) rfl g1 (by decide) (fun c => ?_) (fun c => ?_)
  · replace T := T.1 c
    refine R_aload_n (Dat dd_L_law_c0 35 rfl) rfl rfl ?_
    refine R_bipush (Dat dd_L_law_c0 36 rfl) (a := 24) rfl ?_
    obtain ⟨g2, T⟩ := T
    obtain ⟨g3, T⟩ := T
    obtain ⟨g4, T⟩ := T
    refine R_iaload (Dat dd_L_law_c0 37 rfl) g2 g3 (by decide) g4 ?_
    refine R_istore (Dat dd_L_law_c0 38 rfl) rfl rfl ?_
    refine R_bipush (Dat dd_L_law_c0 39 rfl) (a := 19) rfl ?_
    obtain ⟨g5, T⟩ := T
    refine R_newa (Dat dd_L_law_c0 40 rfl) rfl (q := 10000 + ck h) rfl g5 (Or.inr (Nat.le_add_right _ _)) (by decide) (by decide) ?_
    refine R_astore (Dat dd_L_law_c0 41 rfl) rfl rfl rfl ?_
    refine R_bipush (Dat dd_L_law_c0 42 rfl) (a := 19) rfl ?_
    obtain ⟨g6, T⟩ := T
    refine R_newa (Dat dd_L_law_c0 43 rfl) rfl (q := 10000 + ck (mk h (10000 + ck h) 20 (19 : Int).toNat (19 : Int).toNat)) rfl g6 (Or.inr (Nat.le_add_right _ _)) (by decide) (by decide) ?_
    refine R_astore (Dat dd_L_law_c0 44 rfl) rfl rfl rfl ?_
    refine R_aload_n (Dat dd_L_law_c0 45 rfl) rfl rfl ?_
    refine R_aload_n (Dat dd_L_law_c0 46 rfl) rfl rfl ?_
    refine R_iconst (Dat dd_L_law_c0 47 rfl) ?_
    refine R_aload (Dat dd_L_law_c0 48 rfl) rfl rfl ?_
    exact R_call0 (Dat dd_L_law_c0 49 rfl) rfl rfl rfl rfl rfl rfl T
  · replace T := T.2 c
    refine R_iconst (Dat dd_L_law_c0 33 rfl) ?_
    exact R_ireturn (Dat dd_L_law_c0 34 rfl) rfl T
theorem t_L_law_83 {h : Hp} {P : Value → Hp → Prop} {a4 s0 : Int} {a0 a2 a5 a6 : Nat} {a3 a7 a8 a9 a10 a11 a12 a13 a14 a15 a16 a17 a18 a19 a20 a21 a22 a23 a24 a25 a26 a27 : Value} (T : (rng s0) ∧ ((s0 < 3 → P (.int (I 0)) h) ∧ (¬ s0 < 3 → (okg 99 40 [.ref a0, .ref 0, .ref a2, a3, .int (I a4), .ref a5, .ref a6, .int (I s0), a8, a9, a10, a11, a12, a13, a14, a15, a16, a17, a18, a19, a20, a21, a22, a23, a24, a25, a26, a27] [] [.ref 0, .int (I 1), .int (I 2), .int (I 0), .int (I s0)] = true) ∧ (tg h 0 = 12) ∧ R 40 0 [.ref 0, .int (I 1), .int (I 2), .int (I 0), .int (I s0), .retAddr 0, .retAddr 0, .retAddr 0] [] h (fun v h2 => R 99 100 [.ref a0, .ref 0, .ref a2, a3, .int (I a4), .ref a5, .ref a6, .int (I s0), a8, a9, a10, a11, a12, a13, a14, a15, a16, a17, a18, a19, a20, a21, a22, a23, a24, a25, a26, a27] (v :: []) h2 P)))) : R 99 83 [.ref a0, .ref 0, .ref a2, a3, .int (I a4), .ref a5, .ref a6, a7, a8, a9, a10, a11, a12, a13, a14, a15, a16, a17, a18, a19, a20, a21, a22, a23, a24, a25, a26, a27] [.int (I s0)] h P := by
  refine R_istore (Dat dd_L_law_c0 50 rfl) rfl rfl ?_
  refine R_iload (Dat dd_L_law_c0 51 rfl) rfl ?_
  refine R_iconst (Dat dd_L_law_c0 52 rfl) ?_
  obtain ⟨g1, T⟩ := T
  refine R_ic_lt (Dat dd_L_law_c0 53 rfl) rfl g1 (by decide) (fun c => ?_) (fun c => ?_)
  · replace T := T.1 c
    refine R_iconst (Dat dd_L_law_c1 1 rfl) ?_
    exact R_ireturn (Dat dd_L_law_c1 2 rfl) rfl T
  · replace T := T.2 c
    refine R_aload_n (Dat dd_L_law_c0 54 rfl) rfl rfl ?_
    refine R_iconst (Dat dd_L_law_c0 55 rfl) ?_
    refine R_iconst (Dat dd_L_law_c0 56 rfl) ?_
    refine R_iconst (Dat dd_L_law_c0 57 rfl) ?_
    refine R_iload (Dat dd_L_law_c0 58 rfl) rfl ?_
    obtain ⟨g2, T⟩ := T
    obtain ⟨g3, T⟩ := T
    exact R_call1 (Dat dd_L_law_c0 59 rfl) rfl g3 rfl rfl rfl g2 rfl T
theorem t_L_law_100 {h : Hp} {P : Value → Hp → Prop} {a4 s0 : Int} {a0 a2 a5 a6 : Nat} {a3 a7 a8 a9 a10 a11 a12 a13 a14 a15 a16 a17 a18 a19 a20 a21 a22 a23 a24 a25 a26 a27 : Value} (T : (rng s0) ∧ ((s0 = 0 → R 90 0 [.ref 0, .ref a0, .int (I 7), .ref a6, .retAddr 0, .retAddr 0, .retAddr 0, .retAddr 0, .retAddr 0] [] h (fun v h2 => R 99 114 [.ref a0, .ref 0, .ref a2, a3, .int (I a4), .ref a5, .ref a6, a7, a8, a9, a10, a11, a12, a13, a14, a15, a16, a17, a18, a19, a20, a21, a22, a23, a24, a25, a26, a27] (v :: []) h2 P)) ∧ (¬ s0 = 0 → P (.int (I 0)) h))) : R 99 100 [.ref a0, .ref 0, .ref a2, a3, .int (I a4), .ref a5, .ref a6, a7, a8, a9, a10, a11, a12, a13, a14, a15, a16, a17, a18, a19, a20, a21, a22, a23, a24, a25, a26, a27] [.int (I s0)] h P := by
  obtain ⟨g1, T⟩ := T
  refine R_if_eq (Dat dd_L_law_c1 0 rfl) rfl g1  (fun c => ?_) (fun c => ?_)
  · replace T := T.1 c
    refine R_aload_n (Dat dd_L_law_c1 3 rfl) rfl rfl ?_
    refine R_aload_n (Dat dd_L_law_c1 4 rfl) rfl rfl ?_
    refine R_bipush (Dat dd_L_law_c1 5 rfl) (a := 7) rfl ?_
    refine R_aload (Dat dd_L_law_c1 6 rfl) rfl rfl ?_
    exact R_call0 (Dat dd_L_law_c1 7 rfl) rfl rfl rfl rfl rfl rfl T
  · replace T := T.2 c
    refine R_iconst (Dat dd_L_law_c1 1 rfl) ?_
    exact R_ireturn (Dat dd_L_law_c1 2 rfl) rfl T
theorem t_L_law_114 {h : Hp} {P : Value → Hp → Prop} {a4 s0 : Int} {a0 a2 a5 a6 : Nat} {a3 a7 a8 a9 a10 a11 a12 a13 a14 a15 a16 a17 a18 a19 a20 a21 a22 a23 a24 a25 a26 a27 : Value} (T : (rng s0) ∧ ((s0 < 3 → P (.int (I 0)) h) ∧ (¬ s0 < 3 → (okg 99 40 [.ref a0, .ref 0, .ref a2, a3, .int (I a4), .ref a5, .ref a6, .int (I s0), a8, a9, a10, a11, a12, a13, a14, a15, a16, a17, a18, a19, a20, a21, a22, a23, a24, a25, a26, a27] [] [.ref 0, .int (I 1), .int (I 2), .int (I 0), .int (I s0)] = true) ∧ (tg h 0 = 12) ∧ R 40 0 [.ref 0, .int (I 1), .int (I 2), .int (I 0), .int (I s0), .retAddr 0, .retAddr 0, .retAddr 0] [] h (fun v h2 => R 99 131 [.ref a0, .ref 0, .ref a2, a3, .int (I a4), .ref a5, .ref a6, .int (I s0), a8, a9, a10, a11, a12, a13, a14, a15, a16, a17, a18, a19, a20, a21, a22, a23, a24, a25, a26, a27] (v :: []) h2 P)))) : R 99 114 [.ref a0, .ref 0, .ref a2, a3, .int (I a4), .ref a5, .ref a6, a7, a8, a9, a10, a11, a12, a13, a14, a15, a16, a17, a18, a19, a20, a21, a22, a23, a24, a25, a26, a27] [.int (I s0)] h P := by
  refine R_istore (Dat dd_L_law_c1 8 rfl) rfl rfl ?_
  refine R_iload (Dat dd_L_law_c1 9 rfl) rfl ?_
  refine R_iconst (Dat dd_L_law_c1 10 rfl) ?_
  obtain ⟨g1, T⟩ := T
  refine R_ic_lt (Dat dd_L_law_c1 11 rfl) rfl g1 (by decide) (fun c => ?_) (fun c => ?_)
  · replace T := T.1 c
    refine R_iconst (Dat dd_L_law_c1 24 rfl) ?_
    exact R_ireturn (Dat dd_L_law_c1 25 rfl) rfl T
  · replace T := T.2 c
    refine R_aload_n (Dat dd_L_law_c1 12 rfl) rfl rfl ?_
    refine R_iconst (Dat dd_L_law_c1 13 rfl) ?_
    refine R_iconst (Dat dd_L_law_c1 14 rfl) ?_
    refine R_iconst (Dat dd_L_law_c1 15 rfl) ?_
    refine R_iload (Dat dd_L_law_c1 16 rfl) rfl ?_
    obtain ⟨g2, T⟩ := T
    obtain ⟨g3, T⟩ := T
    exact R_call1 (Dat dd_L_law_c1 17 rfl) rfl g3 rfl rfl rfl g2 rfl T
theorem t_L_law_131 {h : Hp} {P : Value → Hp → Prop} {a4 s0 : Int} {a0 a2 a5 a6 : Nat} {a3 a7 a8 a9 a10 a11 a12 a13 a14 a15 a16 a17 a18 a19 a20 a21 a22 a23 a24 a25 a26 a27 : Value} (T : (rng s0) ∧ ((s0 = 1 → (tg h 0 = 12) ∧ R 86 0 [.ref 0, .int (I 5)] [] h (fun v h2 => R 99 140 [.ref a0, .ref 0, .ref a2, a3, .int (I a4), .ref a5, .ref a6, a7, a8, a9, a10, a11, a12, a13, a14, a15, a16, a17, a18, a19, a20, a21, a22, a23, a24, a25, a26, a27] (v :: []) h2 P)) ∧ (¬ s0 = 1 → P (.int (I 0)) h))) : R 99 131 [.ref a0, .ref 0, .ref a2, a3, .int (I a4), .ref a5, .ref a6, a7, a8, a9, a10, a11, a12, a13, a14, a15, a16, a17, a18, a19, a20, a21, a22, a23, a24, a25, a26, a27] [.int (I s0)] h P := by
  refine R_iconst (Dat dd_L_law_c1 18 rfl) ?_
  obtain ⟨g1, T⟩ := T
  refine R_ic_ne (Dat dd_L_law_c1 19 rfl) rfl g1 (by decide) (fun c => ?_) (fun c => ?_)
  · replace T := T.1 c
    refine R_aload_n (Dat dd_L_law_c1 20 rfl) rfl rfl ?_
    refine R_iconst (Dat dd_L_law_c1 21 rfl) ?_
    obtain ⟨g2, T⟩ := T
    exact R_call1 (Dat dd_L_law_c1 22 rfl) rfl g2 rfl rfl rfl rfl rfl T
  · replace T := T.2 c
    refine R_iconst (Dat dd_L_law_c1 24 rfl) ?_
    exact R_ireturn (Dat dd_L_law_c1 25 rfl) rfl T
theorem t_L_law_140 {h : Hp} {P : Value → Hp → Prop} {a4 s0 : Int} {a0 a2 a5 a6 : Nat} {a3 a7 a8 a9 a10 a11 a12 a13 a14 a15 a16 a17 a18 a19 a20 a21 a22 a23 a24 a25 a26 a27 : Value} (T : (rng s0) ∧ ((s0 = 0 → (tg h 0 = 12) ∧ R 86 0 [.ref 0, .int (I 1)] [] h (fun v h2 => R 99 150 [.ref a0, .ref 0, .ref a2, a3, .int (I a4), .ref a5, .ref a6, a7, a8, a9, a10, a11, a12, a13, a14, a15, a16, a17, a18, a19, a20, a21, a22, a23, a24, a25, a26, a27] (v :: []) h2 P)) ∧ (¬ s0 = 0 → P (.int (I 0)) h))) : R 99 140 [.ref a0, .ref 0, .ref a2, a3, .int (I a4), .ref a5, .ref a6, a7, a8, a9, a10, a11, a12, a13, a14, a15, a16, a17, a18, a19, a20, a21, a22, a23, a24, a25, a26, a27] [.int (I s0)] h P := by
  obtain ⟨g1, T⟩ := T
  refine R_if_eq (Dat dd_L_law_c1 23 rfl) rfl g1  (fun c => ?_) (fun c => ?_)
  · replace T := T.1 c
    refine R_aload_n (Dat dd_L_law_c1 26 rfl) rfl rfl ?_
    refine R_iconst (Dat dd_L_law_c1 27 rfl) ?_
    obtain ⟨g2, T⟩ := T
    exact R_call1 (Dat dd_L_law_c1 28 rfl) rfl g2 rfl rfl rfl rfl rfl T
  · replace T := T.2 c
    refine R_iconst (Dat dd_L_law_c1 24 rfl) ?_
    exact R_ireturn (Dat dd_L_law_c1 25 rfl) rfl T
theorem t_L_law_150 {h : Hp} {P : Value → Hp → Prop} {a4 s0 : Int} {a0 a2 a5 a6 : Nat} {a3 a7 a8 a9 a10 a11 a12 a13 a14 a15 a16 a17 a18 a19 a20 a21 a22 a23 a24 a25 a26 a27 : Value} (T : (tg h (10000 + ck h) = 0) ∧ R 99 161 [.ref a0, .ref 0, .ref a2, a3, .int (I a4), .ref a5, .ref a6, a7, .int (I s0), .ref (10000 + ck h), .int (I 0), a11, a12, a13, a14, a15, a16, a17, a18, a19, a20, a21, a22, a23, a24, a25, a26, a27] [] (mk h (10000 + ck h) 20 (7 : Int).toNat (7 : Int).toNat) P) : R 99 150 [.ref a0, .ref 0, .ref a2, a3, .int (I a4), .ref a5, .ref a6, a7, a8, a9, a10, a11, a12, a13, a14, a15, a16, a17, a18, a19, a20, a21, a22, a23, a24, a25, a26, a27] [.int (I s0)] h P := by
  refine R_istore (Dat dd_L_law_c1 29 rfl) rfl rfl ?_
  refine R_bipush (Dat dd_L_law_c1 30 rfl) (a := 7) rfl ?_
  obtain ⟨g1, T⟩ := T
  refine R_newa (Dat dd_L_law_c1 31 rfl) rfl (q := 10000 + ck h) rfl g1 (Or.inr (Nat.le_add_right _ _)) (by decide) (by decide) ?_
  refine R_astore (Dat dd_L_law_c1 32 rfl) rfl rfl rfl ?_
  refine R_iconst (Dat dd_L_law_c1 33 rfl) ?_
  refine R_istore (Dat dd_L_law_c1 34 rfl) rfl rfl ?_
  exact T
theorem t_L_law_161 {h : Hp} {P : Value → Hp → Prop} {a4 a8 a10 : Int} {a0 a2 a5 a6 a9 : Nat} {a3 a7 a11 a12 a13 a14 a15 a16 a17 a18 a19 a20 a21 a22 a23 a24 a25 a26 a27 : Value} (T : (rng a10) ∧ (rng a4) ∧ ((a10 < a4 → (tg h a9 = 20) ∧ ((ln h a9 : Int) ≤ 2147483648) ∧ (0 ≤ a10) ∧ (a10 < ln h a9) ∧ R 99 161 [.ref a0, .ref 0, .ref a2, a3, .int (I a4), .ref a5, .ref a6, a7, .int (I a8), .ref a9, .int (I (a10 + 1)), a11, a12, a13, a14, a15, a16, a17, a18, a19, a20, a21, a22, a23, a24, a25, a26, a27] [] (setI h a9 a10 (wr a10)) P) ∧ (¬ a10 < a4 → R 99 187 [.ref a0, .ref 0, .ref a2, a3, .int (I a4), .ref a5, .ref a6, a7, .int (I a8), .ref a9, .int (I 0), .int (I 0), a12, a13, a14, a15, a16, a17, a18, a19, a20, a21, a22, a23, a24, a25, a26, a27] [] h P))) : R 99 161 [.ref a0, .ref 0, .ref a2, a3, .int (I a4), .ref a5, .ref a6, a7, .int (I a8), .ref a9, .int (I a10), a11, a12, a13, a14, a15, a16, a17, a18, a19, a20, a21, a22, a23, a24, a25, a26, a27] [] h P := by
  refine R_iload (Dat dd_L_law_c1 35 rfl) rfl ?_
  refine R_iload (Dat dd_L_law_c1 36 rfl) rfl ?_
  obtain ⟨g1, T⟩ := T
  obtain ⟨g2, T⟩ := T
  refine R_ic_ge (Dat dd_L_law_c1 37 rfl) rfl g1 g2 (fun c => ?_) (fun c => ?_)
  · replace T := T.1 c
    refine R_aload (Dat dd_L_law_c1 38 rfl) rfl rfl ?_
    refine R_iload (Dat dd_L_law_c1 39 rfl) rfl ?_
    refine R_iload (Dat dd_L_law_c1 40 rfl) rfl ?_
    obtain ⟨g3, T⟩ := T
    obtain ⟨g4, T⟩ := T
    obtain ⟨g5, T⟩ := T
    obtain ⟨g6, T⟩ := T
    refine R_iastore (Dat dd_L_law_c1 41 rfl) g3 g4 g5 g6 (v := wr a10) rfl ?_
    refine R_iinc (Dat dd_L_law_c1 42 rfl) rfl rfl rfl ?_
    refine R_goto (Dat dd_L_law_c1 43 rfl) rfl ?_
    exact T
  · replace T := T.2 c
    refine R_iconst (Dat dd_L_law_c1 44 rfl) ?_
    refine R_istore (Dat dd_L_law_c1 45 rfl) rfl rfl ?_
    refine R_iconst (Dat dd_L_law_c1 46 rfl) ?_
    refine R_istore (Dat dd_L_law_c1 47 rfl) rfl rfl ?_
    exact T
theorem t_L_law_187 {h : Hp} {P : Value → Hp → Prop} {a4 a8 a10 a11 : Int} {a0 a2 a5 a6 a9 : Nat} {a3 a7 a12 a13 a14 a15 a16 a17 a18 a19 a20 a21 a22 a23 a24 a25 a26 a27 : Value} (T : (rng a11) ∧ ((a11 < 12 → R 87 0 [.ref a0, .int (I (10 + a11))] [] h (fun v h2 => R 99 203 [.ref a0, .ref 0, .ref a2, a3, .int (I a4), .ref a5, .ref a6, a7, .int (I a8), .ref a9, .int (I a10), .int (I a11), a12, a13, a14, a15, a16, a17, a18, a19, a20, a21, a22, a23, a24, a25, a26, a27] (v :: []) h2 P)) ∧ (¬ a11 < 12 → (tg h 0 = 12) ∧ R 47 0 [.ref 0, .int (I 2), .retAddr 0] [] h (fun v h2 => R 99 1297 [.ref a0, .ref 0, .ref a2, a3, .int (I a4), .ref a5, .ref a6, a7, .int (I a8), .ref a9, .int (I a10), .int (I a11), a12, a13, a14, a15, a16, a17, a18, a19, a20, a21, a22, a23, a24, a25, a26, a27] (v :: []) h2 P)))) : R 99 187 [.ref a0, .ref 0, .ref a2, a3, .int (I a4), .ref a5, .ref a6, a7, .int (I a8), .ref a9, .int (I a10), .int (I a11), a12, a13, a14, a15, a16, a17, a18, a19, a20, a21, a22, a23, a24, a25, a26, a27] [] h P := by
  refine R_iload (Dat dd_L_law_c1 48 rfl) rfl ?_
  refine R_bipush (Dat dd_L_law_c1 49 rfl) (a := 12) rfl ?_
  obtain ⟨g1, T⟩ := T
  refine R_ic_ge (Dat dd_L_law_c1 50 rfl) rfl g1 (by decide) (fun c => ?_) (fun c => ?_)
  · replace T := T.1 c
    refine R_aload_n (Dat dd_L_law_c1 51 rfl) rfl rfl ?_
    refine R_bipush (Dat dd_L_law_c1 52 rfl) (a := 10) rfl ?_
    refine R_iload (Dat dd_L_law_c1 53 rfl) rfl ?_
    refine R_iadd (Dat dd_L_law_c1 54 rfl) ?_
    exact R_call0 (Dat dd_L_law_c1 55 rfl) rfl rfl rfl rfl rfl rfl T
  · replace T := T.2 c
    refine R_aload_n (Dat dd_L_law_c11 34 rfl) rfl rfl ?_
    refine R_iconst (Dat dd_L_law_c11 35 rfl) ?_
    obtain ⟨g2, T⟩ := T
    exact R_call1 (Dat dd_L_law_c11 36 rfl) rfl g2 rfl rfl rfl rfl rfl T
theorem t_L_law_203 {h : Hp} {P : Value → Hp → Prop} {a4 a8 a10 a11 s0 : Int} {a0 a2 a5 a6 a9 : Nat} {a3 a7 a12 a13 a14 a15 a16 a17 a18 a19 a20 a21 a22 a23 a24 a25 a26 a27 : Value} (T : R 88 0 [.int (I s0), .int (I 7)] [] h (fun v h2 => R 99 212 [.ref a0, .ref 0, .ref a2, a3, .int (I a4), .ref a5, .ref a6, a7, .int (I a8), .ref a9, .int (I a10), .int (I a11), .int (I s0), a13, a14, a15, a16, a17, a18, a19, a20, a21, a22, a23, a24, a25, a26, a27] (v :: []) h2 P)) : R 99 203 [.ref a0, .ref 0, .ref a2, a3, .int (I a4), .ref a5, .ref a6, a7, .int (I a8), .ref a9, .int (I a10), .int (I a11), a12, a13, a14, a15, a16, a17, a18, a19, a20, a21, a22, a23, a24, a25, a26, a27] [.int (I s0)] h P := by
  refine R_istore (Dat dd_L_law_c1 56 rfl) rfl rfl ?_
  refine R_iload (Dat dd_L_law_c1 57 rfl) rfl ?_
  refine R_bipush (Dat dd_L_law_c1 58 rfl) (a := 7) rfl ?_
  exact R_call0 (Dat dd_L_law_c1 59 rfl) rfl rfl rfl rfl rfl rfl T
theorem t_L_law_1297 {h : Hp} {P : Value → Hp → Prop} {a4 a8 s0 : Int} {a0 a2 a3 a5 a6 a7 a9 a10 a11 a12 a13 a14 a15 a16 a17 a18 a19 a20 a21 a22 a23 a24 a25 a26 a27 : Value} (T : (rng s0) ∧ ((s0 = (-1) → (tg h 0 = 12) ∧ R 37 0 [.ref 0, .int (I a8), .retAddr 0] [] h (fun v h2 => R 99 1307 [a0, .ref 0, a2, a3, .int (I a4), a5, a6, a7, .int (I a8), a9, a10, a11, a12, a13, a14, a15, a16, a17, a18, a19, a20, a21, a22, a23, a24, a25, a26, a27] (v :: []) h2 P)) ∧ (¬ s0 = (-1) → R 99 1497 [a0, .ref 0, a2, a3, .int (I a4), a5, a6, a7, .int (I a8), a9, a10, a11, a12, a13, a14, a15, a16, a17, a18, a19, a20, a21, a22, a23, a24, a25, a26, a27] [.int (I 0)] h P))) : R 99 1297 [a0, .ref 0, a2, a3, .int (I a4), a5, a6, a7, .int (I a8), a9, a10, a11, a12, a13, a14, a15, a16, a17, a18, a19, a20, a21, a22, a23, a24, a25, a26, a27] [.int (I s0)] h P := by
  refine R_iconst (Dat dd_L_law_c11 37 rfl) ?_
  obtain ⟨g1, T⟩ := T
  refine R_ic_ne (Dat dd_L_law_c11 38 rfl) rfl g1 (by decide) (fun c => ?_) (fun c => ?_)
  · replace T := T.1 c
    refine R_aload_n (Dat dd_L_law_c11 39 rfl) rfl rfl ?_
    refine R_iload (Dat dd_L_law_c11 40 rfl) rfl ?_
    obtain ⟨g2, T⟩ := T
    exact R_call1 (Dat dd_L_law_c11 41 rfl) rfl g2 rfl rfl rfl rfl rfl T
  · replace T := T.2 c
    refine R_iconst (Dat dd_L_law_c13 30 rfl) ?_
    exact T
theorem t_L_law_212 {h : Hp} {P : Value → Hp → Prop} {a4 a8 a10 a11 a12 s0 : Int} {a0 a2 a5 a6 a9 : Nat} {a3 a7 a13 a14 a15 a16 a17 a18 a19 a20 a21 a22 a23 a24 a25 a26 a27 : Value} (T : R 88 0 [.int (I (shr a12 3)), .int (I 3)] [] h (fun v h2 => R 99 223 [.ref a0, .ref 0, .ref a2, a3, .int (I a4), .ref a5, .ref a6, a7, .int (I a8), .ref a9, .int (I a10), .int (I a11), .int (I a12), .int (I s0), a14, a15, a16, a17, a18, a19, a20, a21, a22, a23, a24, a25, a26, a27] (v :: [.int (I 1)]) h2 P)) : R 99 212 [.ref a0, .ref 0, .ref a2, a3, .int (I a4), .ref a5, .ref a6, a7, .int (I a8), .ref a9, .int (I a10), .int (I a11), .int (I a12), a13, a14, a15, a16, a17, a18, a19, a20, a21, a22, a23, a24, a25, a26, a27] [.int (I s0)] h P := by
  refine R_istore (Dat dd_L_law_c2 0 rfl) rfl rfl ?_
  refine R_iconst (Dat dd_L_law_c2 1 rfl) ?_
  refine R_iload (Dat dd_L_law_c2 2 rfl) rfl ?_
  refine R_iconst (Dat dd_L_law_c2 3 rfl) ?_
  refine R_ishr (Dat dd_L_law_c2 4 rfl) ?_
  refine R_iconst (Dat dd_L_law_c2 5 rfl) ?_
  exact R_call0 (Dat dd_L_law_c2 6 rfl) rfl rfl rfl rfl rfl rfl T
theorem t_L_law_1307 {h : Hp} {P : Value → Hp → Prop} {a4 a8 s0 : Int} {a0 a2 a3 a5 a6 a7 a9 a10 a11 a12 a13 a14 a15 a16 a17 a18 a19 a20 a21 a22 a23 a24 a25 a26 a27 : Value} (T : (rng s0) ∧ ((s0 = (-1) → (tg h 0 = 12) ∧ R 39 0 [.ref 0, .int (I 0), .int (I a4)] [] h (fun v h2 => R 99 1318 [a0, .ref 0, a2, a3, .int (I a4), a5, a6, a7, .int (I a8), a9, a10, a11, a12, a13, a14, a15, a16, a17, a18, a19, a20, a21, a22, a23, a24, a25, a26, a27] (v :: []) h2 P)) ∧ (¬ s0 = (-1) → R 99 1497 [a0, .ref 0, a2, a3, .int (I a4), a5, a6, a7, .int (I a8), a9, a10, a11, a12, a13, a14, a15, a16, a17, a18, a19, a20, a21, a22, a23, a24, a25, a26, a27] [.int (I 0)] h P))) : R 99 1307 [a0, .ref 0, a2, a3, .int (I a4), a5, a6, a7, .int (I a8), a9, a10, a11, a12, a13, a14, a15, a16, a17, a18, a19, a20, a21, a22, a23, a24, a25, a26, a27] [.int (I s0)] h P := by
  refine R_iconst (Dat dd_L_law_c11 42 rfl) ?_
  obtain ⟨g1, T⟩ := T
  refine R_ic_ne (Dat dd_L_law_c11 43 rfl) rfl g1 (by decide) (fun c => ?_) (fun c => ?_)
  · replace T := T.1 c
    refine R_aload_n (Dat dd_L_law_c11 44 rfl) rfl rfl ?_
    refine R_iconst (Dat dd_L_law_c11 45 rfl) ?_
    refine R_iload (Dat dd_L_law_c11 46 rfl) rfl ?_
    obtain ⟨g2, T⟩ := T
    exact R_call1 (Dat dd_L_law_c11 47 rfl) rfl g2 rfl rfl rfl rfl rfl T
  · replace T := T.2 c
    refine R_iconst (Dat dd_L_law_c13 30 rfl) ?_
    exact T
theorem t_L_law_1497 {h : Hp} {P : Value → Hp → Prop} {s0 : Int} {a0 a1 a2 a3 a4 a5 a6 a7 a8 a9 a10 a11 a12 a13 a14 a15 a16 a17 a18 a19 a20 a21 a22 a23 a24 a25 a26 a27 : Value} (T : (bz (I s0) = true) ∧ P (.int (I s0)) h) : R 99 1497 [a0, a1, a2, a3, a4, a5, a6, a7, a8, a9, a10, a11, a12, a13, a14, a15, a16, a17, a18, a19, a20, a21, a22, a23, a24, a25, a26, a27] [.int (I s0)] h P := by
  obtain ⟨g1, T⟩ := T
  exact R_ireturn (Dat dd_L_law_c13 31 rfl) (by rw [g1]; rfl) T
theorem t_L_law_223 {h : Hp} {P : Value → Hp → Prop} {a4 a8 a10 a11 a12 a13 s0 s1 : Int} {a0 a2 a5 a6 a9 : Nat} {a3 a7 a14 a15 a16 a17 a18 a19 a20 a21 a22 a23 a24 a25 a26 a27 : Value} (T : (rng a13) ∧ ((a13 < 3 → R 88 0 [.int (I (shr a12 5)), .int (I 6)] [] h (fun v h2 => R 99 241 [.ref a0, .ref 0, .ref a2, a3, .int (I a4), .ref a5, .ref a6, a7, .int (I a8), .ref a9, .int (I a10), .int (I a11), .int (I a12), .int (I a13), .int (I (s1 + s0)), a15, a16, a17, a18, a19, a20, a21, a22, a23, a24, a25, a26, a27] (v :: []) h2 P)) ∧ (¬ a13 < 3 → (rng a13) ∧ ((a13 = 3 → R 99 313 [.ref a0, .ref 0, .ref a2, a3, .int (I a4), .ref a5, .ref a6, a7, .int (I a8), .ref a9, .int (I a10), .int (I a11), .int (I a12), .int (I a13), .int (I (s1 + s0)), .int (I 0), a16, a17, a18, a19, a20, a21, a22, a23, a24, a25, a26, a27] [] h P) ∧ (¬ a13 = 3 → (rng a13) ∧ ((a13 = 4 → (tg h a9 = 20 ∨ tg h a9 = 30) ∧ ((ln h a9 : Int) ≤ 2147483648) ∧ ((0 : Int) < ln h a9) ∧ R 99 392 [.ref a0, .ref 0, .ref a2, a3, .int (I a4), .ref a5, .ref a6, a7, .int (I a8), .ref a9, .int (I a10), .int (I a11), .int (I a12), .int (I a13), .int (I (s1 + s0)), .int (I (iv h a9 0)), .int (I 1), a17, a18, a19, a20, a21, a22, a23, a24, a25, a26, a27] [] h P) ∧ (¬ a13 = 4 → (rng a13) ∧ ((a13 = 5 → R 88 0 [.int (I (shr a12 5)), .int (I a8)] [] h (fun v h2 => R 99 455 [.ref a0, .ref 0, .ref a2, a3, .int (I a4), .ref a5, .ref a6, a7, .int (I a8), .ref a9, .int (I a10), .int (I a11), .int (I a12), .int (I a13), .int (I (s1 + s0)), a15, a16, a17, a18, a19, a20, a21, a22, a23, a24, a25, a26, a27] (v :: []) h2 P)) ∧ (¬ a13 = 5 → R 88 0 [.int (I (shr a12 5)), .int (I 5)] [] h (fun v h2 => R 99 493 [.ref a0, .ref 0, .ref a2, a3, .int (I a4), .ref a5, .ref a6, a7, .int (I a8), .ref a9, .int (I a10), .int (I a11), .int (I a12), .int (I a13), .int (I (s1 + s0)), a15, a16, a17, a18, a19, a20, a21, a22, a23, a24, a25, a26, a27] (v :: []) h2 P)))))))))) : R 99 223 [.ref a0, .ref 0, .ref a2, a3, .int (I a4), .ref a5, .ref a6, a7, .int (I a8), .ref a9, .int (I a10), .int (I a11), .int (I a12), .int (I a13), a14, a15, a16, a17, a18, a19, a20, a21, a22, a23, a24, a25, a26, a27] [.int (I s0), .int (I s1)] h P := by
  refine R_iadd (Dat dd_L_law_c2 7 rfl) ?_
  refine R_istore (Dat dd_L_law_c2 8 rfl) rfl rfl ?_
  refine R_iload (Dat dd_L_law_c2 9 rfl) rfl ?_
  refine R_iconst (Dat dd_L_law_c2 10 rfl) ?_
  obtain ⟨g1, T⟩ := T
  refine R_ic_ge (Dat dd_L_law_c2 11 rfl) rfl g1 (by decide) (fun c => ?_) (fun c => ?_)
  · replace T := T.1 c
    refine R_iload (Dat dd_L_law_c2 12 rfl) rfl ?_
    refine R_iconst (Dat dd_L_law_c2 13 rfl) ?_
    refine R_ishr (Dat dd_L_law_c2 14 rfl) ?_
    refine R_bipush (Dat dd_L_law_c2 15 rfl) (a := 6) rfl ?_
    exact R_call0 (Dat dd_L_law_c2 16 rfl) rfl rfl rfl rfl rfl rfl T
  · replace T := T.2 c
    refine R_iload (Dat dd_L_law_c2 49 rfl) rfl ?_
    refine R_iconst (Dat dd_L_law_c2 50 rfl) ?_
    obtain ⟨g2, T⟩ := T
    refine R_ic_ne (Dat dd_L_law_c2 51 rfl) rfl g2 (by decide) (fun c => ?_) (fun c => ?_)
    · replace T := T.1 c
      refine R_iconst (Dat dd_L_law_c2 52 rfl) ?_
      refine R_istore (Dat dd_L_law_c2 53 rfl) rfl rfl ?_
      exact T
    · replace T := T.2 c
      refine R_iload (Dat dd_L_law_c3 31 rfl) rfl ?_
      refine R_iconst (Dat dd_L_law_c3 32 rfl) ?_
      obtain ⟨g3, T⟩ := T
      refine R_ic_ne (Dat dd_L_law_c3 33 rfl) rfl g3 (by decide) (fun c => ?_) (fun c => ?_)
      · replace T := T.1 c
        refine R_aload (Dat dd_L_law_c3 34 rfl) rfl rfl ?_
        refine R_iconst (Dat dd_L_law_c3 35 rfl) ?_
        obtain ⟨g4, T⟩ := T
        obtain ⟨g5, T⟩ := T
        obtain ⟨g6, T⟩ := T
        refine R_iaload (Dat dd_L_law_c3 36 rfl) g4 g5 (by decide) g6 ?_
        refine R_istore (Dat dd_L_law_c3 37 rfl) rfl rfl ?_
        refine R_iconst (Dat dd_L_law_c3 38 rfl) ?_
        refine R_istore (Dat dd_L_law_c3 39 rfl) rfl rfl ?_
        exact T
      · replace T := T.2 c
        refine R_iload (Dat dd_L_law_c4 6 rfl) rfl ?_
        refine R_iconst (Dat dd_L_law_c4 7 rfl) ?_
        obtain ⟨g7, T⟩ := T
        refine R_ic_ne (Dat dd_L_law_c4 8 rfl) rfl g7 (by decide) (fun c => ?_) (fun c => ?_)
        · replace T := T.1 c
          refine R_iload (Dat dd_L_law_c4 9 rfl) rfl ?_
          refine R_iconst (Dat dd_L_law_c4 10 rfl) ?_
          refine R_ishr (Dat dd_L_law_c4 11 rfl) ?_
          refine R_iload (Dat dd_L_law_c4 12 rfl) rfl ?_
          exact R_call0 (Dat dd_L_law_c4 13 rfl) rfl rfl rfl rfl rfl rfl T
        · replace T := T.2 c
          refine R_iload (Dat dd_L_law_c4 29 rfl) rfl ?_
          refine R_iconst (Dat dd_L_law_c4 30 rfl) ?_
          refine R_ishr (Dat dd_L_law_c4 31 rfl) ?_
          refine R_iconst (Dat dd_L_law_c4 32 rfl) ?_
          exact R_call0 (Dat dd_L_law_c4 33 rfl) rfl rfl rfl rfl rfl rfl T
theorem t_L_law_1318 {h : Hp} {P : Value → Hp → Prop} {a4 a8 s0 : Int} {a0 a2 a3 a5 a6 a7 a9 a10 a11 a12 a13 a14 a15 a16 a17 a18 a19 a20 a21 a22 a23 a24 a25 a26 a27 : Value} (T : (rng s0) ∧ ((s0 = (-1) → (tg h 0 = 12) ∧ R 33 0 [.ref 0, .int (I a4)] [] h (fun v h2 => R 99 1328 [a0, .ref 0, a2, a3, .int (I a4), a5, a6, a7, .int (I a8), a9, a10, a11, a12, a13, a14, a15, a16, a17, a18, a19, a20, a21, a22, a23, a24, a25, a26, a27] (v :: []) h2 P)) ∧ (¬ s0 = (-1) → R 99 1497 [a0, .ref 0, a2, a3, .int (I a4), a5, a6, a7, .int (I a8), a9, a10, a11, a12, a13, a14, a15, a16, a17, a18, a19, a20, a21, a22, a23, a24, a25, a26, a27] [.int (I 0)] h P))) : R 99 1318 [a0, .ref 0, a2, a3, .int (I a4), a5, a6, a7, .int (I a8), a9, a10, a11, a12, a13, a14, a15, a16, a17, a18, a19, a20, a21, a22, a23, a24, a25, a26, a27] [.int (I s0)] h P := by
  refine R_iconst (Dat dd_L_law_c11 48 rfl) ?_
  obtain ⟨g1, T⟩ := T
  refine R_ic_ne (Dat dd_L_law_c11 49 rfl) rfl g1 (by decide) (fun c => ?_) (fun c => ?_)
  · replace T := T.1 c
    refine R_aload_n (Dat dd_L_law_c11 50 rfl) rfl rfl ?_
    refine R_iload (Dat dd_L_law_c11 51 rfl) rfl ?_
    obtain ⟨g2, T⟩ := T
    exact R_call1 (Dat dd_L_law_c11 52 rfl) rfl g2 rfl rfl rfl rfl rfl T
  · replace T := T.2 c
    refine R_iconst (Dat dd_L_law_c13 30 rfl) ?_
    exact T
theorem t_L_law_241 {h : Hp} {P : Value → Hp → Prop} {a4 a8 a10 a11 a12 a14 s0 : Int} {a0 a2 a5 a6 a9 : Nat} {a3 a7 a13 a15 a16 a17 a18 a19 a20 a21 a22 a23 a24 a25 a26 a27 : Value} (T : R 99 249 [.ref a0, .ref 0, .ref a2, a3, .int (I a4), .ref a5, .ref a6, a7, .int (I a8), .ref a9, .int (I a10), .int (I a11), .int (I a12), a13, .int (I a14), .int (I s0), .int (I 0), .int (I 0), a18, a19, a20, a21, a22, a23, a24, a25, a26, a27] [] h P) : R 99 241 [.ref a0, .ref 0, .ref a2, a3, .int (I a4), .ref a5, .ref a6, a7, .int (I a8), .ref a9, .int (I a10), .int (I a11), .int (I a12), a13, .int (I a14), a15, a16, a17, a18, a19, a20, a21, a22, a23, a24, a25, a26, a27] [.int (I s0)] h P := by
  refine R_istore (Dat dd_L_law_c2 17 rfl) rfl rfl ?_
  refine R_iconst (Dat dd_L_law_c2 18 rfl) ?_
  refine R_istore (Dat dd_L_law_c2 19 rfl) rfl rfl ?_
  refine R_iconst (Dat dd_L_law_c2 20 rfl) ?_
  refine R_istore (Dat dd_L_law_c2 21 rfl) rfl rfl ?_
  exact T
theorem t_L_law_313 {h : Hp} {P : Value → Hp → Prop} {a4 a8 a10 a11 a12 a14 a15 : Int} {a0 a2 a5 a6 a9 : Nat} {a3 a7 a13 a16 a17 a18 a19 a20 a21 a22 a23 a24 a25 a26 a27 : Value} (T : (0 ≤ a4 ∧ a4 < 2147483648) ∧ (rng a15) ∧ (rng (a4 / 2)) ∧ ((a15 < (a4 / 2) → (tg h a9 = 20 ∨ tg h a9 = 30) ∧ ((ln h a9 : Int) ≤ 2147483648) ∧ (0 ≤ a15) ∧ (a15 < ln h a9) ∧ (tg h a9 = 20 ∨ tg h a9 = 30) ∧ ((ln h a9 : Int) ≤ 2147483648) ∧ (0 ≤ ((a4 - 1) - a15)) ∧ (((a4 - 1) - a15) < ln h a9) ∧ (tg h a9 = 20) ∧ ((ln h a9 : Int) ≤ 2147483648) ∧ (0 ≤ a15) ∧ (a15 < ln h a9) ∧ (tg (setI h a9 a15 (wr (iv h a9 ((a4 - 1) - a15)))) a9 = 20) ∧ ((ln (setI h a9 a15 (wr (iv h a9 ((a4 - 1) - a15)))) a9 : Int) ≤ 2147483648) ∧ (0 ≤ ((a4 - 1) - a15)) ∧ (((a4 - 1) - a15) < ln (setI h a9 a15 (wr (iv h a9 ((a4 - 1) - a15)))) a9) ∧ R 99 313 [.ref a0, .ref 0, .ref a2, a3, .int (I a4), .ref a5, .ref a6, a7, .int (I a8), .ref a9, .int (I a10), .int (I a11), .int (I a12), a13, .int (I a14), .int (I (a15 + 1)), .int (I (iv h a9 a15)), a17, a18, a19, a20, a21, a22, a23, a24, a25, a26, a27] [] (setI (setI h a9 a15 (wr (iv h a9 ((a4 - 1) - a15)))) a9 ((a4 - 1) - a15) (wr (iv h a9 a15))) P) ∧ (¬ a15 < (a4 / 2) → (tg h 0 = 12) ∧ R 67 0 [.ref 0] [] h (fun v h2 => R 99 366 [.ref a0, .ref 0, .ref a2, a3, .int (I a4), .ref a5, .ref a6, a7, .int (I a8), .ref a9, .int (I a10), .int (I a11), .int (I a12), a13, .int (I a14), .int (I a15), a16, a17, a18, a19, a20, a21, a22, a23, a24, a25, a26, a27] (v :: []) h2 P)))) : R 99 313 [.ref a0, .ref 0, .ref a2, a3, .int (I a4), .ref a5, .ref a6, a7, .int (I a8), .ref a9, .int (I a10), .int (I a11), .int (I a12), a13, .int (I a14), .int (I a15), a16, a17, a18, a19, a20, a21, a22, a23, a24, a25, a26, a27] [] h P := by
  refine R_iload (Dat dd_L_law_c2 54 rfl) rfl ?_
  refine R_iload (Dat dd_L_law_c2 55 rfl) rfl ?_
  refine R_iconst (Dat dd_L_law_c2 56 rfl) ?_
  obtain ⟨g1, T⟩ := T
  refine R_idiv (Dat dd_L_law_c2 57 rfl) g1 (by decide) ?_
  obtain ⟨g2, T⟩ := T
  obtain ⟨g3, T⟩ := T
  refine R_ic_ge (Dat dd_L_law_c2 58 rfl) rfl g2 g3 (fun c => ?_) (fun c => ?_)
  · replace T := T.1 c
    refine R_aload (Dat dd_L_law_c2 59 rfl) rfl rfl ?_
    refine R_iload (Dat dd_L_law_c3 0 rfl) rfl ?_
    obtain ⟨g4, T⟩ := T
    obtain ⟨g5, T⟩ := T
    obtain ⟨g6, T⟩ := T
    obtain ⟨g7, T⟩ := T
    refine R_iaload (Dat dd_L_law_c3 1 rfl) g4 g5 g6 g7 ?_
    refine R_istore (Dat dd_L_law_c3 2 rfl) rfl rfl ?_
    refine R_aload (Dat dd_L_law_c3 3 rfl) rfl rfl ?_
    refine R_iload (Dat dd_L_law_c3 4 rfl) rfl ?_
    refine R_aload (Dat dd_L_law_c3 5 rfl) rfl rfl ?_
    refine R_iload (Dat dd_L_law_c3 6 rfl) rfl ?_
    refine R_iconst (Dat dd_L_law_c3 7 rfl) ?_
    refine R_isub (Dat dd_L_law_c3 8 rfl) ?_
    refine R_iload (Dat dd_L_law_c3 9 rfl) rfl ?_
    refine R_isub (Dat dd_L_law_c3 10 rfl) ?_
    obtain ⟨g8, T⟩ := T
    obtain ⟨g9, T⟩ := T
    obtain ⟨g10, T⟩ := T
    obtain ⟨g11, T⟩ := T
    refine R_iaload (Dat dd_L_law_c3 11 rfl) g8 g9 g10 g11 ?_
    obtain ⟨g12, T⟩ := T
    obtain ⟨g13, T⟩ := T
    obtain ⟨g14, T⟩ := T
    obtain ⟨g15, T⟩ := T
    refine R_iastore (Dat dd_L_law_c3 12 rfl) g12 g13 g14 g15 (v := wr (iv h a9 ((a4 - 1) - a15))) rfl ?_
    refine R_aload (Dat dd_L_law_c3 13 rfl) rfl rfl ?_
    refine R_iload (Dat dd_L_law_c3 14 rfl) rfl ?_
    refine R_iconst (Dat dd_L_law_c3 15 rfl) ?_
    refine R_isub (Dat dd_L_law_c3 16 rfl) ?_
    refine R_iload (Dat dd_L_law_c3 17 rfl) rfl ?_
    refine R_isub (Dat dd_L_law_c3 18 rfl) ?_
    refine R_iload (Dat dd_L_law_c3 19 rfl) rfl ?_
    obtain ⟨g16, T⟩ := T
    obtain ⟨g17, T⟩ := T
    obtain ⟨g18, T⟩ := T
    obtain ⟨g19, T⟩ := T
    refine R_iastore (Dat dd_L_law_c3 20 rfl) g16 g17 g18 g19 (v := wr (iv h a9 a15)) rfl ?_
    refine R_iinc (Dat dd_L_law_c3 21 rfl) rfl rfl rfl ?_
    refine R_goto (Dat dd_L_law_c3 22 rfl) rfl ?_
    exact T
  · replace T := T.2 c
    refine R_aload_n (Dat dd_L_law_c3 23 rfl) rfl rfl ?_
    obtain ⟨g20, T⟩ := T
    exact R_call1 (Dat dd_L_law_c3 24 rfl) rfl g20 rfl rfl rfl rfl rfl T
theorem t_L_law_392 {h : Hp} {P : Value → Hp → Prop} {a4 a8 a10 a11 a12 a14 a15 a16 : Int} {a0 a2 a5 a6 a9 : Nat} {a3 a7 a13 a17 a18 a19 a20 a21 a22 a23 a24 a25 a26 a27 : Value} (T : (rng a16) ∧ (rng a4) ∧ ((a16 < a4 → (tg h a9 = 20 ∨ tg h a9 = 30) ∧ ((ln h a9 : Int) ≤ 2147483648) ∧ (0 ≤ a16) ∧ (a16 < ln h a9) ∧ (tg h a9 = 20) ∧ ((ln h a9 : Int) ≤ 2147483648) ∧ (0 ≤ (a16 - 1)) ∧ ((a16 - 1) < ln h a9) ∧ R 99 392 [.ref a0, .ref 0, .ref a2, a3, .int (I a4), .ref a5, .ref a6, a7, .int (I a8), .ref a9, .int (I a10), .int (I a11), .int (I a12), a13, .int (I a14), .int (I a15), .int (I (a16 + 1)), a17, a18, a19, a20, a21, a22, a23, a24, a25, a26, a27] [] (setI h a9 (a16 - 1) (wr (iv h a9 a16))) P) ∧ (¬ a16 < a4 → (tg h a9 = 20) ∧ ((ln h a9 : Int) ≤ 2147483648) ∧ (0 ≤ (a4 - 1)) ∧ ((a4 - 1) < ln h a9) ∧ (tg (setI h a9 (a4 - 1) (wr a15)) 0 = 12) ∧ R 70 0 [.ref 0, .retAddr 0] [] (setI h a9 (a4 - 1) (wr a15)) (fun v h2 => R 99 430 [.ref a0, .ref 0, .ref a2, a3, .int (I a4), .ref a5, .ref a6, a7, .int (I a8), .ref a9, .int (I a10), .int (I a11), .int (I a12), a13, .int (I a14), .int (I a15), .int (I a16), a17, a18, a19, a20, a21, a22, a23, a24, a25, a26, a27] (v :: []) h2 P)))) : R 99 392 [.ref a0, .ref 0, .ref a2, a3, .int (I a4), .ref a5, .ref a6, a7, .int (I a8), .ref a9, .int (I a10), .int (I a11), .int (I a12), a13, .int (I a14), .int (I a15), .int (I a16), a17, a18, a19, a20, a21, a22, a23, a24, a25, a26, a27] [] h P := by
  refine R_iload (Dat dd_L_law_c3 40 rfl) rfl ?_
  refine R_iload (Dat dd_L_law_c3 41 rfl) rfl ?_
  obtain ⟨g1, T⟩ := T
  obtain ⟨g2, T⟩ := T
  refine R_ic_ge (Dat dd_L_law_c3 42 rfl) rfl g1 g2 (fun c => ?_) (fun c => ?_)
  · replace T := T.1 c
    refine R_aload (Dat dd_L_law_c3 43 rfl) rfl rfl ?_
    refine R_iload (Dat dd_L_law_c3 44 rfl) rfl ?_
    refine R_iconst (Dat dd_L_law_c3 45 rfl) ?_
    refine R_isub (Dat dd_L_law_c3 46 rfl) ?_
    refine R_aload (Dat dd_L_law_c3 47 rfl) rfl rfl ?_
    refine R_iload (Dat dd_L_law_c3 48 rfl) rfl ?_
    obtain ⟨g3, T⟩ := T
    obtain ⟨g4, T⟩ := T
    obtain ⟨g5, T⟩ := T
    obtain ⟨g6, T⟩ := T
    refine R_iaload (Dat dd_L_law_c3 49 rfl) g3 g4 g5 g6 ?_
    obtain ⟨g7, T⟩ := T
    obtain ⟨g8, T⟩ := T
    obtain ⟨g9, T⟩ := T
    obtain ⟨g10, T⟩ := T
    refine R_iastore (Dat dd_L_law_c3 50 rfl) g7 g8 g9 g10 (v := wr (iv h a9 a16)) rfl ?_
    refine R_iinc (Dat dd_L_law_c3 51 rfl) rfl rfl rfl ?_
    refine R_goto (Dat dd_L_law_c3 52 rfl) rfl ?_
    exact T
  · replace T := T.2 c
    refine R_aload (Dat dd_L_law_c3 53 rfl) rfl rfl ?_
    refine R_iload (Dat dd_L_law_c3 54 rfl) rfl ?_
    refine R_iconst (Dat dd_L_law_c3 55 rfl) ?_
    refine R_isub (Dat dd_L_law_c3 56 rfl) ?_
    refine R_iload (Dat dd_L_law_c3 57 rfl) rfl ?_
    obtain ⟨g11, T⟩ := T
    obtain ⟨g12, T⟩ := T
    obtain ⟨g13, T⟩ := T
    obtain ⟨g14, T⟩ := T
    refine R_iastore (Dat dd_L_law_c3 58 rfl) g11 g12 g13 g14 (v := wr a15) rfl ?_
    refine R_aload_n (Dat dd_L_law_c3 59 rfl) rfl rfl ?_
    obtain ⟨g15, T⟩ := T
    exact R_call1 (Dat dd_L_law_c4 0 rfl) rfl g15 rfl rfl rfl rfl rfl T
theorem t_L_law_455 {h : Hp} {P : Value → Hp → Prop} {a4 a8 a10 a11 a12 a14 s0 : Int} {a0 a2 a5 a6 a9 : Nat} {a3 a7 a13 a15 a16 a17 a18 a19 a20 a21 a22 a23 a24 a25 a26 a27 : Value} (T : (tg h 0 = 12) ∧ R 37 0 [.ref 0, .int (I s0), .retAddr 0] [] h (fun v h2 => R 99 463 [.ref a0, .ref 0, .ref a2, a3, .int (I a4), .ref a5, .ref a6, a7, .int (I a8), .ref a9, .int (I a10), .int (I a11), .int (I a12), a13, .int (I a14), .int (I s0), a16, a17, a18, a19, a20, a21, a22, a23, a24, a25, a26, a27] (v :: []) h2 P)) : R 99 455 [.ref a0, .ref 0, .ref a2, a3, .int (I a4), .ref a5, .ref a6, a7, .int (I a8), .ref a9, .int (I a10), .int (I a11), .int (I a12), a13, .int (I a14), a15, a16, a17, a18, a19, a20, a21, a22, a23, a24, a25, a26, a27] [.int (I s0)] h P := by
  refine R_istore (Dat dd_L_law_c4 14 rfl) rfl rfl ?_
  refine R_aload_n (Dat dd_L_law_c4 15 rfl) rfl rfl ?_
  refine R_iload (Dat dd_L_law_c4 16 rfl) rfl ?_
  obtain ⟨g1, T⟩ := T
  exact R_call1 (Dat dd_L_law_c4 17 rfl) rfl g1 rfl rfl rfl rfl rfl T
theorem t_L_law_493 {h : Hp} {P : Value → Hp → Prop} {a4 a8 a10 a11 a12 a14 s0 : Int} {a0 a2 a5 a6 a9 : Nat} {a3 a7 a13 a15 a16 a17 a18 a19 a20 a21 a22 a23 a24 a25 a26 a27 : Value} (T : (tg h 0 = 12) ∧ R 82 0 [.ref 0, .int (I 2), .int (I 0), .int (I 6)] [] h (fun v h2 => R 99 506 [.ref a0, .ref 0, .ref a2, a3, .int (I a4), .ref a5, .ref a6, a7, .int (I a8), .ref a9, .int (I a10), .int (I a11), .int (I a12), a13, .int (I a14), .int (I s0), .int (I 0), a17, a18, a19, a20, a21, a22, a23, a24, a25, a26, a27] (v :: []) h2 P)) : R 99 493 [.ref a0, .ref 0, .ref a2, a3, .int (I a4), .ref a5, .ref a6, a7, .int (I a8), .ref a9, .int (I a10), .int (I a11), .int (I a12), a13, .int (I a14), a15, a16, a17, a18, a19, a20, a21, a22, a23, a24, a25, a26, a27] [.int (I s0)] h P := by
  refine R_istore (Dat dd_L_law_c4 34 rfl) rfl rfl ?_
  refine R_iconst (Dat dd_L_law_c4 35 rfl) ?_
  refine R_istore (Dat dd_L_law_c4 36 rfl) rfl rfl ?_
  refine R_aload_n (Dat dd_L_law_c4 37 rfl) rfl rfl ?_
  refine R_iconst (Dat dd_L_law_c4 38 rfl) ?_
  refine R_iconst (Dat dd_L_law_c4 39 rfl) ?_
  refine R_bipush (Dat dd_L_law_c4 40 rfl) (a := 6) rfl ?_
  obtain ⟨g1, T⟩ := T
  exact R_call1 (Dat dd_L_law_c4 41 rfl) rfl g1 rfl rfl rfl rfl rfl T
theorem t_L_law_1328 {h : Hp} {P : Value → Hp → Prop} {a4 a8 s0 : Int} {a0 a2 a3 a5 a6 a7 a9 a10 a11 a12 a13 a14 a15 a16 a17 a18 a19 a20 a21 a22 a23 a24 a25 a26 a27 : Value} (T : (rng s0) ∧ ((s0 = (-1) → (tg h 0 = 12) ∧ R 48 0 [.ref 0, .int (I 0), .int (I a4), .int (I 0), .int (I 1), .retAddr 0] [] h (fun v h2 => R 99 1341 [a0, .ref 0, a2, a3, .int (I a4), a5, a6, a7, .int (I a8), a9, a10, a11, a12, a13, a14, a15, a16, a17, a18, a19, a20, a21, a22, a23, a24, a25, a26, a27] (v :: []) h2 P)) ∧ (¬ s0 = (-1) → R 99 1497 [a0, .ref 0, a2, a3, .int (I a4), a5, a6, a7, .int (I a8), a9, a10, a11, a12, a13, a14, a15, a16, a17, a18, a19, a20, a21, a22, a23, a24, a25, a26, a27] [.int (I 0)] h P))) : R 99 1328 [a0, .ref 0, a2, a3, .int (I a4), a5, a6, a7, .int (I a8), a9, a10, a11, a12, a13, a14, a15, a16, a17, a18, a19, a20, a21, a22, a23, a24, a25, a26, a27] [.int (I s0)] h P := by
  refine R_iconst (Dat dd_L_law_c11 53 rfl) ?_
  obtain ⟨g1, T⟩ := T
  refine R_ic_ne (Dat dd_L_law_c11 54 rfl) rfl g1 (by decide) (fun c => ?_) (fun c => ?_)
  · replace T := T.1 c
    refine R_aload_n (Dat dd_L_law_c11 55 rfl) rfl rfl ?_
    refine R_iconst (Dat dd_L_law_c11 56 rfl) ?_
    refine R_iload (Dat dd_L_law_c11 57 rfl) rfl ?_
    refine R_iconst (Dat dd_L_law_c11 58 rfl) ?_
    refine R_iconst (Dat dd_L_law_c11 59 rfl) ?_
    obtain ⟨g2, T⟩ := T
    exact R_call1 (Dat dd_L_law_c12 0 rfl) rfl g2 rfl rfl rfl rfl rfl T
  · replace T := T.2 c
    refine R_iconst (Dat dd_L_law_c13 30 rfl) ?_
    exact T
theorem t_L_law_249 {h : Hp} {P : Value → Hp → Prop} {a4 a8 a10 a11 a12 a14 a15 a16 a17 : Int} {a0 a2 a5 a6 a9 : Nat} {a3 a7 a13 a18 a19 a20 a21 a22 a23 a24 a25 a26 a27 : Value} (T : (rng a17) ∧ (rng a15) ∧ ((a17 < a15 → R 94 0 [.ref a2, .ref a5, .int (I (-9)), .ref a9, .int (I a14), .retAddr 0, .retAddr 0, .retAddr 0, .retAddr 0, .retAddr 0] [] h (fun v h2 => R 99 270 [.ref a0, .ref 0, .ref a2, a3, .int (I a4), .ref a5, .ref a6, a7, .int (I a8), .ref a9, .int (I a10), .int (I a11), .int (I a12), a13, .int (I a14), .int (I a15), .int (I a16), .int (I a17), a18, a19, a20, a21, a22, a23, a24, a25, a26, a27] (v :: [.int (I a16)]) h2 P)) ∧ (¬ a17 < a15 → (okg 99 53 [.ref a0, .ref 0, .ref a2, a3, .int (I a4), .ref a5, .ref a6, a7, .int (I a8), .ref a9, .int (I a10), .int (I a11), .int (I a12), a13, .int (I a14), .int (I a15), .int (I a16), .int (I a17), a18, a19, a20, a21, a22, a23, a24, a25, a26, a27] [] [.ref 0, .int (I a14), .int (I a15)] = true) ∧ (tg h 0 = 12) ∧ R 53 0 [.ref 0, .int (I a14), .int (I a15), .retAddr 0, .retAddr 0, .retAddr 0] [] h (fun v h2 => R 99 287 [.ref a0, .ref 0, .ref a2, a3, .int (I a4), .ref a5, .ref a6, a7, .int (I a8), .ref a9, .int (I a10), .int (I a11), .int (I a12), a13, .int (I a14), .int (I a15), .int (I a16), .int (I a17), a18, a19, a20, a21, a22, a23, a24, a25, a26, a27] (v :: []) h2 P)))) : R 99 249 [.ref a0, .ref 0, .ref a2, a3, .int (I a4), .ref a5, .ref a6, a7, .int (I a8), .ref a9, .int (I a10), .int (I a11), .int (I a12), a13, .int (I a14), .int (I a15), .int (I a16), .int (I a17), a18, a19, a20, a21, a22, a23, a24, a25, a26, a27] [] h P := by
  refine R_iload (Dat dd_L_law_c2 22 rfl) rfl ?_
  refine R_iload (Dat dd_L_law_c2 23 rfl) rfl ?_
  obtain ⟨g1, T⟩ := T
  obtain ⟨g2, T⟩ := T
  refine R_ic_ge (Dat dd_L_law_c2 24 rfl) rfl g1 g2 (fun c => ?_) (fun c => ?_)
  · replace T := T.1 c
    refine R_iload (Dat dd_L_law_c2 25 rfl) rfl ?_
    refine R_aload_n (Dat dd_L_law_c2 26 rfl) rfl rfl ?_
    refine R_aload (Dat dd_L_law_c2 27 rfl) rfl rfl ?_
    refine R_bipush (Dat dd_L_law_c2 28 rfl) (a := (-9)) rfl ?_
    refine R_aload (Dat dd_L_law_c2 29 rfl) rfl rfl ?_
    refine R_iload (Dat dd_L_law_c2 30 rfl) rfl ?_
    exact R_call0 (Dat dd_L_law_c2 31 rfl) rfl rfl rfl rfl rfl rfl T
  · replace T := T.2 c
    refine R_aload_n (Dat dd_L_law_c2 36 rfl) rfl rfl ?_
    refine R_iload (Dat dd_L_law_c2 37 rfl) rfl ?_
    refine R_iload (Dat dd_L_law_c2 38 rfl) rfl ?_
    obtain ⟨g3, T⟩ := T
    obtain ⟨g4, T⟩ := T
    exact R_call1 (Dat dd_L_law_c2 39 rfl) rfl g4 rfl rfl rfl g3 rfl T
theorem t_L_law_366 {h : Hp} {P : Value → Hp → Prop} {a4 a8 a10 a11 a12 a14 s0 : Int} {a0 a2 a5 a6 a9 : Nat} {a3 a7 a13 a15 a16 a17 a18 a19 a20 a21 a22 a23 a24 a25 a26 a27 : Value} (T : R 95 0 [.ref a2, .ref a9, .retAddr 0, .retAddr 0, .retAddr 0, .retAddr 0, .retAddr 0] [] h (fun v h2 => R 99 372 [.ref a0, .ref 0, .ref a2, a3, .int (I a4), .ref a5, .ref a6, a7, .int (I a8), .ref a9, .int (I a10), .int (I a11), .int (I a12), a13, .int (I a14), a15, a16, a17, a18, a19, a20, a21, a22, a23, a24, a25, a26, a27] (v :: [.int (I s0)]) h2 P)) : R 99 366 [.ref a0, .ref 0, .ref a2, a3, .int (I a4), .ref a5, .ref a6, a7, .int (I a8), .ref a9, .int (I a10), .int (I a11), .int (I a12), a13, .int (I a14), a15, a16, a17, a18, a19, a20, a21, a22, a23, a24, a25, a26, a27] [.int (I s0)] h P := by
  refine R_aload_n (Dat dd_L_law_c3 25 rfl) rfl rfl ?_
  refine R_aload (Dat dd_L_law_c3 26 rfl) rfl rfl ?_
  exact R_call0 (Dat dd_L_law_c3 27 rfl) rfl rfl rfl rfl rfl rfl T
theorem t_L_law_430 {h : Hp} {P : Value → Hp → Prop} {a4 a8 a10 a11 a12 a14 a15 s0 : Int} {a0 a2 a5 a6 a9 : Nat} {a3 a7 a13 a16 a17 a18 a19 a20 a21 a22 a23 a24 a25 a26 a27 : Value} (T : (rng s0) ∧ (rng a15) ∧ ((s0 = a15 → R 99 603 [.ref a0, .ref 0, .ref a2, a3, .int (I a4), .ref a5, .ref a6, a7, .int (I a8), .ref a9, .int (I a10), .int (I a11), .int (I a12), a13, .int (I a14), .int (I a15), a16, a17, a18, a19, a20, a21, a22, a23, a24, a25, a26, a27] [] h P) ∧ (¬ s0 = a15 → P (.int (I 0)) h))) : R 99 430 [.ref a0, .ref 0, .ref a2, a3, .int (I a4), .ref a5, .ref a6, a7, .int (I a8), .ref a9, .int (I a10), .int (I a11), .int (I a12), a13, .int (I a14), .int (I a15), a16, a17, a18, a19, a20, a21, a22, a23, a24, a25, a26, a27] [.int (I s0)] h P := by
  refine R_iload (Dat dd_L_law_c4 1 rfl) rfl ?_
  obtain ⟨g1, T⟩ := T
  obtain ⟨g2, T⟩ := T
  refine R_ic_eq (Dat dd_L_law_c4 2 rfl) rfl g1 g2 (fun c => ?_) (fun c => ?_)
  · replace T := T.1 c
    refine R_goto (Dat dd_L_law_c4 5 rfl) rfl ?_
    exact T
  · replace T := T.2 c
    refine R_iconst (Dat dd_L_law_c4 3 rfl) ?_
    exact R_ireturn (Dat dd_L_law_c4 4 rfl) rfl T
theorem t_L_law_463 {h : Hp} {P : Value → Hp → Prop} {a4 a8 a10 a11 a12 a14 a15 s0 : Int} {a0 a2 a5 a6 a9 : Nat} {a3 a7 a13 a16 a17 a18 a19 a20 a21 a22 a23 a24 a25 a26 a27 : Value} (T : R 95 0 [.ref a2, .ref a9, .retAddr 0, .retAddr 0, .retAddr 0, .retAddr 0, .retAddr 0] [] h (fun v h2 => R 99 469 [.ref a0, .ref 0, .ref a2, a3, .int (I a4), .ref a5, .ref a6, a7, .int (I a8), .ref a9, .int (I a10), .int (I a11), .int (I a12), a13, .int (I a14), .int (I a15), a16, a17, a18, a19, a20, a21, a22, a23, a24, a25, a26, a27] (v :: [.int (I s0)]) h2 P)) : R 99 463 [.ref a0, .ref 0, .ref a2, a3, .int (I a4), .ref a5, .ref a6, a7, .int (I a8), .ref a9, .int (I a10), .int (I a11), .int (I a12), a13, .int (I a14), .int (I a15), a16, a17, a18, a19, a20, a21, a22, a23, a24, a25, a26, a27] [.int (I s0)] h P := by
  refine R_aload_n (Dat dd_L_law_c4 18 rfl) rfl rfl ?_
  refine R_aload (Dat dd_L_law_c4 19 rfl) rfl rfl ?_
  exact R_call0 (Dat dd_L_law_c4 20 rfl) rfl rfl rfl rfl rfl rfl T
theorem t_L_law_506 {h : Hp} {P : Value → Hp → Prop} {a4 a8 a10 a11 a12 a14 a15 a16 s0 : Int} {a0 a2 a5 a6 a9 : Nat} {a3 a7 a13 a17 a18 a19 a20 a21 a22 a23 a24 a25 a26 a27 : Value} (T : (rng s0) ∧ ((s0 = 1 → R 99 515 [.ref a0, .ref 0, .ref a2, a3, .int (I a4), .ref a5, .ref a6, a7, .int (I a8), .ref a9, .int (I a10), .int (I a11), .int (I a12), a13, .int (I a14), .int (I a15), .int (I a16), .int (I 0), a18, a19, a20, a21, a22, a23, a24, a25, a26, a27] [] h P) ∧ (¬ s0 = 1 → P (.int (I 0)) h))) : R 99 506 [.ref a0, .ref 0, .ref a2, a3, .int (I a4), .ref a5, .ref a6, a7, .int (I a8), .ref a9, .int (I a10), .int (I a11), .int (I a12), a13, .int (I a14), .int (I a15), .int (I a16), a17, a18, a19, a20, a21, a22, a23, a24, a25, a26, a27] [.int (I s0)] h P := by
  refine R_iconst (Dat dd_L_law_c4 42 rfl) ?_
  obtain ⟨g1, T⟩ := T
  refine R_ic_eq (Dat dd_L_law_c4 43 rfl) rfl g1 (by decide) (fun c => ?_) (fun c => ?_)
  · replace T := T.1 c
    refine R_iconst (Dat dd_L_law_c4 46 rfl) ?_
    refine R_istore (Dat dd_L_law_c4 47 rfl) rfl rfl ?_
    exact T
  · replace T := T.2 c
    refine R_iconst (Dat dd_L_law_c4 44 rfl) ?_
    exact R_ireturn (Dat dd_L_law_c4 45 rfl) rfl T
theorem t_L_law_1341 {h : Hp} {P : Value → Hp → Prop} {a4 a8 s0 : Int} {a0 a2 a3 a5 a6 a7 a9 a10 a11 a12 a13 a14 a15 a16 a17 a18 a19 a20 a21 a22 a23 a24 a25 a26 a27 : Value} (T : (rng s0) ∧ ((s0 = (-1) → (tg h 0 = 12) ∧ R 48 0 [.ref 0, .int (I 0), .int (I 0), .int (I 0), .int (I 1), .retAddr 0] [] h (fun v h2 => R 99 1353 [a0, .ref 0, a2, a3, .int (I a4), a5, a6, a7, .int (I a8), a9, a10, a11, a12, a13, a14, a15, a16, a17, a18, a19, a20, a21, a22, a23, a24, a25, a26, a27] (v :: []) h2 P)) ∧ (¬ s0 = (-1) → R 99 1497 [a0, .ref 0, a2, a3, .int (I a4), a5, a6, a7, .int (I a8), a9, a10, a11, a12, a13, a14, a15, a16, a17, a18, a19, a20, a21, a22, a23, a24, a25, a26, a27] [.int (I 0)] h P))) : R 99 1341 [a0, .ref 0, a2, a3, .int (I a4), a5, a6, a7, .int (I a8), a9, a10, a11, a12, a13, a14, a15, a16, a17, a18, a19, a20, a21, a22, a23, a24, a25, a26, a27] [.int (I s0)] h P := by
  refine R_iconst (Dat dd_L_law_c12 1 rfl) ?_
  obtain ⟨g1, T⟩ := T
  refine R_ic_ne (Dat dd_L_law_c12 2 rfl) rfl g1 (by decide) (fun c => ?_) (fun c => ?_)
  · replace T := T.1 c
    refine R_aload_n (Dat dd_L_law_c12 3 rfl) rfl rfl ?_
    refine R_iconst (Dat dd_L_law_c12 4 rfl) ?_
    refine R_iconst (Dat dd_L_law_c12 5 rfl) ?_
    refine R_iconst (Dat dd_L_law_c12 6 rfl) ?_
    refine R_iconst (Dat dd_L_law_c12 7 rfl) ?_
    obtain ⟨g2, T⟩ := T
    exact R_call1 (Dat dd_L_law_c12 8 rfl) rfl g2 rfl rfl rfl rfl rfl T
  · replace T := T.2 c
    refine R_iconst (Dat dd_L_law_c13 30 rfl) ?_
    exact T
theorem t_L_law_270 {h : Hp} {P : Value → Hp → Prop} {a4 a8 a10 a11 a12 a14 a15 a17 s0 s1 : Int} {a0 a2 a5 a6 a9 : Nat} {a3 a7 a13 a16 a18 a19 a20 a21 a22 a23 a24 a25 a26 a27 : Value} (T : R 99 249 [.ref a0, .ref 0, .ref a2, a3, .int (I a4), .ref a5, .ref a6, a7, .int (I a8), .ref a9, .int (I a10), .int (I a11), .int (I a12), a13, .int (I a14), .int (I a15), .int (I (s1 + s0)), .int (I (a17 + 1)), a18, a19, a20, a21, a22, a23, a24, a25, a26, a27] [] h P) : R 99 270 [.ref a0, .ref 0, .ref a2, a3, .int (I a4), .ref a5, .ref a6, a7, .int (I a8), .ref a9, .int (I a10), .int (I a11), .int (I a12), a13, .int (I a14), .int (I a15), a16, .int (I a17), a18, a19, a20, a21, a22, a23, a24, a25, a26, a27] [.int (I s0), .int (I s1)] h P := by
  refine R_iadd (Dat dd_L_law_c2 32 rfl) ?_
  refine R_istore (Dat dd_L_law_c2 33 rfl) rfl rfl ?_
  refine R_iinc (Dat dd_L_law_c2 34 rfl) rfl rfl rfl ?_
  refine R_goto (Dat dd_L_law_c2 35 rfl) rfl ?_
  exact T
theorem t_L_law_287 {h : Hp} {P : Value → Hp → Prop} {a4 a8 a10 a11 a12 a14 a15 a16 s0 : Int} {a0 a2 a5 a6 a9 : Nat} {a3 a7 a13 a17 a18 a19 a20 a21 a22 a23 a24 a25 a26 a27 : Value} (T : (rng s0) ∧ (rng a16) ∧ ((s0 = a16 → R 99 603 [.ref a0, .ref 0, .ref a2, a3, .int (I a4), .ref a5, .ref a6, a7, .int (I a8), .ref a9, .int (I (a10 + a15)), .int (I a11), .int (I a12), a13, .int (I a14), .int (I a15), .int (I a16), a17, a18, a19, a20, a21, a22, a23, a24, a25, a26, a27] [] h P) ∧ (¬ s0 = a16 → P (.int (I 0)) h))) : R 99 287 [.ref a0, .ref 0, .ref a2, a3, .int (I a4), .ref a5, .ref a6, a7, .int (I a8), .ref a9, .int (I a10), .int (I a11), .int (I a12), a13, .int (I a14), .int (I a15), .int (I a16), a17, a18, a19, a20, a21, a22, a23, a24, a25, a26, a27] [.int (I s0)] h P := by
  refine R_iload (Dat dd_L_law_c2 40 rfl) rfl ?_
  obtain ⟨g1, T⟩ := T
  obtain ⟨g2, T⟩ := T
  refine R_ic_eq (Dat dd_L_law_c2 41 rfl) rfl g1 g2 (fun c => ?_) (fun c => ?_)
  · replace T := T.1 c
    refine R_iload (Dat dd_L_law_c2 44 rfl) rfl ?_
    refine R_iload (Dat dd_L_law_c2 45 rfl) rfl ?_
    refine R_iadd (Dat dd_L_law_c2 46 rfl) ?_
    refine R_istore (Dat dd_L_law_c2 47 rfl) rfl rfl ?_
    refine R_goto (Dat dd_L_law_c2 48 rfl) rfl ?_
    exact T
  · replace T := T.2 c
    refine R_iconst (Dat dd_L_law_c2 42 rfl) ?_
    exact R_ireturn (Dat dd_L_law_c2 43 rfl) rfl T
theorem t_L_law_372 {h : Hp} {P : Value → Hp → Prop} {a4 a8 a10 a11 a12 a14 s0 s1 : Int} {a0 a2 a5 a6 a9 : Nat} {a3 a7 a13 a15 a16 a17 a18 a19 a20 a21 a22 a23 a24 a25 a26 a27 : Value} (T : (rng s1) ∧ (rng s0) ∧ ((s1 = s0 → R 99 603 [.ref a0, .ref 0, .ref a2, a3, .int (I a4), .ref a5, .ref a6, a7, .int (I a8), .ref a9, .int (I a10), .int (I a11), .int (I a12), a13, .int (I a14), a15, a16, a17, a18, a19, a20, a21, a22, a23, a24, a25, a26, a27] [] h P) ∧ (¬ s1 = s0 → P (.int (I 0)) h))) : R 99 372 [.ref a0, .ref 0, .ref a2, a3, .int (I a4), .ref a5, .ref a6, a7, .int (I a8), .ref a9, .int (I a10), .int (I a11), .int (I a12), a13, .int (I a14), a15, a16, a17, a18, a19, a20, a21, a22, a23, a24, a25, a26, a27] [.int (I s0), .int (I s1)] h P := by
  obtain ⟨g1, T⟩ := T
  obtain ⟨g2, T⟩ := T
  refine R_ic_eq (Dat dd_L_law_c3 28 rfl) rfl g1 g2 (fun c => ?_) (fun c => ?_)
  · replace T := T.1 c
    exact T
  · replace T := T.2 c
    refine R_iconst (Dat dd_L_law_c3 29 rfl) ?_
    exact R_ireturn (Dat dd_L_law_c3 30 rfl) rfl T
theorem t_L_law_603 {h : Hp} {P : Value → Hp → Prop} {a4 a8 a10 a11 a12 a14 : Int} {a0 a2 a5 a6 a9 : Nat} {a3 a7 a13 a15 a16 a17 a18 a19 a20 a21 a22 a23 a24 a25 a26 a27 : Value} (T : R 95 0 [.ref a2, .ref a9, .retAddr 0, .retAddr 0, .retAddr 0, .retAddr 0, .retAddr 0] [] h (fun v h2 => R 99 609 [.ref a0, .ref 0, .ref a2, a3, .int (I a4), .ref a5, .ref a6, a7, .int (I a8), .ref a9, .int (I a10), .int (I a11), .int (I a12), a13, .int (I a14), a15, a16, a17, a18, a19, a20, a21, a22, a23, a24, a25, a26, a27] (v :: []) h2 P)) : R 99 603 [.ref a0, .ref 0, .ref a2, a3, .int (I a4), .ref a5, .ref a6, a7, .int (I a8), .ref a9, .int (I a10), .int (I a11), .int (I a12), a13, .int (I a14), a15, a16, a17, a18, a19, a20, a21, a22, a23, a24, a25, a26, a27] [] h P := by
  refine R_aload_n (Dat dd_L_law_c5 39 rfl) rfl rfl ?_
  refine R_aload (Dat dd_L_law_c5 40 rfl) rfl rfl ?_
  exact R_call0 (Dat dd_L_law_c5 41 rfl) rfl rfl rfl rfl rfl rfl T
theorem t_L_law_469 {h : Hp} {P : Value → Hp → Prop} {a4 a8 a10 a11 a12 a14 a15 s0 s1 : Int} {a0 a2 a5 a6 a9 : Nat} {a3 a7 a13 a16 a17 a18 a19 a20 a21 a22 a23 a24 a25 a26 a27 : Value} (T : (rng s1) ∧ (rng s0) ∧ ((s1 = s0 → R 96 0 [.ref a2, .int (I a15), .ref a9, .retAddr 0, .retAddr 0, .retAddr 0, .retAddr 0, .retAddr 0] [] h (fun _ h2 => R 99 482 [.ref a0, .ref 0, .ref a2, a3, .int (I a4), .ref a5, .ref a6, a7, .int (I a8), .ref a9, .int (I a10), .int (I a11), .int (I a12), a13, .int (I a14), .int (I a15), a16, a17, a18, a19, a20, a21, a22, a23, a24, a25, a26, a27] [] h2 P)) ∧ (¬ s1 = s0 → P (.int (I 0)) h))) : R 99 469 [.ref a0, .ref 0, .ref a2, a3, .int (I a4), .ref a5, .ref a6, a7, .int (I a8), .ref a9, .int (I a10), .int (I a11), .int (I a12), a13, .int (I a14), .int (I a15), a16, a17, a18, a19, a20, a21, a22, a23, a24, a25, a26, a27] [.int (I s0), .int (I s1)] h P := by
  obtain ⟨g1, T⟩ := T
  obtain ⟨g2, T⟩ := T
  refine R_ic_eq (Dat dd_L_law_c4 21 rfl) rfl g1 g2 (fun c => ?_) (fun c => ?_)
  · replace T := T.1 c
    refine R_aload_n (Dat dd_L_law_c4 24 rfl) rfl rfl ?_
    refine R_iload (Dat dd_L_law_c4 25 rfl) rfl ?_
    refine R_aload (Dat dd_L_law_c4 26 rfl) rfl rfl ?_
    exact R_call0 (Dat dd_L_law_c4 27 rfl) rfl rfl rfl rfl rfl rfl T
  · replace T := T.2 c
    refine R_iconst (Dat dd_L_law_c4 22 rfl) ?_
    exact R_ireturn (Dat dd_L_law_c4 23 rfl) rfl T
theorem t_L_law_515 {h : Hp} {P : Value → Hp → Prop} {a4 a8 a10 a11 a12 a14 a15 a16 a17 : Int} {a0 a2 a5 a6 a9 : Nat} {a3 a7 a13 a18 a19 a20 a21 a22 a23 a24 a25 a26 a27 : Value} (T : (rng a17) ∧ (rng a15) ∧ ((a17 < a15 → R 88 0 [.int (I (shr a12 (8 + (2 * a17)))), .int (I 3)] [] h (fun v h2 => R 99 537 [.ref a0, .ref 0, .ref a2, a3, .int (I a4), .ref a5, .ref a6, a7, .int (I a8), .ref a9, .int (I a10), .int (I a11), .int (I a12), a13, .int (I a14), .int (I a15), .int (I a16), .int (I a17), a18, a19, a20, a21, a22, a23, a24, a25, a26, a27] (v :: [.int (I 1)]) h2 P)) ∧ (¬ a17 < a15 → (okg 99 65 [.ref a0, .ref 0, .ref a2, a3, .int (I a4), .ref a5, .ref a6, a7, .int (I a8), .ref a9, .int (I a10), .int (I a11), .int (I a12), a13, .int (I a14), .int (I a15), .int (I a16), .int (I a17), a18, a19, a20, a21, a22, a23, a24, a25, a26, a27] [] [.ref 0, .int (I 2), .int (I 0), .int (I 1), .int (I a15)] = true) ∧ (tg h 0 = 12) ∧ R 65 0 [.ref 0, .int (I 2), .int (I 0), .int (I 1), .int (I a15), .retAddr 0, .retAddr 0, .retAddr 0, .retAddr 0, .retAddr 0] [] h (fun v h2 => R 99 589 [.ref a0, .ref 0, .ref a2, a3, .int (I a4), .ref a5, .ref a6, a7, .int (I a8), .ref a9, .int (I a10), .int (I a11), .int (I a12), a13, .int (I a14), .int (I a15), .int (I a16), .int (I a17), a18, a19, a20, a21, a22, a23, a24, a25, a26, a27] (v :: []) h2 P)))) : R 99 515 [.ref a0, .ref 0, .ref a2, a3, .int (I a4), .ref a5, .ref a6, a7, .int (I a8), .ref a9, .int (I a10), .int (I a11), .int (I a12), a13, .int (I a14), .int (I a15), .int (I a16), .int (I a17), a18, a19, a20, a21, a22, a23, a24, a25, a26, a27] [] h P := by
  refine R_iload (Dat dd_L_law_c4 48 rfl) rfl ?_
  refine R_iload (Dat dd_L_law_c4 49 rfl) rfl ?_
  obtain ⟨g1, T⟩ := T
  obtain ⟨g2, T⟩ := T
  refine R_ic_ge (Dat dd_L_law_c4 50 rfl) rfl g1 g2 (fun c => ?_) (fun c => ?_)
  · replace T := T.1 c
    refine R_iconst (Dat dd_L_law_c4 51 rfl) ?_
    refine R_iload (Dat dd_L_law_c4 52 rfl) rfl ?_
    refine R_bipush (Dat dd_L_law_c4 53 rfl) (a := 8) rfl ?_
    refine R_iconst (Dat dd_L_law_c4 54 rfl) ?_
    refine R_iload (Dat dd_L_law_c4 55 rfl) rfl ?_
    refine R_imul (Dat dd_L_law_c4 56 rfl) ?_
    refine R_iadd (Dat dd_L_law_c4 57 rfl) ?_
    refine R_ishr (Dat dd_L_law_c4 58 rfl) ?_
    refine R_iconst (Dat dd_L_law_c4 59 rfl) ?_
    exact R_call0 (Dat dd_L_law_c5 0 rfl) rfl rfl rfl rfl rfl rfl T
  · replace T := T.2 c
    refine R_aload_n (Dat dd_L_law_c5 25 rfl) rfl rfl ?_
    refine R_iconst (Dat dd_L_law_c5 26 rfl) ?_
    refine R_iconst (Dat dd_L_law_c5 27 rfl) ?_
    refine R_iconst (Dat dd_L_law_c5 28 rfl) ?_
    refine R_iload (Dat dd_L_law_c5 29 rfl) rfl ?_
    obtain ⟨g3, T⟩ := T
    obtain ⟨g4, T⟩ := T
    exact R_call1 (Dat dd_L_law_c5 30 rfl) rfl g4 rfl rfl rfl g3 rfl T
theorem t_L_law_1353 {h : Hp} {P : Value → Hp → Prop} {a4 a8 s0 : Int} {a0 a2 a3 a5 a6 a7 a9 a10 a11 a12 a13 a14 a15 a16 a17 a18 a19 a20 a21 a22 a23 a24 a25 a26 a27 : Value} (T : (rng s0) ∧ ((s0 = (-2) → (tg h 0 = 12) ∧ R 48 0 [.ref 0, .int (I 0), .int (I 1), .int (I (a4 - 1)), .int (I 1), .retAddr 0] [] h (fun v h2 => R 99 1369 [a0, .ref 0, a2, a3, .int (I a4), a5, a6, a7, .int (I a8), a9, a10, a11, a12, a13, a14, a15, a16, a17, a18, a19, a20, a21, a22, a23, a24, a25, a26, a27] (v :: []) h2 P)) ∧ (¬ s0 = (-2) → R 99 1497 [a0, .ref 0, a2, a3, .int (I a4), a5, a6, a7, .int (I a8), a9, a10, a11, a12, a13, a14, a15, a16, a17, a18, a19, a20, a21, a22, a23, a24, a25, a26, a27] [.int (I 0)] h P))) : R 99 1353 [a0, .ref 0, a2, a3, .int (I a4), a5, a6, a7, .int (I a8), a9, a10, a11, a12, a13, a14, a15, a16, a17, a18, a19, a20, a21, a22, a23, a24, a25, a26, a27] [.int (I s0)] h P := by
  refine R_bipush (Dat dd_L_law_c12 9 rfl) (a := (-2)) rfl ?_
  obtain ⟨g1, T⟩ := T
  refine R_ic_ne (Dat dd_L_law_c12 10 rfl) rfl g1 (by decide) (fun c => ?_) (fun c => ?_)
  · replace T := T.1 c
    refine R_aload_n (Dat dd_L_law_c12 11 rfl) rfl rfl ?_
    refine R_iconst (Dat dd_L_law_c12 12 rfl) ?_
    refine R_iconst (Dat dd_L_law_c12 13 rfl) ?_
    refine R_iload (Dat dd_L_law_c12 14 rfl) rfl ?_
    refine R_iconst (Dat dd_L_law_c12 15 rfl) ?_
    refine R_isub (Dat dd_L_law_c12 16 rfl) ?_
    refine R_iconst (Dat dd_L_law_c12 17 rfl) ?_
    obtain ⟨g2, T⟩ := T
    exact R_call1 (Dat dd_L_law_c12 18 rfl) rfl g2 rfl rfl rfl rfl rfl T
  · replace T := T.2 c
    refine R_iconst (Dat dd_L_law_c13 30 rfl) ?_
    exact T
theorem t_L_law_609 {h : Hp} {P : Value → Hp → Prop} {a4 a8 a10 a11 a12 a14 s0 : Int} {a0 a2 a5 a6 a9 : Nat} {a3 a7 a13 a15 a16 a17 a18 a19 a20 a21 a22 a23 a24 a25 a26 a27 : Value} (T : (tg h 0 = 12) ∧ R 35 0 [.ref 0] [] h (fun v h2 => R 99 615 [.ref a0, .ref 0, .ref a2, a3, .int (I a4), .ref a5, .ref a6, a7, .int (I a8), .ref a9, .int (I a10), .int (I a11), .int (I a12), a13, .int (I a14), .int (I s0), a16, a17, a18, a19, a20, a21, a22, a23, a24, a25, a26, a27] (v :: []) h2 P)) : R 99 609 [.ref a0, .ref 0, .ref a2, a3, .int (I a4), .ref a5, .ref a6, a7, .int (I a8), .ref a9, .int (I a10), .int (I a11), .int (I a12), a13, .int (I a14), a15, a16, a17, a18, a19, a20, a21, a22, a23, a24, a25, a26, a27] [.int (I s0)] h P := by
  refine R_istore (Dat dd_L_law_c5 42 rfl) rfl rfl ?_
  refine R_aload_n (Dat dd_L_law_c5 43 rfl) rfl rfl ?_
  obtain ⟨g1, T⟩ := T
  exact R_call1 (Dat dd_L_law_c5 44 rfl) rfl g1 rfl rfl rfl rfl rfl T
theorem t_L_law_482 {h : Hp} {P : Value → Hp → Prop} {a4 a8 a10 a11 a12 a14 : Int} {a0 a2 a5 a6 a9 : Nat} {a3 a7 a13 a15 a16 a17 a18 a19 a20 a21 a22 a23 a24 a25 a26 a27 : Value} (T : R 99 603 [.ref a0, .ref 0, .ref a2, a3, .int (I a4), .ref a5, .ref a6, a7, .int (I a8), .ref a9, .int (I a10), .int (I a11), .int (I a12), a13, .int (I a14), a15, a16, a17, a18, a19, a20, a21, a22, a23, a24, a25, a26, a27] [] h P) : R 99 482 [.ref a0, .ref 0, .ref a2, a3, .int (I a4), .ref a5, .ref a6, a7, .int (I a8), .ref a9, .int (I a10), .int (I a11), .int (I a12), a13, .int (I a14), a15, a16, a17, a18, a19, a20, a21, a22, a23, a24, a25, a26, a27] [] h P := by
  refine R_goto (Dat dd_L_law_c4 28 rfl) rfl ?_
  exact T
theorem t_L_law_537 {h : Hp} {P : Value → Hp → Prop} {a4 a8 a10 a11 a12 a14 a15 a16 a17 s0 s1 : Int} {a0 a2 a5 a6 a9 : Nat} {a3 a7 a13 a18 a19 a20 a21 a22 a23 a24 a25 a26 a27 : Value} (T : (tg h 0 = 12) ∧ R 84 0 [.ref 0, .int (I 2), .int (I (1 + a17)), .int (I (s1 + s0)), .retAddr 0] [] h (fun v h2 => R 99 551 [.ref a0, .ref 0, .ref a2, a3, .int (I a4), .ref a5, .ref a6, a7, .int (I a8), .ref a9, .int (I a10), .int (I a11), .int (I a12), a13, .int (I a14), .int (I a15), .int (I a16), .int (I a17), .int (I (s1 + s0)), a19, a20, a21, a22, a23, a24, a25, a26, a27] (v :: []) h2 P)) : R 99 537 [.ref a0, .ref 0, .ref a2, a3, .int (I a4), .ref a5, .ref a6, a7, .int (I a8), .ref a9, .int (I a10), .int (I a11), .int (I a12), a13, .int (I a14), .int (I a15), .int (I a16), .int (I a17), a18, a19, a20, a21, a22, a23, a24, a25, a26, a27] [.int (I s0), .int (I s1)] h P := by
  refine R_iadd (Dat dd_L_law_c5 1 rfl) ?_
  refine R_istore (Dat dd_L_law_c5 2 rfl) rfl rfl ?_
  refine R_aload_n (Dat dd_L_law_c5 3 rfl) rfl rfl ?_
  refine R_iconst (Dat dd_L_law_c5 4 rfl) ?_
  refine R_iconst (Dat dd_L_law_c5 5 rfl) ?_
  refine R_iload (Dat dd_L_law_c5 6 rfl) rfl ?_
  refine R_iadd (Dat dd_L_law_c5 7 rfl) ?_
  refine R_iload (Dat dd_L_law_c5 8 rfl) rfl ?_
  obtain ⟨g1, T⟩ := T
  exact R_call1 (Dat dd_L_law_c5 9 rfl) rfl g1 rfl rfl rfl rfl rfl T
theorem t_L_law_589 {h : Hp} {P : Value → Hp → Prop} {a4 a8 a10 a11 a12 a14 a15 a16 s0 : Int} {a0 a2 a5 a6 a9 : Nat} {a3 a7 a13 a17 a18 a19 a20 a21 a22 a23 a24 a25 a26 a27 : Value} (T : (rng s0) ∧ (rng a16) ∧ ((s0 = a16 → R 99 603 [.ref a0, .ref 0, .ref a2, a3, .int (I a4), .ref a5, .ref a6, a7, .int (I a8), .ref a9, .int (I (a10 + a15)), .int (I a11), .int (I a12), a13, .int (I a14), .int (I a15), .int (I a16), a17, a18, a19, a20, a21, a22, a23, a24, a25, a26, a27] [] h P) ∧ (¬ s0 = a16 → P (.int (I 0)) h))) : R 99 589 [.ref a0, .ref 0, .ref a2, a3, .int (I a4), .ref a5, .ref a6, a7, .int (I a8), .ref a9, .int (I a10), .int (I a11), .int (I a12), a13, .int (I a14), .int (I a15), .int (I a16), a17, a18, a19, a20, a21, a22, a23, a24, a25, a26, a27] [.int (I s0)] h P := by
  refine R_iload (Dat dd_L_law_c5 31 rfl) rfl ?_
  obtain ⟨g1, T⟩ := T
  obtain ⟨g2, T⟩ := T
  refine R_ic_eq (Dat dd_L_law_c5 32 rfl) rfl g1 g2 (fun c => ?_) (fun c => ?_)
  · replace T := T.1 c
    refine R_iload (Dat dd_L_law_c5 35 rfl) rfl ?_
    refine R_iload (Dat dd_L_law_c5 36 rfl) rfl ?_
    refine R_iadd (Dat dd_L_law_c5 37 rfl) ?_
    refine R_istore (Dat dd_L_law_c5 38 rfl) rfl rfl ?_
    exact T
  · replace T := T.2 c
    refine R_iconst (Dat dd_L_law_c5 33 rfl) ?_
    exact R_ireturn (Dat dd_L_law_c5 34 rfl) rfl T
theorem t_L_law_1369 {h : Hp} {P : Value → Hp → Prop} {a4 a8 s0 : Int} {a0 a2 a3 a5 a6 a7 a9 a10 a11 a12 a13 a14 a15 a16 a17 a18 a19 a20 a21 a22 a23 a24 a25 a26 a27 : Value} (T : (rng s0) ∧ ((s0 = (-2) → (tg h 0 = 12) ∧ R 48 0 [.ref 0, .int (I 0), .int (I 1), .int (I 0), .int (I 4), .retAddr 0] [] h (fun v h2 => R 99 1382 [a0, .ref 0, a2, a3, .int (I a4), a5, a6, a7, .int (I a8), a9, a10, a11, a12, a13, a14, a15, a16, a17, a18, a19, a20, a21, a22, a23, a24, a25, a26, a27] (v :: []) h2 P)) ∧ (¬ s0 = (-2) → R 99 1497 [a0, .ref 0, a2, a3, .int (I a4), a5, a6, a7, .int (I a8), a9, a10, a11, a12, a13, a14, a15, a16, a17, a18, a19, a20, a21, a22, a23, a24, a25, a26, a27] [.int (I 0)] h P))) : R 99 1369 [a0, .ref 0, a2, a3, .int (I a4), a5, a6, a7, .int (I a8), a9, a10, a11, a12, a13, a14, a15, a16, a17, a18, a19, a20, a21, a22, a23, a24, a25, a26, a27] [.int (I s0)] h P := by
  refine R_bipush (Dat dd_L_law_c12 19 rfl) (a := (-2)) rfl ?_
  obtain ⟨g1, T⟩ := T
  refine R_ic_ne (Dat dd_L_law_c12 20 rfl) rfl g1 (by decide) (fun c => ?_) (fun c => ?_)
  · replace T := T.1 c
    refine R_aload_n (Dat dd_L_law_c12 21 rfl) rfl rfl ?_
    refine R_iconst (Dat dd_L_law_c12 22 rfl) ?_
    refine R_iconst (Dat dd_L_law_c12 23 rfl) ?_
    refine R_iconst (Dat dd_L_law_c12 24 rfl) ?_
    refine R_iconst (Dat dd_L_law_c12 25 rfl) ?_
    obtain ⟨g2, T⟩ := T
    exact R_call1 (Dat dd_L_law_c12 26 rfl) rfl g2 rfl rfl rfl rfl rfl T
  · replace T := T.2 c
    refine R_iconst (Dat dd_L_law_c13 30 rfl) ?_
    exact T
theorem t_L_law_615 {h : Hp} {P : Value → Hp → Prop} {a4 a8 a10 a11 a12 a14 a15 s0 : Int} {a0 a2 a5 a6 a9 : Nat} {a3 a7 a13 a16 a17 a18 a19 a20 a21 a22 a23 a24 a25 a26 a27 : Value} (T : (rng s0) ∧ (rng a15) ∧ ((s0 = a15 → (tg h 0 = 12) ∧ R 86 0 [.ref 0, .int (I 4)] [] h (fun v h2 => R 99 625 [.ref a0, .ref 0, .ref a2, a3, .int (I a4), .ref a5, .ref a6, a7, .int (I a8), .ref a9, .int (I a10), .int (I a11), .int (I a12), a13, .int (I a14), .int (I a15), a16, a17, a18, a19, a20, a21, a22, a23, a24, a25, a26, a27] (v :: []) h2 P)) ∧ (¬ s0 = a15 → P (.int (I 0)) h))) : R 99 615 [.ref a0, .ref 0, .ref a2, a3, .int (I a4), .ref a5, .ref a6, a7, .int (I a8), .ref a9, .int (I a10), .int (I a11), .int (I a12), a13, .int (I a14), .int (I a15), a16, a17, a18, a19, a20, a21, a22, a23, a24, a25, a26, a27] [.int (I s0)] h P := by
  refine R_iload (Dat dd_L_law_c5 45 rfl) rfl ?_
  obtain ⟨g1, T⟩ := T
  obtain ⟨g2, T⟩ := T
  refine R_ic_ne (Dat dd_L_law_c5 46 rfl) rfl g1 g2 (fun c => ?_) (fun c => ?_)
  · replace T := T.1 c
    refine R_aload_n (Dat dd_L_law_c5 47 rfl) rfl rfl ?_
    refine R_iconst (Dat dd_L_law_c5 48 rfl) ?_
    obtain ⟨g3, T⟩ := T
    exact R_call1 (Dat dd_L_law_c5 49 rfl) rfl g3 rfl rfl rfl rfl rfl T
  · replace T := T.2 c
    refine R_iconst (Dat dd_L_law_c5 52 rfl) ?_
    exact R_ireturn (Dat dd_L_law_c5 53 rfl) rfl T
theorem t_L_law_551 {h : Hp} {P : Value → Hp → Prop} {a4 a8 a10 a11 a12 a14 a15 a16 a17 a18 s0 : Int} {a0 a2 a5 a6 a9 : Nat} {a3 a7 a13 a19 a20 a21 a22 a23 a24 a25 a26 a27 : Value} (T : (rng s0) ∧ ((s0 = 1 → R 94 0 [.ref a2, .ref a5, .int (I (-9)), .ref a9, .int (I a18), .retAddr 0, .retAddr 0, .retAddr 0, .retAddr 0, .retAddr 0] [] h (fun v h2 => R 99 571 [.ref a0, .ref 0, .ref a2, a3, .int (I a4), .ref a5, .ref a6, a7, .int (I a8), .ref a9, .int (I a10), .int (I a11), .int (I a12), a13, .int (I a14), .int (I a15), .int (I a16), .int (I a17), .int (I a18), a19, a20, a21, a22, a23, a24, a25, a26, a27] (v :: [.int (I a16)]) h2 P)) ∧ (¬ s0 = 1 → P (.int (I 0)) h))) : R 99 551 [.ref a0, .ref 0, .ref a2, a3, .int (I a4), .ref a5, .ref a6, a7, .int (I a8), .ref a9, .int (I a10), .int (I a11), .int (I a12), a13, .int (I a14), .int (I a15), .int (I a16), .int (I a17), .int (I a18), a19, a20, a21, a22, a23, a24, a25, a26, a27] [.int (I s0)] h P := by
  refine R_iconst (Dat dd_L_law_c5 10 rfl) ?_
  obtain ⟨g1, T⟩ := T
  refine R_ic_eq (Dat dd_L_law_c5 11 rfl) rfl g1 (by decide) (fun c => ?_) (fun c => ?_)
  · replace T := T.1 c
    refine R_iload (Dat dd_L_law_c5 14 rfl) rfl ?_
    refine R_aload_n (Dat dd_L_law_c5 15 rfl) rfl rfl ?_
    refine R_aload (Dat dd_L_law_c5 16 rfl) rfl rfl ?_
    refine R_bipush (Dat dd_L_law_c5 17 rfl) (a := (-9)) rfl ?_
    refine R_aload (Dat dd_L_law_c5 18 rfl) rfl rfl ?_
    refine R_iload (Dat dd_L_law_c5 19 rfl) rfl ?_
    exact R_call0 (Dat dd_L_law_c5 20 rfl) rfl rfl rfl rfl rfl rfl T
  · replace T := T.2 c
    refine R_iconst (Dat dd_L_law_c5 12 rfl) ?_
    exact R_ireturn (Dat dd_L_law_c5 13 rfl) rfl T
theorem t_L_law_1382 {h : Hp} {P : Value → Hp → Prop} {a4 a8 s0 : Int} {a0 a2 a3 a5 a6 a7 a9 a10 a11 a12 a13 a14 a15 a16 a17 a18 a19 a20 a21 a22 a23 a24 a25 a26 a27 : Value} (T : (rng s0) ∧ ((s0 = (-2) → (okg 99 53 [a0, .ref 0, a2, a3, .int (I a4), a5, a6, a7, .int (I a8), a9, a10, a11, a12, a13, a14, a15, a16, a17, a18, a19, a20, a21, a22, a23, a24, a25, a26, a27] [] [.ref 0, .int (I 0), .int (I 1)] = true) ∧ (tg h 0 = 12) ∧ R 53 0 [.ref 0, .int (I 0), .int (I 1), .retAddr 0, .retAddr 0, .retAddr 0] [] h (fun v h2 => R 99 1393 [a0, .ref 0, a2, a3, .int (I a4), a5, a6, a7, .int (I a8), a9, a10, a11, a12, a13, a14, a15, a16, a17, a18, a19, a20, a21, a22, a23, a24, a25, a26, a27] (v :: []) h2 P)) ∧ (¬ s0 = (-2) → R 99 1497 [a0, .ref 0, a2, a3, .int (I a4), a5, a6, a7, .int (I a8), a9, a10, a11, a12, a13, a14, a15, a16, a17, a18, a19, a20, a21, a22, a23, a24, a25, a26, a27] [.int (I 0)] h P))) : R 99 1382 [a0, .ref 0, a2, a3, .int (I a4), a5, a6, a7, .int (I a8), a9, a10, a11, a12, a13, a14, a15, a16, a17, a18, a19, a20, a21, a22, a23, a24, a25, a26, a27] [.int (I s0)] h P := by
  refine R_bipush (Dat dd_L_law_c12 27 rfl) (a := (-2)) rfl ?_
  obtain ⟨g1, T⟩ := T
  refine R_ic_ne (Dat dd_L_law_c12 28 rfl) rfl g1 (by decide) (fun c => ?_) (fun c => ?_)
  · replace T := T.1 c
    refine R_aload_n (Dat dd_L_law_c12 29 rfl) rfl rfl ?_
    refine R_iconst (Dat dd_L_law_c12 30 rfl) ?_
    refine R_iconst (Dat dd_L_law_c12 31 rfl) ?_
    obtain ⟨g2, T⟩ := T
    obtain ⟨g3, T⟩ := T
    exact R_call1 (Dat dd_L_law_c12 32 rfl) rfl g3 rfl rfl rfl g2 rfl T
  · replace T := T.2 c
    refine R_iconst (Dat dd_L_law_c13 30 rfl) ?_
    exact T
theorem t_L_law_625 {h : Hp} {P : Value → Hp → Prop} {a4 a8 a10 a11 a12 a14 a15 s0 : Int} {a0 a2 a5 a6 a9 : Nat} {a3 a7 a13 a16 a17 a18 a19 a20 a21 a22 a23 a24 a25 a26 a27 : Value} (T : (rng s0) ∧ (rng a10) ∧ ((s0 = a10 → R 99 635 [.ref a0, .ref 0, .ref a2, a3, .int (I a4), .ref a5, .ref a6, a7, .int (I a8), .ref a9, .int (I a10), .int (I a11), .int (I a12), a13, .int (I a14), .int (I a15), .int (I 0), a17, a18, a19, a20, a21, a22, a23, a24, a25, a26, a27] [] h P) ∧ (¬ s0 = a10 → P (.int (I 0)) h))) : R 99 625 [.ref a0, .ref 0, .ref a2, a3, .int (I a4), .ref a5, .ref a6, a7, .int (I a8), .ref a9, .int (I a10), .int (I a11), .int (I a12), a13, .int (I a14), .int (I a15), a16, a17, a18, a19, a20, a21, a22, a23, a24, a25, a26, a27] [.int (I s0)] h P := by
  refine R_iload (Dat dd_L_law_c5 50 rfl) rfl ?_
  obtain ⟨g1, T⟩ := T
  obtain ⟨g2, T⟩ := T
  refine R_ic_eq (Dat dd_L_law_c5 51 rfl) rfl g1 g2 (fun c => ?_) (fun c => ?_)
  · replace T := T.1 c
    refine R_iconst (Dat dd_L_law_c5 54 rfl) ?_
    refine R_istore (Dat dd_L_law_c5 55 rfl) rfl rfl ?_
    exact T
  · replace T := T.2 c
    refine R_iconst (Dat dd_L_law_c5 52 rfl) ?_
    exact R_ireturn (Dat dd_L_law_c5 53 rfl) rfl T
theorem t_L_law_571 {h : Hp} {P : Value → Hp → Prop} {a4 a8 a10 a11 a12 a14 a15 a17 s0 s1 : Int} {a0 a2 a5 a6 a9 : Nat} {a3 a7 a13 a16 a18 a19 a20 a21 a22 a23 a24 a25 a26 a27 : Value} (T : R 99 515 [.ref a0, .ref 0, .ref a2, a3, .int (I a4), .ref a5, .ref a6, a7, .int (I a8), .ref a9, .int (I a10), .int (I a11), .int (I a12), a13, .int (I a14), .int (I a15), .int (I (s1 + s0)), .int (I (a17 + 1)), a18, a19, a20, a21, a22, a23, a24, a25, a26, a27] [] h P) : R 99 571 [.ref a0, .ref 0, .ref a2, a3, .int (I a4), .ref a5, .ref a6, a7, .int (I a8), .ref a9, .int (I a10), .int (I a11), .int (I a12), a13, .int (I a14), .int (I a15), a16, .int (I a17), a18, a19, a20, a21, a22, a23, a24, a25, a26, a27] [.int (I s0), .int (I s1)] h P := by
  refine R_iadd (Dat dd_L_law_c5 21 rfl) ?_
  refine R_istore (Dat dd_L_law_c5 22 rfl) rfl rfl ?_
  refine R_iinc (Dat dd_L_law_c5 23 rfl) rfl rfl rfl ?_
  refine R_goto (Dat dd_L_law_c5 24 rfl) rfl ?_
  exact T
theorem t_L_law_1393 {h : Hp} {P : Value → Hp → Prop} {a4 a8 s0 : Int} {a0 a2 a3 a5 a6 a7 a9 a10 a11 a12 a13 a14 a15 a16 a17 a18 a19 a20 a21 a22 a23 a24 a25 a26 a27 : Value} (T : (rng s0) ∧ ((s0 = (-2) → (okg 99 53 [a0, .ref 0, a2, a3, .int (I a4), a5, a6, a7, .int (I a8), a9, a10, a11, a12, a13, a14, a15, a16, a17, a18, a19, a20, a21, a22, a23, a24, a25, a26, a27] [] [.ref 0, .int (I 1), .int (I 100)] = true) ∧ (tg h 0 = 12) ∧ R 53 0 [.ref 0, .int (I 1), .int (I 100), .retAddr 0, .retAddr 0, .retAddr 0] [] h (fun v h2 => R 99 1405 [a0, .ref 0, a2, a3, .int (I a4), a5, a6, a7, .int (I a8), a9, a10, a11, a12, a13, a14, a15, a16, a17, a18, a19, a20, a21, a22, a23, a24, a25, a26, a27] (v :: []) h2 P)) ∧ (¬ s0 = (-2) → R 99 1497 [a0, .ref 0, a2, a3, .int (I a4), a5, a6, a7, .int (I a8), a9, a10, a11, a12, a13, a14, a15, a16, a17, a18, a19, a20, a21, a22, a23, a24, a25, a26, a27] [.int (I 0)] h P))) : R 99 1393 [a0, .ref 0, a2, a3, .int (I a4), a5, a6, a7, .int (I a8), a9, a10, a11, a12, a13, a14, a15, a16, a17, a18, a19, a20, a21, a22, a23, a24, a25, a26, a27] [.int (I s0)] h P := by
  refine R_bipush (Dat dd_L_law_c12 33 rfl) (a := (-2)) rfl ?_
  obtain ⟨g1, T⟩ := T
  refine R_ic_ne (Dat dd_L_law_c12 34 rfl) rfl g1 (by decide) (fun c => ?_) (fun c => ?_)
  · replace T := T.1 c
    refine R_aload_n (Dat dd_L_law_c12 35 rfl) rfl rfl ?_
    refine R_iconst (Dat dd_L_law_c12 36 rfl) ?_
    refine R_bipush (Dat dd_L_law_c12 37 rfl) (a := 100) rfl ?_
    obtain ⟨g2, T⟩ := T
    obtain ⟨g3, T⟩ := T
    exact R_call1 (Dat dd_L_law_c12 38 rfl) rfl g3 rfl rfl rfl g2 rfl T
  · replace T := T.2 c
    refine R_iconst (Dat dd_L_law_c13 30 rfl) ?_
    exact T
theorem t_L_law_635 {h : Hp} {P : Value → Hp → Prop} {a4 a8 a10 a11 a12 a14 a15 a16 : Int} {a0 a2 a5 a6 a9 : Nat} {a3 a7 a13 a17 a18 a19 a20 a21 a22 a23 a24 a25 a26 a27 : Value} (T : (rng a16) ∧ (rng a4) ∧ ((a16 < a4 → (tg h 0 = 12) ∧ R 33 0 [.ref 0, .int (I a16)] [] h (fun v h2 => R 99 648 [.ref a0, .ref 0, .ref a2, a3, .int (I a4), .ref a5, .ref a6, a7, .int (I a8), .ref a9, .int (I a10), .int (I a11), .int (I a12), a13, .int (I a14), .int (I a15), .int (I a16), a17, a18, a19, a20, a21, a22, a23, a24, a25, a26, a27] (v :: []) h2 P)) ∧ (¬ a16 < a4 → R 99 698 [.ref a0, .ref 0, .ref a2, a3, .int (I a4), .ref a5, .ref a6, a7, .int (I a8), .ref a9, .int (I a10), .int (I a11), .int (I a12), a13, .int (I a14), .int (I a15), .int (I 0), a17, a18, a19, a20, a21, a22, a23, a24, a25, a26, a27] [] h P))) : R 99 635 [.ref a0, .ref 0, .ref a2, a3, .int (I a4), .ref a5, .ref a6, a7, .int (I a8), .ref a9, .int (I a10), .int (I a11), .int (I a12), a13, .int (I a14), .int (I a15), .int (I a16), a17, a18, a19, a20, a21, a22, a23, a24, a25, a26, a27] [] h P := by
  refine R_iload (Dat dd_L_law_c5 56 rfl) rfl ?_
  refine R_iload (Dat dd_L_law_c5 57 rfl) rfl ?_
  obtain ⟨g1, T⟩ := T
  obtain ⟨g2, T⟩ := T
  refine R_ic_ge (Dat dd_L_law_c5 58 rfl) rfl g1 g2 (fun c => ?_) (fun c => ?_)
  · replace T := T.1 c
    refine R_aload_n (Dat dd_L_law_c5 59 rfl) rfl rfl ?_
    refine R_iload (Dat dd_L_law_c6 0 rfl) rfl ?_
    obtain ⟨g3, T⟩ := T
    exact R_call1 (Dat dd_L_law_c6 1 rfl) rfl g3 rfl rfl rfl rfl rfl T
  · replace T := T.2 c
    refine R_iconst (Dat dd_L_law_c6 26 rfl) ?_
    refine R_istore (Dat dd_L_law_c6 27 rfl) rfl rfl ?_
    exact T
theorem t_L_law_1405 {h : Hp} {P : Value → Hp → Prop} {a4 a8 s0 : Int} {a0 a2 a3 a5 a6 a7 a9 a10 a11 a12 a13 a14 a15 a16 a17 a18 a19 a20 a21 a22 a23 a24 a25 a26 a27 : Value} (T : (rng s0) ∧ ((s0 = (-2) → (okg 99 73 [a0, .ref 0, a2, a3, .int (I a4), a5, a6, a7, .int (I a8), a9, a10, a11, a12, a13, a14, a15, a16, a17, a18, a19, a20, a21, a22, a23, a24, a25, a26, a27] [] [.ref 0, .int (I a8), .int (I 1)] = true) ∧ (tg h 0 = 12) ∧ R 73 0 [.ref 0, .int (I a8), .int (I 1), .retAddr 0] [] h (fun v h2 => R 99 1417 [a0, .ref 0, a2, a3, .int (I a4), a5, a6, a7, .int (I a8), a9, a10, a11, a12, a13, a14, a15, a16, a17, a18, a19, a20, a21, a22, a23, a24, a25, a26, a27] (v :: []) h2 P)) ∧ (¬ s0 = (-2) → R 99 1497 [a0, .ref 0, a2, a3, .int (I a4), a5, a6, a7, .int (I a8), a9, a10, a11, a12, a13, a14, a15, a16, a17, a18, a19, a20, a21, a22, a23, a24, a25, a26, a27] [.int (I 0)] h P))) : R 99 1405 [a0, .ref 0, a2, a3, .int (I a4), a5, a6, a7, .int (I a8), a9, a10, a11, a12, a13, a14, a15, a16, a17, a18, a19, a20, a21, a22, a23, a24, a25, a26, a27] [.int (I s0)] h P := by
  refine R_bipush (Dat dd_L_law_c12 39 rfl) (a := (-2)) rfl ?_
  obtain ⟨g1, T⟩ := T
  refine R_ic_ne (Dat dd_L_law_c12 40 rfl) rfl g1 (by decide) (fun c => ?_) (fun c => ?_)
  · replace T := T.1 c
    refine R_aload_n (Dat dd_L_law_c12 41 rfl) rfl rfl ?_
    refine R_iload (Dat dd_L_law_c12 42 rfl) rfl ?_
    refine R_iconst (Dat dd_L_law_c12 43 rfl) ?_
    obtain ⟨g2, T⟩ := T
    obtain ⟨g3, T⟩ := T
    exact R_call1 (Dat dd_L_law_c12 44 rfl) rfl g3 rfl rfl rfl g2 rfl T
  · replace T := T.2 c
    refine R_iconst (Dat dd_L_law_c13 30 rfl) ?_
    exact T
theorem t_L_law_648 {h : Hp} {P : Value → Hp → Prop} {a4 a8 a10 a11 a12 a14 a15 a16 s0 : Int} {a0 a2 a5 a6 a9 : Nat} {a3 a7 a13 a17 a18 a19 a20 a21 a22 a23 a24 a25 a26 a27 : Value} (T : (tg h a9 = 20 ∨ tg h a9 = 30) ∧ ((ln h a9 : Int) ≤ 2147483648) ∧ (0 ≤ a16) ∧ (a16 < ln h a9) ∧ (rng s0) ∧ (rng (iv h a9 a16)) ∧ ((s0 = (iv h a9 a16) → (tg h 0 = 12) ∧ R 39 0 [.ref 0, .int (I a15), .int (I a16)] [] h (fun v h2 => R 99 664 [.ref a0, .ref 0, .ref a2, a3, .int (I a4), .ref a5, .ref a6, a7, .int (I a8), .ref a9, .int (I a10), .int (I a11), .int (I a12), a13, .int (I a14), .int (I a15), .int (I a16), a17, a18, a19, a20, a21, a22, a23, a24, a25, a26, a27] (v :: []) h2 P)) ∧ (¬ s0 = (iv h a9 a16) → P (.int (I 0)) h))) : R 99 648 [.ref a0, .ref 0, .ref a2, a3, .int (I a4), .ref a5, .ref a6, a7, .int (I a8), .ref a9, .int (I a10), .int (I a11), .int (I a12), a13, .int (I a14), .int (I a15), .int (I a16), a17, a18, a19, a20, a21, a22, a23, a24, a25, a26, a27] [.int (I s0)] h P := by
  refine R_aload (Dat dd_L_law_c6 2 rfl) rfl rfl ?_
  refine R_iload (Dat dd_L_law_c6 3 rfl) rfl ?_
  obtain ⟨g1, T⟩ := T
  obtain ⟨g2, T⟩ := T
  obtain ⟨g3, T⟩ := T
  obtain ⟨g4, T⟩ := T
  refine R_iaload (Dat dd_L_law_c6 4 rfl) g1 g2 g3 g4 ?_
  obtain ⟨g5, T⟩ := T
  obtain ⟨g6, T⟩ := T
  refine R_ic_ne (Dat dd_L_law_c6 5 rfl) rfl g5 g6 (fun c => ?_) (fun c => ?_)
  · replace T := T.1 c
    refine R_aload_n (Dat dd_L_law_c6 6 rfl) rfl rfl ?_
    refine R_iload (Dat dd_L_law_c6 7 rfl) rfl ?_
    refine R_iload (Dat dd_L_law_c6 8 rfl) rfl ?_
    obtain ⟨g7, T⟩ := T
    exact R_call1 (Dat dd_L_law_c6 9 rfl) rfl g7 rfl rfl rfl rfl rfl T
  · replace T := T.2 c
    refine R_iconst (Dat dd_L_law_c6 22 rfl) ?_
    exact R_ireturn (Dat dd_L_law_c6 23 rfl) rfl T
theorem t_L_law_698 {h : Hp} {P : Value → Hp → Prop} {a4 a8 a10 a11 a12 a14 a15 a16 : Int} {a0 a2 a5 a6 a9 : Nat} {a3 a7 a13 a17 a18 a19 a20 a21 a22 a23 a24 a25 a26 a27 : Value} (T : (rng a16) ∧ (rng (a4 - 1)) ∧ ((a16 < (a4 - 1) → (tg h a9 = 20 ∨ tg h a9 = 30) ∧ ((ln h a9 : Int) ≤ 2147483648) ∧ (0 ≤ a16) ∧ (a16 < ln h a9) ∧ (tg h a9 = 20 ∨ tg h a9 = 30) ∧ ((ln h a9 : Int) ≤ 2147483648) ∧ (0 ≤ (a16 + 1)) ∧ ((a16 + 1) < ln h a9) ∧ (tg h 0 = 12) ∧ R 48 0 [.ref 0, .int (I (iv h a9 a16)), .int (I (iv h a9 (a16 + 1))), .int (I a16), .int (I a14), .retAddr 0] [] h (fun v h2 => R 99 727 [.ref a0, .ref 0, .ref a2, a3, .int (I a4), .ref a5, .ref a6, a7, .int (I a8), .ref a9, .int (I a10), .int (I a11), .int (I a12), a13, .int (I a14), .int (I a15), .int (I a16), a17, a18, a19, a20, a21, a22, a23, a24, a25, a26, a27] (v :: []) h2 P)) ∧ (¬ a16 < (a4 - 1) → (tg h (10000 + ck h) = 0) ∧ R 99 771 [.ref a0, .ref 0, .ref a2, a3, .int (I a4), .ref a5, .ref a6, a7, .int (I a8), .ref a9, .int (I a10), .int (I a11), .int (I a12), a13, .int (I a14), .int (I a15), .ref (10000 + ck h), .int (I 0), a18, a19, a20, a21, a22, a23, a24, a25, a26, a27] [] (mk h (10000 + ck h) 20 (7 : Int).toNat (7 : Int).toNat) P))) : R 99 698 [.ref a0, .ref 0, .ref a2, a3, .int (I a4), .ref a5, .ref a6, a7, .int (I a8), .ref a9, .int (I a10), .int (I a11), .int (I a12), a13, .int (I a14), .int (I a15), .int (I a16), a17, a18, a19, a20, a21, a22, a23, a24, a25, a26, a27] [] h P := by
  refine R_iload (Dat dd_L_law_c6 28 rfl) rfl ?_
  refine R_iload (Dat dd_L_law_c6 29 rfl) rfl ?_
  refine R_iconst (Dat dd_L_law_c6 30 rfl) ?_
  refine R_isub (Dat dd_L_law_c6 31 rfl) ?_
  obtain ⟨g1, T⟩ := T
  obtain ⟨g2, T⟩ := T
  refine R_ic_ge (Dat dd_L_law_c6 32 rfl) rfl g1 g2 (fun c => ?_) (fun c => ?_)
  · replace T := T.1 c
    refine R_aload_n (Dat dd_L_law_c6 33 rfl) rfl rfl ?_
    refine R_aload (Dat dd_L_law_c6 34 rfl) rfl rfl ?_
    refine R_iload (Dat dd_L_law_c6 35 rfl) rfl ?_
    obtain ⟨g3, T⟩ := T
    obtain ⟨g4, T⟩ := T
    obtain ⟨g5, T⟩ := T
    obtain ⟨g6, T⟩ := T
    refine R_iaload (Dat dd_L_law_c6 36 rfl) g3 g4 g5 g6 ?_
    refine R_aload (Dat dd_L_law_c6 37 rfl) rfl rfl ?_
    refine R_iload (Dat dd_L_law_c6 38 rfl) rfl ?_
    refine R_iconst (Dat dd_L_law_c6 39 rfl) ?_
    refine R_iadd (Dat dd_L_law_c6 40 rfl) ?_
    obtain ⟨g7, T⟩ := T
    obtain ⟨g8, T⟩ := T
    obtain ⟨g9, T⟩ := T
    obtain ⟨g10, T⟩ := T
    refine R_iaload (Dat dd_L_law_c6 41 rfl) g7 g8 g9 g10 ?_
    refine R_iload (Dat dd_L_law_c6 42 rfl) rfl ?_
    refine R_iload (Dat dd_L_law_c6 43 rfl) rfl ?_
    obtain ⟨g11, T⟩ := T
    exact R_call1 (Dat dd_L_law_c6 44 rfl) rfl g11 rfl rfl rfl rfl rfl T
  · replace T := T.2 c
    refine R_bipush (Dat dd_L_law_c7 4 rfl) (a := 7) rfl ?_
    obtain ⟨g12, T⟩ := T
    refine R_newa (Dat dd_L_law_c7 5 rfl) rfl (q := 10000 + ck h) rfl g12 (Or.inr (Nat.le_add_right _ _)) (by decide) (by decide) ?_
    refine R_astore (Dat dd_L_law_c7 6 rfl) rfl rfl rfl ?_
    refine R_iconst (Dat dd_L_law_c7 7 rfl) ?_
    refine R_istore (Dat dd_L_law_c7 8 rfl) rfl rfl ?_
    exact T
theorem t_L_law_1417 {h : Hp} {P : Value → Hp → Prop} {a4 a8 s0 : Int} {a0 a2 a3 a5 a6 a7 a9 a10 a11 a12 a13 a14 a15 a16 a17 a18 a19 a20 a21 a22 a23 a24 a25 a26 a27 : Value} (T : (rng s0) ∧ ((s0 = (-1) → (okg 99 73 [a0, .ref 0, a2, a3, .int (I a4), a5, a6, a7, .int (I a8), a9, a10, a11, a12, a13, a14, a15, a16, a17, a18, a19, a20, a21, a22, a23, a24, a25, a26, a27] [] [.ref 0, .int (I 0), .int (I 4)] = true) ∧ (tg h 0 = 12) ∧ R 73 0 [.ref 0, .int (I 0), .int (I 4), .retAddr 0] [] h (fun v h2 => R 99 1427 [a0, .ref 0, a2, a3, .int (I a4), a5, a6, a7, .int (I a8), a9, a10, a11, a12, a13, a14, a15, a16, a17, a18, a19, a20, a21, a22, a23, a24, a25, a26, a27] (v :: []) h2 P)) ∧ (¬ s0 = (-1) → R 99 1497 [a0, .ref 0, a2, a3, .int (I a4), a5, a6, a7, .int (I a8), a9, a10, a11, a12, a13, a14, a15, a16, a17, a18, a19, a20, a21, a22, a23, a24, a25, a26, a27] [.int (I 0)] h P))) : R 99 1417 [a0, .ref 0, a2, a3, .int (I a4), a5, a6, a7, .int (I a8), a9, a10, a11, a12, a13, a14, a15, a16, a17, a18, a19, a20, a21, a22, a23, a24, a25, a26, a27] [.int (I s0)] h P := by
  refine R_iconst (Dat dd_L_law_c12 45 rfl) ?_
  obtain ⟨g1, T⟩ := T
  refine R_ic_ne (Dat dd_L_law_c12 46 rfl) rfl g1 (by decide) (fun c => ?_) (fun c => ?_)
  · replace T := T.1 c
    refine R_aload_n (Dat dd_L_law_c12 47 rfl) rfl rfl ?_
    refine R_iconst (Dat dd_L_law_c12 48 rfl) ?_
    refine R_iconst (Dat dd_L_law_c12 49 rfl) ?_
    obtain ⟨g2, T⟩ := T
    obtain ⟨g3, T⟩ := T
    exact R_call1 (Dat dd_L_law_c12 50 rfl) rfl g3 rfl rfl rfl g2 rfl T
  · replace T := T.2 c
    refine R_iconst (Dat dd_L_law_c13 30 rfl) ?_
    exact T
theorem t_L_law_664 {h : Hp} {P : Value → Hp → Prop} {a4 a8 a10 a11 a12 a14 a15 a16 s0 : Int} {a0 a2 a5 a6 a9 : Nat} {a3 a7 a13 a17 a18 a19 a20 a21 a22 a23 a24 a25 a26 a27 : Value} (T : (tg h a9 = 20 ∨ tg h a9 = 30) ∧ ((ln h a9 : Int) ≤ 2147483648) ∧ (0 ≤ a16) ∧ (a16 < ln h a9) ∧ (rng s0) ∧ (rng (iv h a9 a16)) ∧ ((s0 = (iv h a9 a16) → (tg h a9 = 20 ∨ tg h a9 = 30) ∧ ((ln h a9 : Int) ≤ 2147483648) ∧ (0 ≤ a16) ∧ (a16 < ln h a9) ∧ (tg h 0 = 12) ∧ R 27 0 [.ref 0, .int (I (iv h a9 a16)), .int (I 5), .retAddr 0] [] h (fun v h2 => R 99 682 [.ref a0, .ref 0, .ref a2, a3, .int (I a4), .ref a5, .ref a6, a7, .int (I a8), .ref a9, .int (I a10), .int (I a11), .int (I a12), a13, .int (I a14), .int (I a15), .int (I a16), a17, a18, a19, a20, a21, a22, a23, a24, a25, a26, a27] (v :: []) h2 P)) ∧ (¬ s0 = (iv h a9 a16) → P (.int (I 0)) h))) : R 99 664 [.ref a0, .ref 0, .ref a2, a3, .int (I a4), .ref a5, .ref a6, a7, .int (I a8), .ref a9, .int (I a10), .int (I a11), .int (I a12), a13, .int (I a14), .int (I a15), .int (I a16), a17, a18, a19, a20, a21, a22, a23, a24, a25, a26, a27] [.int (I s0)] h P := by
  refine R_aload (Dat dd_L_law_c6 10 rfl) rfl rfl ?_
  refine R_iload (Dat dd_L_law_c6 11 rfl) rfl ?_
  obtain ⟨g1, T⟩ := T
  obtain ⟨g2, T⟩ := T
  obtain ⟨g3, T⟩ := T
  obtain ⟨g4, T⟩ := T
  refine R_iaload (Dat dd_L_law_c6 12 rfl) g1 g2 g3 g4 ?_
  obtain ⟨g5, T⟩ := T
  obtain ⟨g6, T⟩ := T
  refine R_ic_ne (Dat dd_L_law_c6 13 rfl) rfl g5 g6 (fun c => ?_) (fun c => ?_)
  · replace T := T.1 c
    refine R_aload_n (Dat dd_L_law_c6 14 rfl) rfl rfl ?_
    refine R_aload (Dat dd_L_law_c6 15 rfl) rfl rfl ?_
    refine R_iload (Dat dd_L_law_c6 16 rfl) rfl ?_
    obtain ⟨g7, T⟩ := T
    obtain ⟨g8, T⟩ := T
    obtain ⟨g9, T⟩ := T
    obtain ⟨g10, T⟩ := T
    refine R_iaload (Dat dd_L_law_c6 17 rfl) g7 g8 g9 g10 ?_
    refine R_iconst (Dat dd_L_law_c6 18 rfl) ?_
    obtain ⟨g11, T⟩ := T
    exact R_call1 (Dat dd_L_law_c6 19 rfl) rfl g11 rfl rfl rfl rfl rfl T
  · replace T := T.2 c
    refine R_iconst (Dat dd_L_law_c6 22 rfl) ?_
    exact R_ireturn (Dat dd_L_law_c6 23 rfl) rfl T
theorem t_L_law_727 {h : Hp} {P : Value → Hp → Prop} {a4 a8 a10 a11 a12 a14 a15 a16 s0 : Int} {a0 a2 a5 a6 a9 : Nat} {a3 a7 a13 a17 a18 a19 a20 a21 a22 a23 a24 a25 a26 a27 : Value} (T : (tg h a9 = 20 ∨ tg h a9 = 30) ∧ ((ln h a9 : Int) ≤ 2147483648) ∧ (0 ≤ a16) ∧ (a16 < ln h a9) ∧ (tg h a9 = 20 ∨ tg h a9 = 30) ∧ ((ln h a9 : Int) ≤ 2147483648) ∧ (0 ≤ (a16 + 1)) ∧ ((a16 + 1) < ln h a9) ∧ R 91 0 [.ref a2, .ref a5, .int (I (-9)), .int (I (iv h a9 a16)), .int (I (iv h a9 (a16 + 1))), .int (I a16), .int (I a14), .retAddr 0, .retAddr 0, .retAddr 0, .retAddr 0, .retAddr 0] [] h (fun v h2 => R 99 751 [.ref a0, .ref 0, .ref a2, a3, .int (I a4), .ref a5, .ref a6, a7, .int (I a8), .ref a9, .int (I a10), .int (I a11), .int (I a12), a13, .int (I a14), .int (I a15), .int (I a16), a17, a18, a19, a20, a21, a22, a23, a24, a25, a26, a27] (v :: [.int (I s0)]) h2 P)) : R 99 727 [.ref a0, .ref 0, .ref a2, a3, .int (I a4), .ref a5, .ref a6, a7, .int (I a8), .ref a9, .int (I a10), .int (I a11), .int (I a12), a13, .int (I a14), .int (I a15), .int (I a16), a17, a18, a19, a20, a21, a22, a23, a24, a25, a26, a27] [.int (I s0)] h P := by
  refine R_aload_n (Dat dd_L_law_c6 45 rfl) rfl rfl ?_
  refine R_aload (Dat dd_L_law_c6 46 rfl) rfl rfl ?_
  refine R_bipush (Dat dd_L_law_c6 47 rfl) (a := (-9)) rfl ?_
  refine R_aload (Dat dd_L_law_c6 48 rfl) rfl rfl ?_
  refine R_iload (Dat dd_L_law_c6 49 rfl) rfl ?_
  obtain ⟨g1, T⟩ := T
  obtain ⟨g2, T⟩ := T
  obtain ⟨g3, T⟩ := T
  obtain ⟨g4, T⟩ := T
  refine R_iaload (Dat dd_L_law_c6 50 rfl) g1 g2 g3 g4 ?_
  refine R_aload (Dat dd_L_law_c6 51 rfl) rfl rfl ?_
  refine R_iload (Dat dd_L_law_c6 52 rfl) rfl ?_
  refine R_iconst (Dat dd_L_law_c6 53 rfl) ?_
  refine R_iadd (Dat dd_L_law_c6 54 rfl) ?_
  obtain ⟨g5, T⟩ := T
  obtain ⟨g6, T⟩ := T
  obtain ⟨g7, T⟩ := T
  obtain ⟨g8, T⟩ := T
  refine R_iaload (Dat dd_L_law_c6 55 rfl) g5 g6 g7 g8 ?_
  refine R_iload (Dat dd_L_law_c6 56 rfl) rfl ?_
  refine R_iload (Dat dd_L_law_c6 57 rfl) rfl ?_
  exact R_call0 (Dat dd_L_law_c6 58 rfl) rfl rfl rfl rfl rfl rfl T
theorem t_L_law_771 {h : Hp} {P : Value → Hp → Prop} {a4 a8 a10 a11 a12 a14 a15 a17 : Int} {a0 a2 a5 a6 a9 a16 : Nat} {a3 a7 a13 a18 a19 a20 a21 a22 a23 a24 a25 a26 a27 : Value} (T : (rng a17) ∧ ((a17 < 7 → (tg h a9 = 20 ∨ tg h a9 = 30) ∧ ((ln h a9 : Int) ≤ 2147483648) ∧ (0 ≤ a17) ∧ (a17 < ln h a9) ∧ (tg h a16 = 20) ∧ ((ln h a16 : Int) ≤ 2147483648) ∧ (0 ≤ a17) ∧ (a17 < ln h a16) ∧ R 99 771 [.ref a0, .ref 0, .ref a2, a3, .int (I a4), .ref a5, .ref a6, a7, .int (I a8), .ref a9, .int (I a10), .int (I a11), .int (I a12), a13, .int (I a14), .int (I a15), .ref a16, .int (I (a17 + 1)), a18, a19, a20, a21, a22, a23, a24, a25, a26, a27] [] (setI h a16 a17 (wr (iv h a9 a17))) P) ∧ (¬ a17 < 7 → R 94 0 [.ref a2, .ref a5, .int (I (-9)), .ref a16, .int (I a14), .retAddr 0, .retAddr 0, .retAddr 0, .retAddr 0, .retAddr 0] [] h (fun v h2 => R 99 806 [.ref a0, .ref 0, .ref a2, a3, .int (I a4), .ref a5, .ref a6, a7, .int (I a8), .ref a9, .int (I a10), .int (I a11), .int (I a12), a13, .int (I a14), .int (I a15), .ref a16, .int (I a17), a18, a19, a20, a21, a22, a23, a24, a25, a26, a27] (v :: []) h2 P)))) : R 99 771 [.ref a0, .ref 0, .ref a2, a3, .int (I a4), .ref a5, .ref a6, a7, .int (I a8), .ref a9, .int (I a10), .int (I a11), .int (I a12), a13, .int (I a14), .int (I a15), .ref a16, .int (I a17), a18, a19, a20, a21, a22, a23, a24, a25, a26, a27] [] h P := by
  refine R_iload (Dat dd_L_law_c7 9 rfl) rfl ?_
  refine R_bipush (Dat dd_L_law_c7 10 rfl) (a := 7) rfl ?_
  obtain ⟨g1, T⟩ := T
  refine R_ic_ge (Dat dd_L_law_c7 11 rfl) rfl g1 (by decide) (fun c => ?_) (fun c => ?_)
  · replace T := T.1 c
    refine R_aload (Dat dd_L_law_c7 12 rfl) rfl rfl ?_
    refine R_iload (Dat dd_L_law_c7 13 rfl) rfl ?_
    refine R_aload (Dat dd_L_law_c7 14 rfl) rfl rfl ?_
    refine R_iload (Dat dd_L_law_c7 15 rfl) rfl ?_
    obtain ⟨g2, T⟩ := T
    obtain ⟨g3, T⟩ := T
    obtain ⟨g4, T⟩ := T
    obtain ⟨g5, T⟩ := T
    refine R_iaload (Dat dd_L_law_c7 16 rfl) g2 g3 g4 g5 ?_
    obtain ⟨g6, T⟩ := T
    obtain ⟨g7, T⟩ := T
    obtain ⟨g8, T⟩ := T
    obtain ⟨g9, T⟩ := T
    refine R_iastore (Dat dd_L_law_c7 17 rfl) g6 g7 g8 g9 (v := wr (iv h a9 a17)) rfl ?_
    refine R_iinc (Dat dd_L_law_c7 18 rfl) rfl rfl rfl ?_
    refine R_goto (Dat dd_L_law_c7 19 rfl) rfl ?_
    exact T
  · replace T := T.2 c
    refine R_aload_n (Dat dd_L_law_c7 20 rfl) rfl rfl ?_
    refine R_aload (Dat dd_L_law_c7 21 rfl) rfl rfl ?_
    refine R_bipush (Dat dd_L_law_c7 22 rfl) (a := (-9)) rfl ?_
    refine R_aload (Dat dd_L_law_c7 23 rfl) rfl rfl ?_
    refine R_iload (Dat dd_L_law_c7 24 rfl) rfl ?_
    exact R_call0 (Dat dd_L_law_c7 25 rfl) rfl rfl rfl rfl rfl rfl T
theorem t_L_law_1427 {h : Hp} {P : Value → Hp → Prop} {a4 a8 s0 : Int} {a0 a2 a3 a5 a6 a7 a9 a10 a11 a12 a13 a14 a15 a16 a17 a18 a19 a20 a21 a22 a23 a24 a25 a26 a27 : Value} (T : (rng s0) ∧ ((s0 = (-2) → (okg 99 75 [a0, .ref 0, a2, a3, .int (I a4), a5, a6, a7, .int (I a8), a9, a10, a11, a12, a13, a14, a15, a16, a17, a18, a19, a20, a21, a22, a23, a24, a25, a26, a27] [] [.ref 0, .int (I a8), .int (I 1), .int (I 0)] = true) ∧ (tg h 0 = 12) ∧ R 75 0 [.ref 0, .int (I a8), .int (I 1), .int (I 0), .retAddr 0, .retAddr 0, .retAddr 0, .retAddr 0] [] h (fun v h2 => R 99 1440 [a0, .ref 0, a2, a3, .int (I a4), a5, a6, a7, .int (I a8), a9, a10, a11, a12, a13, a14, a15, a16, a17, a18, a19, a20, a21, a22, a23, a24, a25, a26, a27] (v :: []) h2 P)) ∧ (¬ s0 = (-2) → R 99 1497 [a0, .ref 0, a2, a3, .int (I a4), a5, a6, a7, .int (I a8), a9, a10, a11, a12, a13, a14, a15, a16, a17, a18, a19, a20, a21, a22, a23, a24, a25, a26, a27] [.int (I 0)] h P))) : R 99 1427 [a0, .ref 0, a2, a3, .int (I a4), a5, a6, a7, .int (I a8), a9, a10, a11, a12, a13, a14, a15, a16, a17, a18, a19, a20, a21, a22, a23, a24, a25, a26, a27] [.int (I s0)] h P := by
  refine R_bipush (Dat dd_L_law_c12 51 rfl) (a := (-2)) rfl ?_
  obtain ⟨g1, T⟩ := T
  refine R_ic_ne (Dat dd_L_law_c12 52 rfl) rfl g1 (by decide) (fun c => ?_) (fun c => ?_)
  · replace T := T.1 c
    refine R_aload_n (Dat dd_L_law_c12 53 rfl) rfl rfl ?_
    refine R_iload (Dat dd_L_law_c12 54 rfl) rfl ?_
    refine R_iconst (Dat dd_L_law_c12 55 rfl) ?_
    refine R_iconst (Dat dd_L_law_c12 56 rfl) ?_
    obtain ⟨g2, T⟩ := T
    obtain ⟨g3, T⟩ := T
    exact R_call1 (Dat dd_L_law_c12 57 rfl) rfl g3 rfl rfl rfl g2 rfl T
  · replace T := T.2 c
    refine R_iconst (Dat dd_L_law_c13 30 rfl) ?_
    exact T
theorem t_L_law_682 {h : Hp} {P : Value → Hp → Prop} {a4 a8 a10 a11 a12 a14 a15 a16 s0 : Int} {a0 a2 a5 a6 a9 : Nat} {a3 a7 a13 a17 a18 a19 a20 a21 a22 a23 a24 a25 a26 a27 : Value} (T : (rng s0) ∧ (rng a16) ∧ ((s0 = a16 → R 99 635 [.ref a0, .ref 0, .ref a2, a3, .int (I a4), .ref a5, .ref a6, a7, .int (I a8), .ref a9, .int (I a10), .int (I a11), .int (I a12), a13, .int (I a14), .int (I a15), .int (I (a16 + 1)), a17, a18, a19, a20, a21, a22, a23, a24, a25, a26, a27] [] h P) ∧ (¬ s0 = a16 → P (.int (I 0)) h))) : R 99 682 [.ref a0, .ref 0, .ref a2, a3, .int (I a4), .ref a5, .ref a6, a7, .int (I a8), .ref a9, .int (I a10), .int (I a11), .int (I a12), a13, .int (I a14), .int (I a15), .int (I a16), a17, a18, a19, a20, a21, a22, a23, a24, a25, a26, a27] [.int (I s0)] h P := by
  refine R_iload (Dat dd_L_law_c6 20 rfl) rfl ?_
  obtain ⟨g1, T⟩ := T
  obtain ⟨g2, T⟩ := T
  refine R_ic_eq (Dat dd_L_law_c6 21 rfl) rfl g1 g2 (fun c => ?_) (fun c => ?_)
  · replace T := T.1 c
    refine R_iinc (Dat dd_L_law_c6 24 rfl) rfl rfl rfl ?_
    refine R_goto (Dat dd_L_law_c6 25 rfl) rfl ?_
    exact T
  · replace T := T.2 c
    refine R_iconst (Dat dd_L_law_c6 22 rfl) ?_
    exact R_ireturn (Dat dd_L_law_c6 23 rfl) rfl T
theorem t_L_law_751 {h : Hp} {P : Value → Hp → Prop} {a4 a8 a10 a11 a12 a14 a15 a16 s0 s1 : Int} {a0 a2 a5 a6 a9 : Nat} {a3 a7 a13 a17 a18 a19 a20 a21 a22 a23 a24 a25 a26 a27 : Value} (T : (rng s1) ∧ (rng s0) ∧ ((s1 = s0 → R 99 698 [.ref a0, .ref 0, .ref a2, a3, .int (I a4), .ref a5, .ref a6, a7, .int (I a8), .ref a9, .int (I a10), .int (I a11), .int (I a12), a13, .int (I a14), .int (I a15), .int (I (a16 + 1)), a17, a18, a19, a20, a21, a22, a23, a24, a25, a26, a27] [] h P) ∧ (¬ s1 = s0 → P (.int (I 0)) h))) : R 99 751 [.ref a0, .ref 0, .ref a2, a3, .int (I a4), .ref a5, .ref a6, a7, .int (I a8), .ref a9, .int (I a10), .int (I a11), .int (I a12), a13, .int (I a14), .int (I a15), .int (I a16), a17, a18, a19, a20, a21, a22, a23, a24, a25, a26, a27] [.int (I s0), .int (I s1)] h P := by
  obtain ⟨g1, T⟩ := T
  obtain ⟨g2, T⟩ := T
  refine R_ic_eq (Dat dd_L_law_c6 59 rfl) rfl g1 g2 (fun c => ?_) (fun c => ?_)
  · replace T := T.1 c
    refine R_iinc (Dat dd_L_law_c7 2 rfl) rfl rfl rfl ?_
    refine R_goto (Dat dd_L_law_c7 3 rfl) rfl ?_
    exact T
  · replace T := T.2 c
    refine R_iconst (Dat dd_L_law_c7 0 rfl) ?_
    exact R_ireturn (Dat dd_L_law_c7 1 rfl) rfl T
theorem t_L_law_806 {h : Hp} {P : Value → Hp → Prop} {a4 a8 a10 a11 a12 a14 a15 s0 : Int} {a0 a2 a5 a6 a9 a16 : Nat} {a3 a7 a13 a17 a18 a19 a20 a21 a22 a23 a24 a25 a26 a27 : Value} (T : (okg 99 73 [.ref a0, .ref 0, .ref a2, a3, .int (I a4), .ref a5, .ref a6, a7, .int (I a8), .ref a9, .int (I a10), .int (I a11), .int (I a12), a13, .int (I a14), .int (I a15), .ref a16, a17, a18, a19, a20, a21, a22, a23, a24, a25, a26, a27] [] [.ref 0, .int (I a15), .int (I a14)] = true) ∧ (tg h 0 = 12) ∧ R 73 0 [.ref 0, .int (I a15), .int (I a14), .retAddr 0] [] h (fun v h2 => R 99 815 [.ref a0, .ref 0, .ref a2, a3, .int (I a4), .ref a5, .ref a6, a7, .int (I a8), .ref a9, .int (I a10), .int (I a11), .int (I a12), a13, .int (I a14), .int (I a15), .ref a16, a17, a18, a19, a20, a21, a22, a23, a24, a25, a26, a27] (v :: []) h2 P)) : R 99 806 [.ref a0, .ref 0, .ref a2, a3, .int (I a4), .ref a5, .ref a6, a7, .int (I a8), .ref a9, .int (I a10), .int (I a11), .int (I a12), a13, .int (I a14), .int (I a15), .ref a16, a17, a18, a19, a20, a21, a22, a23, a24, a25, a26, a27] [.int (I s0)] h P := by
  refine R_pop (Dat dd_L_law_c7 26 rfl) rfl ?_
  refine R_aload_n (Dat dd_L_law_c7 27 rfl) rfl rfl ?_
  refine R_iload (Dat dd_L_law_c7 28 rfl) rfl ?_
  refine R_iload (Dat dd_L_law_c7 29 rfl) rfl ?_
  obtain ⟨g1, T⟩ := T
  obtain ⟨g2, T⟩ := T
  exact R_call1 (Dat dd_L_law_c7 30 rfl) rfl g2 rfl rfl rfl g1 rfl T
theorem t_L_law_1440 {h : Hp} {P : Value → Hp → Prop} {a4 a8 s0 : Int} {a0 a2 a3 a5 a6 a7 a9 a10 a11 a12 a13 a14 a15 a16 a17 a18 a19 a20 a21 a22 a23 a24 a25 a26 a27 : Value} (T : (rng s0) ∧ ((s0 = (-1) → (okg 99 75 [a0, .ref 0, a2, a3, .int (I a4), a5, a6, a7, .int (I a8), a9, a10, a11, a12, a13, a14, a15, a16, a17, a18, a19, a20, a21, a22, a23, a24, a25, a26, a27] [] [.ref 0, .int (I 0), .int (I 1), .int (I 2)] = true) ∧ (tg h 0 = 12) ∧ R 75 0 [.ref 0, .int (I 0), .int (I 1), .int (I 2), .retAddr 0, .retAddr 0, .retAddr 0, .retAddr 0] [] h (fun v h2 => R 99 1451 [a0, .ref 0, a2, a3, .int (I a4), a5, a6, a7, .int (I a8), a9, a10, a11, a12, a13, a14, a15, a16, a17, a18, a19, a20, a21, a22, a23, a24, a25, a26, a27] (v :: []) h2 P)) ∧ (¬ s0 = (-1) → R 99 1497 [a0, .ref 0, a2, a3, .int (I a4), a5, a6, a7, .int (I a8), a9, a10, a11, a12, a13, a14, a15, a16, a17, a18, a19, a20, a21, a22, a23, a24, a25, a26, a27] [.int (I 0)] h P))) : R 99 1440 [a0, .ref 0, a2, a3, .int (I a4), a5, a6, a7, .int (I a8), a9, a10, a11, a12, a13, a14, a15, a16, a17, a18, a19, a20, a21, a22, a23, a24, a25, a26, a27] [.int (I s0)] h P := by
  refine R_iconst (Dat dd_L_law_c12 58 rfl) ?_
  obtain ⟨g1, T⟩ := T
  refine R_ic_ne (Dat dd_L_law_c12 59 rfl) rfl g1 (by decide) (fun c => ?_) (fun c => ?_)
  · replace T := T.1 c
    refine R_aload_n (Dat dd_L_law_c13 0 rfl) rfl rfl ?_
    refine R_iconst (Dat dd_L_law_c13 1 rfl) ?_
    refine R_iconst (Dat dd_L_law_c13 2 rfl) ?_
    refine R_iconst (Dat dd_L_law_c13 3 rfl) ?_
    obtain ⟨g2, T⟩ := T
    obtain ⟨g3, T⟩ := T
    exact R_call1 (Dat dd_L_law_c13 4 rfl) rfl g3 rfl rfl rfl g2 rfl T
  · replace T := T.2 c
    refine R_iconst (Dat dd_L_law_c13 30 rfl) ?_
    exact T
theorem t_L_law_815 {h : Hp} {P : Value → Hp → Prop} {a4 a8 a10 a11 a12 a14 a15 s0 : Int} {a0 a2 a5 a6 a9 a16 : Nat} {a3 a7 a13 a17 a18 a19 a20 a21 a22 a23 a24 a25 a26 a27 : Value} (T : R 95 0 [.ref a2, .ref a16, .retAddr 0, .retAddr 0, .retAddr 0, .retAddr 0, .retAddr 0] [] h (fun v h2 => R 99 821 [.ref a0, .ref 0, .ref a2, a3, .int (I a4), .ref a5, .ref a6, a7, .int (I a8), .ref a9, .int (I a10), .int (I a11), .int (I a12), a13, .int (I a14), .int (I a15), .ref a16, a17, a18, a19, a20, a21, a22, a23, a24, a25, a26, a27] (v :: [.int (I s0)]) h2 P)) : R 99 815 [.ref a0, .ref 0, .ref a2, a3, .int (I a4), .ref a5, .ref a6, a7, .int (I a8), .ref a9, .int (I a10), .int (I a11), .int (I a12), a13, .int (I a14), .int (I a15), .ref a16, a17, a18, a19, a20, a21, a22, a23, a24, a25, a26, a27] [.int (I s0)] h P := by
  refine R_aload_n (Dat dd_L_law_c7 31 rfl) rfl rfl ?_
  refine R_aload (Dat dd_L_law_c7 32 rfl) rfl rfl ?_
  exact R_call0 (Dat dd_L_law_c7 33 rfl) rfl rfl rfl rfl rfl rfl T
theorem t_L_law_1451 {h : Hp} {P : Value → Hp → Prop} {a4 a8 s0 : Int} {a0 a2 a3 a5 a6 a7 a9 a10 a11 a12 a13 a14 a15 a16 a17 a18 a19 a20 a21 a22 a23 a24 a25 a26 a27 : Value} (T : (rng s0) ∧ ((s0 = (-2) → (okg 99 76 [a0, .ref 0, a2, a3, .int (I a4), a5, a6, a7, .int (I a8), a9, a10, a11, a12, a13, a14, a15, a16, a17, a18, a19, a20, a21, a22, a23, a24, a25, a26, a27] [] [.ref 0, .int (I a4), .int (I 0), .int (I 1)] = true) ∧ (tg h 0 = 12) ∧ R 76 0 [.ref 0, .int (I a4), .int (I 0), .int (I 1), .retAddr 0] [] h (fun v h2 => R 99 1464 [a0, .ref 0, a2, a3, .int (I a4), a5, a6, a7, .int (I a8), a9, a10, a11, a12, a13, a14, a15, a16, a17, a18, a19, a20, a21, a22, a23, a24, a25, a26, a27] (v :: []) h2 P)) ∧ (¬ s0 = (-2) → R 99 1497 [a0, .ref 0, a2, a3, .int (I a4), a5, a6, a7, .int (I a8), a9, a10, a11, a12, a13, a14, a15, a16, a17, a18, a19, a20, a21, a22, a23, a24, a25, a26, a27] [.int (I 0)] h P))) : R 99 1451 [a0, .ref 0, a2, a3, .int (I a4), a5, a6, a7, .int (I a8), a9, a10, a11, a12, a13, a14, a15, a16, a17, a18, a19, a20, a21, a22, a23, a24, a25, a26, a27] [.int (I s0)] h P := by
  refine R_bipush (Dat dd_L_law_c13 5 rfl) (a := (-2)) rfl ?_
  obtain ⟨g1, T⟩ := T
  refine R_ic_ne (Dat dd_L_law_c13 6 rfl) rfl g1 (by decide) (fun c => ?_) (fun c => ?_)
  · replace T := T.1 c
    refine R_aload_n (Dat dd_L_law_c13 7 rfl) rfl rfl ?_
    refine R_iload (Dat dd_L_law_c13 8 rfl) rfl ?_
    refine R_iconst (Dat dd_L_law_c13 9 rfl) ?_
    refine R_iconst (Dat dd_L_law_c13 10 rfl) ?_
    obtain ⟨g2, T⟩ := T
    obtain ⟨g3, T⟩ := T
    exact R_call1 (Dat dd_L_law_c13 11 rfl) rfl g3 rfl rfl rfl g2 rfl T
  · replace T := T.2 c
    refine R_iconst (Dat dd_L_law_c13 30 rfl) ?_
    exact T
theorem t_L_law_821 {h : Hp} {P : Value → Hp → Prop} {a4 a8 a10 a11 a12 a14 a15 s0 s1 : Int} {a0 a2 a5 a6 a9 a16 : Nat} {a3 a7 a13 a17 a18 a19 a20 a21 a22 a23 a24 a25 a26 a27 : Value} (T : (rng s1) ∧ (rng s0) ∧ ((s1 = s0 → (okg 99 75 [.ref a0, .ref 0, .ref a2, a3, .int (I a4), .ref a5, .ref a6, a7, .int (I a8), .ref a9, .int (I a10), .int (I a11), .int (I a12), a13, .int (I a14), .int (I a15), .ref a16, a17, a18, a19, a20, a21, a22, a23, a24, a25, a26, a27] [] [.ref 0, .int (I a15), .int (I a14), .int (I 0)] = true) ∧ (tg h 0 = 12) ∧ R 75 0 [.ref 0, .int (I a15), .int (I a14), .int (I 0), .retAddr 0, .retAddr 0, .retAddr 0, .retAddr 0] [] h (fun v h2 => R 99 835 [.ref a0, .ref 0, .ref a2, a3, .int (I a4), .ref a5, .ref a6, a7, .int (I a8), .ref a9, .int (I a10), .int (I a11), .int (I a12), a13, .int (I a14), .int (I a15), .ref a16, a17, a18, a19, a20, a21, a22, a23, a24, a25, a26, a27] (v :: []) h2 P)) ∧ (¬ s1 = s0 → P (.int (I 0)) h))) : R 99 821 [.ref a0, .ref 0, .ref a2, a3, .int (I a4), .ref a5, .ref a6, a7, .int (I a8), .ref a9, .int (I a10), .int (I a11), .int (I a12), a13, .int (I a14), .int (I a15), .ref a16, a17, a18, a19, a20, a21, a22, a23, a24, a25, a26, a27] [.int (I s0), .int (I s1)] h P := by
  obtain ⟨g1, T⟩ := T
  obtain ⟨g2, T⟩ := T
  refine R_ic_eq (Dat dd_L_law_c7 34 rfl) rfl g1 g2 (fun c => ?_) (fun c => ?_)
  · replace T := T.1 c
    refine R_aload_n (Dat dd_L_law_c7 37 rfl) rfl rfl ?_
    refine R_iload (Dat dd_L_law_c7 38 rfl) rfl ?_
    refine R_iload (Dat dd_L_law_c7 39 rfl) rfl ?_
    refine R_iconst (Dat dd_L_law_c7 40 rfl) ?_
    obtain ⟨g3, T⟩ := T
    obtain ⟨g4, T⟩ := T
    exact R_call1 (Dat dd_L_law_c7 41 rfl) rfl g4 rfl rfl rfl g3 rfl T
  · replace T := T.2 c
    refine R_iconst (Dat dd_L_law_c7 35 rfl) ?_
    exact R_ireturn (Dat dd_L_law_c7 36 rfl) rfl T
theorem t_L_law_1464 {h : Hp} {P : Value → Hp → Prop} {a8 s0 : Int} {a0 a2 a3 a4 a5 a6 a7 a9 a10 a11 a12 a13 a14 a15 a16 a17 a18 a19 a20 a21 a22 a23 a24 a25 a26 a27 : Value} (T : (rng s0) ∧ ((s0 = (-1) → (okg 99 76 [a0, .ref 0, a2, a3, a4, a5, a6, a7, .int (I a8), a9, a10, a11, a12, a13, a14, a15, a16, a17, a18, a19, a20, a21, a22, a23, a24, a25, a26, a27] [] [.ref 0, .int (I 0), .int (I 0), .int (I 0)] = true) ∧ (tg h 0 = 12) ∧ R 76 0 [.ref 0, .int (I 0), .int (I 0), .int (I 0), .retAddr 0] [] h (fun v h2 => R 99 1475 [a0, .ref 0, a2, a3, a4, a5, a6, a7, .int (I a8), a9, a10, a11, a12, a13, a14, a15, a16, a17, a18, a19, a20, a21, a22, a23, a24, a25, a26, a27] (v :: []) h2 P)) ∧ (¬ s0 = (-1) → R 99 1497 [a0, .ref 0, a2, a3, a4, a5, a6, a7, .int (I a8), a9, a10, a11, a12, a13, a14, a15, a16, a17, a18, a19, a20, a21, a22, a23, a24, a25, a26, a27] [.int (I 0)] h P))) : R 99 1464 [a0, .ref 0, a2, a3, a4, a5, a6, a7, .int (I a8), a9, a10, a11, a12, a13, a14, a15, a16, a17, a18, a19, a20, a21, a22, a23, a24, a25, a26, a27] [.int (I s0)] h P := by
  refine R_iconst (Dat dd_L_law_c13 12 rfl) ?_
  obtain ⟨g1, T⟩ := T
  refine R_ic_ne (Dat dd_L_law_c13 13 rfl) rfl g1 (by decide) (fun c => ?_) (fun c => ?_)
  · replace T := T.1 c
    refine R_aload_n (Dat dd_L_law_c13 14 rfl) rfl rfl ?_
    refine R_iconst (Dat dd_L_law_c13 15 rfl) ?_
    refine R_iconst (Dat dd_L_law_c13 16 rfl) ?_
    refine R_iconst (Dat dd_L_law_c13 17 rfl) ?_
    obtain ⟨g2, T⟩ := T
    obtain ⟨g3, T⟩ := T
    exact R_call1 (Dat dd_L_law_c13 18 rfl) rfl g3 rfl rfl rfl g2 rfl T
  · replace T := T.2 c
    refine R_iconst (Dat dd_L_law_c13 30 rfl) ?_
    exact T
theorem t_L_law_835 {h : Hp} {P : Value → Hp → Prop} {a4 a8 a10 a11 a12 a14 a15 s0 : Int} {a0 a2 a5 a6 a9 a16 : Nat} {a3 a7 a13 a17 a18 a19 a20 a21 a22 a23 a24 a25 a26 a27 : Value} (T : (okg 99 75 [.ref a0, .ref 0, .ref a2, a3, .int (I a4), .ref a5, .ref a6, a7, .int (I a8), .ref a9, .int (I a10), .int (I a11), .int (I a12), a13, .int (I a14), .int (I a15), .ref a16, .int (I s0), a18, a19, a20, a21, a22, a23, a24, a25, a26, a27] [] [.ref 0, .int (I a15), .int (I a14), .int (I 1)] = true) ∧ (tg h 0 = 12) ∧ R 75 0 [.ref 0, .int (I a15), .int (I a14), .int (I 1), .retAddr 0, .retAddr 0, .retAddr 0, .retAddr 0] [] h (fun v h2 => R 99 846 [.ref a0, .ref 0, .ref a2, a3, .int (I a4), .ref a5, .ref a6, a7, .int (I a8), .ref a9, .int (I a10), .int (I a11), .int (I a12), a13, .int (I a14), .int (I a15), .ref a16, .int (I s0), a18, a19, a20, a21, a22, a23, a24, a25, a26, a27] (v :: []) h2 P)) : R 99 835 [.ref a0, .ref 0, .ref a2, a3, .int (I a4), .ref a5, .ref a6, a7, .int (I a8), .ref a9, .int (I a10), .int (I a11), .int (I a12), a13, .int (I a14), .int (I a15), .ref a16, a17, a18, a19, a20, a21, a22, a23, a24, a25, a26, a27] [.int (I s0)] h P := by
  refine R_istore (Dat dd_L_law_c7 42 rfl) rfl rfl ?_
  refine R_aload_n (Dat dd_L_law_c7 43 rfl) rfl rfl ?_
  refine R_iload (Dat dd_L_law_c7 44 rfl) rfl ?_
  refine R_iload (Dat dd_L_law_c7 45 rfl) rfl ?_
  refine R_iconst (Dat dd_L_law_c7 46 rfl) ?_
  obtain ⟨g1, T⟩ := T
  obtain ⟨g2, T⟩ := T
  exact R_call1 (Dat dd_L_law_c7 47 rfl) rfl g2 rfl rfl rfl g1 rfl T
theorem t_L_law_1475 {h : Hp} {P : Value → Hp → Prop} {a8 s0 : Int} {a0 a2 a3 a4 a5 a6 a7 a9 a10 a11 a12 a13 a14 a15 a16 a17 a18 a19 a20 a21 a22 a23 a24 a25 a26 a27 : Value} (T : (rng s0) ∧ ((s0 = (-2) → (okg 99 79 [a0, .ref 0, a2, a3, a4, a5, a6, a7, .int (I a8), a9, a10, a11, a12, a13, a14, a15, a16, a17, a18, a19, a20, a21, a22, a23, a24, a25, a26, a27] [] [.ref 0, .int (I 0), .int (I a8), .int (I 1)] = true) ∧ (tg h 0 = 12) ∧ R 79 0 [.ref 0, .int (I 0), .int (I a8), .int (I 1), .retAddr 0, .retAddr 0, .retAddr 0, .retAddr 0, .retAddr 0, .retAddr 0, .retAddr 0] [] h (fun v h2 => R 99 1488 [a0, .ref 0, a2, a3, a4, a5, a6, a7, .int (I a8), a9, a10, a11, a12, a13, a14, a15, a16, a17, a18, a19, a20, a21, a22, a23, a24, a25, a26, a27] (v :: []) h2 P)) ∧ (¬ s0 = (-2) → R 99 1497 [a0, .ref 0, a2, a3, a4, a5, a6, a7, .int (I a8), a9, a10, a11, a12, a13, a14, a15, a16, a17, a18, a19, a20, a21, a22, a23, a24, a25, a26, a27] [.int (I 0)] h P))) : R 99 1475 [a0, .ref 0, a2, a3, a4, a5, a6, a7, .int (I a8), a9, a10, a11, a12, a13, a14, a15, a16, a17, a18, a19, a20, a21, a22, a23, a24, a25, a26, a27] [.int (I s0)] h P := by
  refine R_bipush (Dat dd_L_law_c13 19 rfl) (a := (-2)) rfl ?_
  obtain ⟨g1, T⟩ := T
  refine R_ic_ne (Dat dd_L_law_c13 20 rfl) rfl g1 (by decide) (fun c => ?_) (fun c => ?_)
  · replace T := T.1 c
    refine R_aload_n (Dat dd_L_law_c13 21 rfl) rfl rfl ?_
    refine R_iconst (Dat dd_L_law_c13 22 rfl) ?_
    refine R_iload (Dat dd_L_law_c13 23 rfl) rfl ?_
    refine R_iconst (Dat dd_L_law_c13 24 rfl) ?_
    obtain ⟨g2, T⟩ := T
    obtain ⟨g3, T⟩ := T
    exact R_call1 (Dat dd_L_law_c13 25 rfl) rfl g3 rfl rfl rfl g2 rfl T
  · replace T := T.2 c
    refine R_iconst (Dat dd_L_law_c13 30 rfl) ?_
    exact T
theorem t_L_law_846 {h : Hp} {P : Value → Hp → Prop} {a4 a8 a10 a11 a12 a14 a15 a17 s0 : Int} {a0 a2 a5 a6 a9 a16 : Nat} {a3 a7 a13 a18 a19 a20 a21 a22 a23 a24 a25 a26 a27 : Value} (T : (rng a17) ∧ ((a17 < 0 → P (.int (I 0)) h) ∧ (¬ a17 < 0 → (rng s0) ∧ ((s0 < 1 → P (.int (I 0)) h) ∧ (¬ s0 < 1 → (rng (a17 + s0)) ∧ (rng a8) ∧ ((a8 < (a17 + s0) → P (.int (I 0)) h) ∧ (¬ a8 < (a17 + s0) → R 96 0 [.ref a2, .int (I a15), .ref a16, .retAddr 0, .retAddr 0, .retAddr 0, .retAddr 0, .retAddr 0] [] h (fun _ h2 => R 99 879 [.ref a0, .ref 0, .ref a2, a3, .int (I a4), .ref a5, .ref a6, a7, .int (I a8), .ref a9, .int (I a10), .int (I a11), .int (I a12), a13, .int (I a14), .int (I a15), .ref a16, .int (I a17), .int (I s0), a19, a20, a21, a22, a23, a24, a25, a26, a27] [] h2 P)))))))) : R 99 846 [.ref a0, .ref 0, .ref a2, a3, .int (I a4), .ref a5, .ref a6, a7, .int (I a8), .ref a9, .int (I a10), .int (I a11), .int (I a12), a13, .int (I a14), .int (I a15), .ref a16, .int (I a17), a18, a19, a20, a21, a22, a23, a24, a25, a26, a27] [.int (I s0)] h P := by
  refine R_istore (Dat dd_L_law_c7 48 rfl) rfl rfl ?_
  refine R_iload (Dat dd_L_law_c7 49 rfl) rfl ?_
  obtain ⟨g1, T⟩ := T
  refine R_if_lt (Dat dd_L_law_c7 50 rfl) rfl g1  (fun c => ?_) (fun c => ?_)
  · replace T := T.1 c
    refine R_iconst (Dat dd_L_law_c7 59 rfl) ?_
    exact R_ireturn (Dat dd_L_law_c8 0 rfl) rfl T
  · replace T := T.2 c
    refine R_iload (Dat dd_L_law_c7 51 rfl) rfl ?_
    refine R_iconst (Dat dd_L_law_c7 52 rfl) ?_
    obtain ⟨g2, T⟩ := T
    refine R_ic_lt (Dat dd_L_law_c7 53 rfl) rfl g2 (by decide) (fun c => ?_) (fun c => ?_)
    · replace T := T.1 c
      refine R_iconst (Dat dd_L_law_c7 59 rfl) ?_
      exact R_ireturn (Dat dd_L_law_c8 0 rfl) rfl T
    · replace T := T.2 c
      refine R_iload (Dat dd_L_law_c7 54 rfl) rfl ?_
      refine R_iload (Dat dd_L_law_c7 55 rfl) rfl ?_
      refine R_iadd (Dat dd_L_law_c7 56 rfl) ?_
      refine R_iload (Dat dd_L_law_c7 57 rfl) rfl ?_
      obtain ⟨g3, T⟩ := T
      obtain ⟨g4, T⟩ := T
      refine R_ic_le (Dat dd_L_law_c7 58 rfl) rfl g3 g4 (fun c => ?_) (fun c => ?_)
      · replace T := T.1 c
        refine R_iconst (Dat dd_L_law_c7 59 rfl) ?_
        exact R_ireturn (Dat dd_L_law_c8 0 rfl) rfl T
      · replace T := T.2 c
        refine R_aload_n (Dat dd_L_law_c8 1 rfl) rfl rfl ?_
        refine R_iload (Dat dd_L_law_c8 2 rfl) rfl ?_
        refine R_aload (Dat dd_L_law_c8 3 rfl) rfl rfl ?_
        exact R_call0 (Dat dd_L_law_c8 4 rfl) rfl rfl rfl rfl rfl rfl T
theorem t_L_law_1488 {h : Hp} {P : Value → Hp → Prop} {s0 : Int} {a0 a1 a2 a3 a4 a5 a6 a7 a8 a9 a10 a11 a12 a13 a14 a15 a16 a17 a18 a19 a20 a21 a22 a23 a24 a25 a26 a27 : Value} (T : (rng s0) ∧ ((s0 = (-1) → R 99 1497 [a0, a1, a2, a3, a4, a5, a6, a7, a8, a9, a10, a11, a12, a13, a14, a15, a16, a17, a18, a19, a20, a21, a22, a23, a24, a25, a26, a27] [.int (I 1)] h P) ∧ (¬ s0 = (-1) → R 99 1497 [a0, a1, a2, a3, a4, a5, a6, a7, a8, a9, a10, a11, a12, a13, a14, a15, a16, a17, a18, a19, a20, a21, a22, a23, a24, a25, a26, a27] [.int (I 0)] h P))) : R 99 1488 [a0, a1, a2, a3, a4, a5, a6, a7, a8, a9, a10, a11, a12, a13, a14, a15, a16, a17, a18, a19, a20, a21, a22, a23, a24, a25, a26, a27] [.int (I s0)] h P := by
  refine R_iconst (Dat dd_L_law_c13 26 rfl) ?_
  obtain ⟨g1, T⟩ := T
  refine R_ic_ne (Dat dd_L_law_c13 27 rfl) rfl g1 (by decide) (fun c => ?_) (fun c => ?_)
  · replace T := T.1 c
    refine R_iconst (Dat dd_L_law_c13 28 rfl) ?_
    refine R_goto (Dat dd_L_law_c13 29 rfl) rfl ?_
    exact T
  · replace T := T.2 c
    refine R_iconst (Dat dd_L_law_c13 30 rfl) ?_
    exact T
theorem t_L_law_879 {h : Hp} {P : Value → Hp → Prop} {a4 a8 a10 a11 a12 a14 a15 a17 a18 : Int} {a0 a2 a5 a6 a9 a16 : Nat} {a3 a7 a13 a19 a20 a21 a22 a23 a24 a25 a26 a27 : Value} (T : R 99 888 [.ref a0, .ref 0, .ref a2, a3, .int (I a4), .ref a5, .ref a6, a7, .int (I a8), .ref a9, .int (I a10), .int (I a11), .int (I a12), a13, .int (I a14), .int (I a15), .ref a16, .int (I a17), .int (I a18), .int (I (-1)), .int (I (-1)), .int (I 0), a22, a23, a24, a25, a26, a27] [] h P) : R 99 879 [.ref a0, .ref 0, .ref a2, a3, .int (I a4), .ref a5, .ref a6, a7, .int (I a8), .ref a9, .int (I a10), .int (I a11), .int (I a12), a13, .int (I a14), .int (I a15), .ref a16, .int (I a17), .int (I a18), a19, a20, a21, a22, a23, a24, a25, a26, a27] [] h P := by
  refine R_iconst (Dat dd_L_law_c8 5 rfl) ?_
  refine R_istore (Dat dd_L_law_c8 6 rfl) rfl rfl ?_
  refine R_iconst (Dat dd_L_law_c8 7 rfl) ?_
  refine R_istore (Dat dd_L_law_c8 8 rfl) rfl rfl ?_
  refine R_iconst (Dat dd_L_law_c8 9 rfl) ?_
  refine R_istore (Dat dd_L_law_c8 10 rfl) rfl rfl ?_
  exact T
theorem t_L_law_888 {h : Hp} {P : Value → Hp → Prop} {a4 a8 a10 a11 a12 a14 a15 a17 a18 a19 a20 a21 : Int} {a0 a2 a5 a6 a9 a16 : Nat} {a3 a7 a13 a22 a23 a24 a25 a26 a27 : Value} (T : (rng a21) ∧ (rng (a17 + a18)) ∧ (((a17 + a18) < a21 → R 88 0 [.int (I (shr a12 15)), .int (I a4)] [] h (fun v h2 => R 99 1051 [.ref a0, .ref 0, .ref a2, a3, .int (I a4), .ref a5, .ref a6, a7, .int (I a8), .ref a9, .int (I a10), .int (I a11), .int (I a12), a13, .int (I a14), .int (I a15), .ref a16, .int (I a17), .int (I a18), .int (I a19), .int (I a20), .int (I a21), a22, a23, a24, a25, a26, a27] (v :: []) h2 P)) ∧ (¬ (a17 + a18) < a21 → R 95 0 [.ref a2, .ref a16, .retAddr 0, .retAddr 0, .retAddr 0, .retAddr 0, .retAddr 0] [] h (fun v h2 => R 99 904 [.ref a0, .ref 0, .ref a2, a3, .int (I a4), .ref a5, .ref a6, a7, .int (I a8), .ref a9, .int (I a10), .int (I a11), .int (I a12), a13, .int (I a14), .int (I a15), .ref a16, .int (I a17), .int (I a18), .int (I a19), .int (I a20), .int (I a21), a22, a23, a24, a25, a26, a27] (v :: []) h2 P)))) : R 99 888 [.ref a0, .ref 0, .ref a2, a3, .int (I a4), .ref a5, .ref a6, a7, .int (I a8), .ref a9, .int (I a10), .int (I a11), .int (I a12), a13, .int (I a14), .int (I a15), .ref a16, .int (I a17), .int (I a18), .int (I a19), .int (I a20), .int (I a21), a22, a23, a24, a25, a26, a27] [] h P := by
  refine R_iload (Dat dd_L_law_c8 11 rfl) rfl ?_
  refine R_iload (Dat dd_L_law_c8 12 rfl) rfl ?_
  refine R_iload (Dat dd_L_law_c8 13 rfl) rfl ?_
  refine R_iadd (Dat dd_L_law_c8 14 rfl) ?_
  obtain ⟨g1, T⟩ := T
  obtain ⟨g2, T⟩ := T
  refine R_ic_gt (Dat dd_L_law_c8 15 rfl) rfl g1 g2 (fun c => ?_) (fun c => ?_)
  · replace T := T.1 c
    refine R_iload (Dat dd_L_law_c9 27 rfl) rfl ?_
    refine R_bipush (Dat dd_L_law_c9 28 rfl) (a := 15) rfl ?_
    refine R_ishr (Dat dd_L_law_c9 29 rfl) ?_
    refine R_iload (Dat dd_L_law_c9 30 rfl) rfl ?_
    exact R_call0 (Dat dd_L_law_c9 31 rfl) rfl rfl rfl rfl rfl rfl T
  · replace T := T.2 c
    refine R_aload_n (Dat dd_L_law_c8 16 rfl) rfl rfl ?_
    refine R_aload (Dat dd_L_law_c8 17 rfl) rfl rfl ?_
    exact R_call0 (Dat dd_L_law_c8 18 rfl) rfl rfl rfl rfl rfl rfl T
theorem t_L_law_1051 {h : Hp} {P : Value → Hp → Prop} {a4 a8 a10 a11 a12 a14 a15 s0 : Int} {a0 a2 a5 a6 a9 : Nat} {a3 a7 a13 a16 a17 a18 a19 a20 a21 a22 a23 a24 a25 a26 a27 : Value} (T : (okg 99 97 [.ref a0, .ref 0, .ref a2, a3, .int (I a4), .ref a5, .ref a6, a7, .int (I a8), .ref a9, .int (I a10), .int (I a11), .int (I a12), a13, .int (I a14), .int (I a15), a16, a17, a18, a19, a20, .int (I s0), a22, a23, a24, a25, a26, a27] [] [.ref a2, .ref a5, .int (I (-9)), .int (I s0), .int (I a15), .int (I a14)] = true) ∧ R 97 0 [.ref a2, .ref a5, .int (I (-9)), .int (I s0), .int (I a15), .int (I a14), .retAddr 0, .retAddr 0, .retAddr 0] [] h (fun v h2 => R 99 1067 [.ref a0, .ref 0, .ref a2, a3, .int (I a4), .ref a5, .ref a6, a7, .int (I a8), .ref a9, .int (I a10), .int (I a11), .int (I a12), a13, .int (I a14), .int (I a15), a16, a17, a18, a19, a20, .int (I s0), a22, a23, a24, a25, a26, a27] (v :: []) h2 P)) : R 99 1051 [.ref a0, .ref 0, .ref a2, a3, .int (I a4), .ref a5, .ref a6, a7, .int (I a8), .ref a9, .int (I a10), .int (I a11), .int (I a12), a13, .int (I a14), .int (I a15), a16, a17, a18, a19, a20, a21, a22, a23, a24, a25, a26, a27] [.int (I s0)] h P := by
  refine R_istore (Dat dd_L_law_c9 32 rfl) rfl rfl ?_
  refine R_aload_n (Dat dd_L_law_c9 33 rfl) rfl rfl ?_
  refine R_aload (Dat dd_L_law_c9 34 rfl) rfl rfl ?_
  refine R_bipush (Dat dd_L_law_c9 35 rfl) (a := (-9)) rfl ?_
  refine R_iload (Dat dd_L_law_c9 36 rfl) rfl ?_
  refine R_iload (Dat dd_L_law_c9 37 rfl) rfl ?_
  refine R_iload (Dat dd_L_law_c9 38 rfl) rfl ?_
  obtain ⟨g1, T⟩ := T
  exact R_call0 (Dat dd_L_law_c9 39 rfl) rfl rfl rfl rfl g1 rfl T
theorem t_L_law_904 {h : Hp} {P : Value → Hp → Prop} {a4 a8 a10 a11 a12 a14 a15 a17 a18 a19 a20 a21 s0 : Int} {a0 a2 a5 a6 a9 a16 : Nat} {a3 a7 a13 a22 a23 a24 a25 a26 a27 : Value} (T : (rng a21) ∧ (rng a17) ∧ ((a21 = a17 → R 99 917 [.ref a0, .ref 0, .ref a2, a3, .int (I a4), .ref a5, .ref a6, a7, .int (I a8), .ref a9, .int (I a10), .int (I a11), .int (I a12), a13, .int (I a14), .int (I a15), .ref a16, .int (I a17), .int (I a18), .int (I s0), .int (I a20), .int (I a21), .int (I s0), a23, a24, a25, a26, a27] [] h P) ∧ (¬ a21 = a17 → R 99 917 [.ref a0, .ref 0, .ref a2, a3, .int (I a4), .ref a5, .ref a6, a7, .int (I a8), .ref a9, .int (I a10), .int (I a11), .int (I a12), a13, .int (I a14), .int (I a15), .ref a16, .int (I a17), .int (I a18), .int (I a19), .int (I a20), .int (I a21), .int (I s0), a23, a24, a25, a26, a27] [] h P))) : R 99 904 [.ref a0, .ref 0, .ref a2, a3, .int (I a4), .ref a5, .ref a6, a7, .int (I a8), .ref a9, .int (I a10), .int (I a11), .int (I a12), a13, .int (I a14), .int (I a15), .ref a16, .int (I a17), .int (I a18), .int (I a19), .int (I a20), .int (I a21), a22, a23, a24, a25, a26, a27] [.int (I s0)] h P := by
  refine R_istore (Dat dd_L_law_c8 19 rfl) rfl rfl ?_
  refine R_iload (Dat dd_L_law_c8 20 rfl) rfl ?_
  refine R_iload (Dat dd_L_law_c8 21 rfl) rfl ?_
  obtain ⟨g1, T⟩ := T
  obtain ⟨g2, T⟩ := T
  refine R_ic_ne (Dat dd_L_law_c8 22 rfl) rfl g1 g2 (fun c => ?_) (fun c => ?_)
  · replace T := T.1 c
    refine R_iload (Dat dd_L_law_c8 23 rfl) rfl ?_
    refine R_istore (Dat dd_L_law_c8 24 rfl) rfl rfl ?_
    exact T
  · replace T := T.2 c
    exact T
theorem t_L_law_1067 {h : Hp} {P : Value → Hp → Prop} {a4 a8 a10 a11 a12 a14 a15 a21 s0 : Int} {a0 a2 a5 a6 a9 : Nat} {a3 a7 a13 a16 a17 a18 a19 a20 a22 a23 a24 a25 a26 a27 : Value} (T : (okg 99 76 [.ref a0, .ref 0, .ref a2, a3, .int (I a4), .ref a5, .ref a6, a7, .int (I a8), .ref a9, .int (I a10), .int (I a11), .int (I a12), a13, .int (I a14), .int (I a15), a16, a17, a18, a19, a20, .int (I a21), .int (I s0), a23, a24, a25, a26, a27] [] [.ref 0, .int (I a21), .int (I a15), .int (I a14)] = true) ∧ (tg h 0 = 12) ∧ R 76 0 [.ref 0, .int (I a21), .int (I a15), .int (I a14), .retAddr 0] [] h (fun v h2 => R 99 1079 [.ref a0, .ref 0, .ref a2, a3, .int (I a4), .ref a5, .ref a6, a7, .int (I a8), .ref a9, .int (I a10), .int (I a11), .int (I a12), a13, .int (I a14), .int (I a15), a16, a17, a18, a19, a20, .int (I a21), .int (I s0), a23, a24, a25, a26, a27] (v :: []) h2 P)) : R 99 1067 [.ref a0, .ref 0, .ref a2, a3, .int (I a4), .ref a5, .ref a6, a7, .int (I a8), .ref a9, .int (I a10), .int (I a11), .int (I a12), a13, .int (I a14), .int (I a15), a16, a17, a18, a19, a20, .int (I a21), a22, a23, a24, a25, a26, a27] [.int (I s0)] h P := by
  refine R_istore (Dat dd_L_law_c9 40 rfl) rfl rfl ?_
  refine R_aload_n (Dat dd_L_law_c9 41 rfl) rfl rfl ?_
  refine R_iload (Dat dd_L_law_c9 42 rfl) rfl ?_
  refine R_iload (Dat dd_L_law_c9 43 rfl) rfl ?_
  refine R_iload (Dat dd_L_law_c9 44 rfl) rfl ?_
  obtain ⟨g1, T⟩ := T
  obtain ⟨g2, T⟩ := T
  exact R_call1 (Dat dd_L_law_c9 45 rfl) rfl g2 rfl rfl rfl g1 rfl T
theorem t_L_law_917 {h : Hp} {P : Value → Hp → Prop} {a4 a8 a10 a11 a12 a14 a15 a17 a18 a19 a20 a21 a22 : Int} {a0 a2 a5 a6 a9 a16 : Nat} {a3 a7 a13 a23 a24 a25 a26 a27 : Value} (T : (rng a21) ∧ (rng (a17 - 1)) ∧ ((a21 = (a17 - 1) → R 99 930 [.ref a0, .ref 0, .ref a2, a3, .int (I a4), .ref a5, .ref a6, a7, .int (I a8), .ref a9, .int (I a10), .int (I a11), .int (I a12), a13, .int (I a14), .int (I a15), .ref a16, .int (I a17), .int (I a18), .int (I a19), .int (I a22), .int (I a21), .int (I a22), a23, a24, a25, a26, a27] [] h P) ∧ (¬ a21 = (a17 - 1) → R 99 930 [.ref a0, .ref 0, .ref a2, a3, .int (I a4), .ref a5, .ref a6, a7, .int (I a8), .ref a9, .int (I a10), .int (I a11), .int (I a12), a13, .int (I a14), .int (I a15), .ref a16, .int (I a17), .int (I a18), .int (I a19), .int (I a20), .int (I a21), .int (I a22), a23, a24, a25, a26, a27] [] h P))) : R 99 917 [.ref a0, .ref 0, .ref a2, a3, .int (I a4), .ref a5, .ref a6, a7, .int (I a8), .ref a9, .int (I a10), .int (I a11), .int (I a12), a13, .int (I a14), .int (I a15), .ref a16, .int (I a17), .int (I a18), .int (I a19), .int (I a20), .int (I a21), .int (I a22), a23, a24, a25, a26, a27] [] h P := by
  refine R_iload (Dat dd_L_law_c8 25 rfl) rfl ?_
  refine R_iload (Dat dd_L_law_c8 26 rfl) rfl ?_
  refine R_iconst (Dat dd_L_law_c8 27 rfl) ?_
  refine R_isub (Dat dd_L_law_c8 28 rfl) ?_
  obtain ⟨g1, T⟩ := T
  obtain ⟨g2, T⟩ := T
  refine R_ic_ne (Dat dd_L_law_c8 29 rfl) rfl g1 g2 (fun c => ?_) (fun c => ?_)
  · replace T := T.1 c
    refine R_iload (Dat dd_L_law_c8 30 rfl) rfl ?_
    refine R_istore (Dat dd_L_law_c8 31 rfl) rfl rfl ?_
    exact T
  · replace T := T.2 c
    exact T
theorem t_L_law_1079 {h : Hp} {P : Value → Hp → Prop} {a4 a8 a10 a11 a12 a14 a15 a21 a22 s0 : Int} {a0 a2 a5 a6 a9 : Nat} {a3 a7 a13 a16 a17 a18 a19 a20 a23 a24 a25 a26 a27 : Value} (T : (rng a22) ∧ ((a22 = 9999 → R 99 1094 [.ref a0, .ref 0, .ref a2, a3, .int (I a4), .ref a5, .ref a6, a7, .int (I a8), .ref a9, .int (I a10), .int (I a11), .int (I a12), a13, .int (I a14), .int (I a15), a16, a17, a18, a19, a20, .int (I a21), .int (I a22), a23, a24, a25, a26, a27] [.int (I (-9)), .int (I s0)] h P) ∧ (¬ a22 = 9999 → R 99 1094 [.ref a0, .ref 0, .ref a2, a3, .int (I a4), .ref a5, .ref a6, a7, .int (I a8), .ref a9, .int (I a10), .int (I a11), .int (I a12), a13, .int (I a14), .int (I a15), a16, a17, a18, a19, a20, .int (I a21), .int (I a22), a23, a24, a25, a26, a27] [.int (I a22), .int (I s0)] h P))) : R 99 1079 [.ref a0, .ref 0, .ref a2, a3, .int (I a4), .ref a5, .ref a6, a7, .int (I a8), .ref a9, .int (I a10), .int (I a11), .int (I a12), a13, .int (I a14), .int (I a15), a16, a17, a18, a19, a20, .int (I a21), .int (I a22), a23, a24, a25, a26, a27] [.int (I s0)] h P := by
  refine R_iload (Dat dd_L_law_c9 46 rfl) rfl ?_
  refine R_sipush (Dat dd_L_law_c9 47 rfl) (a := 9999) rfl ?_
  obtain ⟨g1, T⟩ := T
  refine R_ic_ne (Dat dd_L_law_c9 48 rfl) rfl g1 (by decide) (fun c => ?_) (fun c => ?_)
  · replace T := T.1 c
    refine R_bipush (Dat dd_L_law_c9 49 rfl) (a := (-9)) rfl ?_
    refine R_goto (Dat dd_L_law_c9 50 rfl) rfl ?_
    exact T
  · replace T := T.2 c
    refine R_iload (Dat dd_L_law_c9 51 rfl) rfl ?_
    exact T
theorem t_L_law_930 {h : Hp} {P : Value → Hp → Prop} {a4 a8 a10 a11 a12 a14 a15 a17 a18 a19 a20 a21 a22 : Int} {a0 a2 a5 a6 a9 a16 : Nat} {a3 a7 a13 a23 a24 a25 a26 a27 : Value} (T : (rng a21) ∧ (rng a17) ∧ ((a17 < a21 → (rng a22) ∧ (rng a19) ∧ ((a22 = a19 → R 99 949 [.ref a0, .ref 0, .ref a2, a3, .int (I a4), .ref a5, .ref a6, a7, .int (I a8), .ref a9, .int (I a10), .int (I a11), .int (I a12), a13, .int (I a14), .int (I a15), .ref a16, .int (I a17), .int (I a18), .int (I a19), .int (I a20), .int (I a21), .int (I a22), a23, a24, a25, a26, a27] [.int (I 1)] h P) ∧ (¬ a22 = a19 → R 99 949 [.ref a0, .ref 0, .ref a2, a3, .int (I a4), .ref a5, .ref a6, a7, .int (I a8), .ref a9, .int (I a10), .int (I a11), .int (I a12), a13, .int (I a14), .int (I a15), .ref a16, .int (I a17), .int (I a18), .int (I a19), .int (I a20), .int (I a21), .int (I a22), a23, a24, a25, a26, a27] [.int (I 0)] h P))) ∧ (¬ a17 < a21 → R 99 967 [.ref a0, .ref 0, .ref a2, a3, .int (I a4), .ref a5, .ref a6, a7, .int (I a8), .ref a9, .int (I a10), .int (I a11), .int (I a12), a13, .int (I a14), .int (I a15), .ref a16, .int (I a17), .int (I a18), .int (I a19), .int (I a20), .int (I a21), .int (I a22), a23, a24, a25, a26, a27] [] h P))) : R 99 930 [.ref a0, .ref 0, .ref a2, a3, .int (I a4), .ref a5, .ref a6, a7, .int (I a8), .ref a9, .int (I a10), .int (I a11), .int (I a12), a13, .int (I a14), .int (I a15), .ref a16, .int (I a17), .int (I a18), .int (I a19), .int (I a20), .int (I a21), .int (I a22), a23, a24, a25, a26, a27] [] h P := by
  refine R_iload (Dat dd_L_law_c8 32 rfl) rfl ?_
  refine R_iload (Dat dd_L_law_c8 33 rfl) rfl ?_
  obtain ⟨g1, T⟩ := T
  obtain ⟨g2, T⟩ := T
  refine R_ic_le (Dat dd_L_law_c8 34 rfl) rfl g1 g2 (fun c => ?_) (fun c => ?_)
  · replace T := T.1 c
    refine R_iload (Dat dd_L_law_c8 35 rfl) rfl ?_
    refine R_iload (Dat dd_L_law_c8 36 rfl) rfl ?_
    obtain ⟨g3, T⟩ := T
    obtain ⟨g4, T⟩ := T
    refine R_ic_ne (Dat dd_L_law_c8 37 rfl) rfl g3 g4 (fun c => ?_) (fun c => ?_)
    · replace T := T.1 c
      refine R_iconst (Dat dd_L_law_c8 38 rfl) ?_
      refine R_goto (Dat dd_L_law_c8 39 rfl) rfl ?_
      exact T
    · replace T := T.2 c
      refine R_iconst (Dat dd_L_law_c8 40 rfl) ?_
      exact T
  · replace T := T.2 c
    exact T
theorem t_L_law_1094 {h : Hp} {P : Value → Hp → Prop} {a4 a8 a10 a11 a12 a14 a15 a21 a22 s0 s1 : Int} {a0 a2 a5 a6 a9 : Nat} {a3 a7 a13 a16 a17 a18 a19 a20 a23 a24 a25 a26 a27 : Value} (T : (rng s1) ∧ (rng s0) ∧ ((s1 = s0 → R 99 1109 [.ref a0, .ref 0, .ref a2, a3, .int (I a4), .ref a5, .ref a6, a7, .int (I a8), .ref a9, .int (I a10), .int (I a11), .int (I a12), a13, .int (I a14), .int (I a15), a16, a17, a18, a19, a20, .int (I a21), .int (I a22), .int (I (-9)), .int (I 0), .int (I 0), a26, a27] [] h P) ∧ (¬ s1 = s0 → P (.int (I 0)) h))) : R 99 1094 [.ref a0, .ref 0, .ref a2, a3, .int (I a4), .ref a5, .ref a6, a7, .int (I a8), .ref a9, .int (I a10), .int (I a11), .int (I a12), a13, .int (I a14), .int (I a15), a16, a17, a18, a19, a20, .int (I a21), .int (I a22), a23, a24, a25, a26, a27] [.int (I s0), .int (I s1)] h P := by
  obtain ⟨g1, T⟩ := T
  obtain ⟨g2, T⟩ := T
  refine R_ic_eq (Dat dd_L_law_c9 52 rfl) rfl g1 g2 (fun c => ?_) (fun c => ?_)
  · replace T := T.1 c
    refine R_bipush (Dat dd_L_law_c9 55 rfl) (a := (-9)) rfl ?_
    refine R_istore (Dat dd_L_law_c9 56 rfl) rfl rfl ?_
    refine R_iconst (Dat dd_L_law_c9 57 rfl) ?_
    refine R_istore (Dat dd_L_law_c9 58 rfl) rfl rfl ?_
    refine R_iconst (Dat dd_L_law_c9 59 rfl) ?_
    refine R_istore (Dat dd_L_law_c10 0 rfl) rfl rfl ?_
    exact T
  · replace T := T.2 c
    refine R_iconst (Dat dd_L_law_c9 53 rfl) ?_
    exact R_ireturn (Dat dd_L_law_c9 54 rfl) rfl T
theorem t_L_law_949 {h : Hp} {P : Value → Hp → Prop} {a4 a8 a10 a11 a12 a14 a15 a17 a18 a19 a20 a21 a22 s0 : Int} {a0 a2 a5 a6 a9 a16 : Nat} {a3 a7 a13 a23 a24 a25 a26 a27 : Value} (T : (rng a21) ∧ (rng (a17 + a18)) ∧ ((a21 = (a17 + a18) → R 99 964 [.ref a0, .ref 0, .ref a2, a3, .int (I a4), .ref a5, .ref a6, a7, .int (I a8), .ref a9, .int (I a10), .int (I a11), .int (I a12), a13, .int (I a14), .int (I a15), .ref a16, .int (I a17), .int (I a18), .int (I a19), .int (I a20), .int (I a21), .int (I a22), a23, a24, a25, a26, a27] [.int (I 1), .int (I s0)] h P) ∧ (¬ a21 = (a17 + a18) → R 99 964 [.ref a0, .ref 0, .ref a2, a3, .int (I a4), .ref a5, .ref a6, a7, .int (I a8), .ref a9, .int (I a10), .int (I a11), .int (I a12), a13, .int (I a14), .int (I a15), .ref a16, .int (I a17), .int (I a18), .int (I a19), .int (I a20), .int (I a21), .int (I a22), a23, a24, a25, a26, a27] [.int (I 0), .int (I s0)] h P))) : R 99 949 [.ref a0, .ref 0, .ref a2, a3, .int (I a4), .ref a5, .ref a6, a7, .int (I a8), .ref a9, .int (I a10), .int (I a11), .int (I a12), a13, .int (I a14), .int (I a15), .ref a16, .int (I a17), .int (I a18), .int (I a19), .int (I a20), .int (I a21), .int (I a22), a23, a24, a25, a26, a27] [.int (I s0)] h P := by
  refine R_iload (Dat dd_L_law_c8 41 rfl) rfl ?_
  refine R_iload (Dat dd_L_law_c8 42 rfl) rfl ?_
  refine R_iload (Dat dd_L_law_c8 43 rfl) rfl ?_
  refine R_iadd (Dat dd_L_law_c8 44 rfl) ?_
  obtain ⟨g1, T⟩ := T
  obtain ⟨g2, T⟩ := T
  refine R_ic_ne (Dat dd_L_law_c8 45 rfl) rfl g1 g2 (fun c => ?_) (fun c => ?_)
  · replace T := T.1 c
    refine R_iconst (Dat dd_L_law_c8 46 rfl) ?_
    refine R_goto (Dat dd_L_law_c8 47 rfl) rfl ?_
    exact T
  · replace T := T.2 c
    refine R_iconst (Dat dd_L_law_c8 48 rfl) ?_
    exact T
theorem t_L_law_967 {h : Hp} {P : Value → Hp → Prop} {a4 a8 a10 a11 a12 a14 a15 a17 a18 a19 a20 a21 a22 : Int} {a0 a2 a5 a6 a9 a16 : Nat} {a3 a7 a13 a23 a24 a25 a26 a27 : Value} (T : (rng a21) ∧ (rng (a17 + a18)) ∧ ((a21 = (a17 + a18) → (rng a17) ∧ (((0 : Int) < a17 → (rng a22) ∧ (rng a20) ∧ ((a22 = a20 → P (.int (I 0)) h) ∧ (¬ a22 = a20 → R 99 991 [.ref a0, .ref 0, .ref a2, a3, .int (I a4), .ref a5, .ref a6, a7, .int (I a8), .ref a9, .int (I a10), .int (I a11), .int (I a12), a13, .int (I a14), .int (I a15), .ref a16, .int (I a17), .int (I a18), .int (I a19), .int (I a20), .int (I a21), .int (I a22), a23, a24, a25, a26, a27] [] h P))) ∧ (¬ (0 : Int) < a17 → R 99 991 [.ref a0, .ref 0, .ref a2, a3, .int (I a4), .ref a5, .ref a6, a7, .int (I a8), .ref a9, .int (I a10), .int (I a11), .int (I a12), a13, .int (I a14), .int (I a15), .ref a16, .int (I a17), .int (I a18), .int (I a19), .int (I a20), .int (I a21), .int (I a22), a23, a24, a25, a26, a27] [] h P))) ∧ (¬ a21 = (a17 + a18) → R 99 991 [.ref a0, .ref 0, .ref a2, a3, .int (I a4), .ref a5, .ref a6, a7, .int (I a8), .ref a9, .int (I a10), .int (I a11), .int (I a12), a13, .int (I a14), .int (I a15), .ref a16, .int (I a17), .int (I a18), .int (I a19), .int (I a20), .int (I a21), .int (I a22), a23, a24, a25, a26, a27] [] h P))) : R 99 967 [.ref a0, .ref 0, .ref a2, a3, .int (I a4), .ref a5, .ref a6, a7, .int (I a8), .ref a9, .int (I a10), .int (I a11), .int (I a12), a13, .int (I a14), .int (I a15), .ref a16, .int (I a17), .int (I a18), .int (I a19), .int (I a20), .int (I a21), .int (I a22), a23, a24, a25, a26, a27] [] h P := by
  refine R_iload (Dat dd_L_law_c8 50 rfl) rfl ?_
  refine R_iload (Dat dd_L_law_c8 51 rfl) rfl ?_
  refine R_iload (Dat dd_L_law_c8 52 rfl) rfl ?_
  refine R_iadd (Dat dd_L_law_c8 53 rfl) ?_
  obtain ⟨g1, T⟩ := T
  obtain ⟨g2, T⟩ := T
  refine R_ic_ne (Dat dd_L_law_c8 54 rfl) rfl g1 g2 (fun c => ?_) (fun c => ?_)
  · replace T := T.1 c
    refine R_iload (Dat dd_L_law_c8 55 rfl) rfl ?_
    obtain ⟨g3, T⟩ := T
    refine R_if_le (Dat dd_L_law_c8 56 rfl) rfl g3  (fun c => ?_) (fun c => ?_)
    · replace T := T.1 c
      refine R_iload (Dat dd_L_law_c8 57 rfl) rfl ?_
      refine R_iload (Dat dd_L_law_c8 58 rfl) rfl ?_
      obtain ⟨g4, T⟩ := T
      obtain ⟨g5, T⟩ := T
      refine R_ic_ne (Dat dd_L_law_c8 59 rfl) rfl g4 g5 (fun c => ?_) (fun c => ?_)
      · replace T := T.1 c
        refine R_iconst (Dat dd_L_law_c9 0 rfl) ?_
        exact R_ireturn (Dat dd_L_law_c9 1 rfl) rfl T
      · replace T := T.2 c
        exact T
    · replace T := T.2 c
      exact T
  · replace T := T.2 c
    exact T
theorem t_L_law_1109 {h : Hp} {P : Value → Hp → Prop} {a4 a8 a10 a11 a12 a14 a15 a21 a22 a23 a24 a25 : Int} {a0 a2 a5 a6 a9 : Nat} {a3 a7 a13 a16 a17 a18 a19 a20 a26 a27 : Value} (T : (tg h a5 = 20 ∨ tg h a5 = 30) ∧ ((ln h a5 : Int) ≤ 2147483648) ∧ ((0 : Int) < ln h a5) ∧ (rng a25) ∧ (rng (iv h a5 0)) ∧ ((a25 < (iv h a5 0) → (okg 99 97 [.ref a0, .ref 0, .ref a2, a3, .int (I a4), .ref a5, .ref a6, a7, .int (I a8), .ref a9, .int (I a10), .int (I a11), .int (I a12), a13, .int (I a14), .int (I a15), a16, a17, a18, a19, a20, .int (I a21), .int (I a22), .int (I a23), .int (I a24), .int (I a25), a26, a27] [] [.ref a2, .ref a5, .int (I a25), .int (I a21), .int (I a15), .int (I a14)] = true) ∧ R 97 0 [.ref a2, .ref a5, .int (I a25), .int (I a21), .int (I a15), .int (I a14), .retAddr 0, .retAddr 0, .retAddr 0] [] h (fun v h2 => R 99 1132 [.ref a0, .ref 0, .ref a2, a3, .int (I a4), .ref a5, .ref a6, a7, .int (I a8), .ref a9, .int (I a10), .int (I a11), .int (I a12), a13, .int (I a14), .int (I a15), a16, a17, a18, a19, a20, .int (I a21), .int (I a22), .int (I a23), .int (I a24), .int (I a25), a26, a27] (v :: []) h2 P)) ∧ (¬ a25 < (iv h a5 0) → (okg 99 79 [.ref a0, .ref 0, .ref a2, a3, .int (I a4), .ref a5, .ref a6, a7, .int (I a8), .ref a9, .int (I a10), .int (I a11), .int (I a12), a13, .int (I a14), .int (I a15), a16, a17, a18, a19, a20, .int (I a21), .int (I a22), .int (I a23), .int (I a24), .int (I a25), a26, a27] [] [.ref 0, .int (I a21), .int (I a15), .int (I a14)] = true) ∧ (tg h 0 = 12) ∧ R 79 0 [.ref 0, .int (I a21), .int (I a15), .int (I a14), .retAddr 0, .retAddr 0, .retAddr 0, .retAddr 0, .retAddr 0, .retAddr 0, .retAddr 0] [] h (fun v h2 => R 99 1190 [.ref a0, .ref 0, .ref a2, a3, .int (I a4), .ref a5, .ref a6, a7, .int (I a8), .ref a9, .int (I a10), .int (I a11), .int (I a12), a13, .int (I a14), .int (I a15), a16, a17, a18, a19, a20, .int (I a21), .int (I a22), .int (I a23), .int (I a24), .int (I a25), a26, a27] (v :: []) h2 P)))) : R 99 1109 [.ref a0, .ref 0, .ref a2, a3, .int (I a4), .ref a5, .ref a6, a7, .int (I a8), .ref a9, .int (I a10), .int (I a11), .int (I a12), a13, .int (I a14), .int (I a15), a16, a17, a18, a19, a20, .int (I a21), .int (I a22), .int (I a23), .int (I a24), .int (I a25), a26, a27] [] h P := by
  refine R_iload (Dat dd_L_law_c10 1 rfl) rfl ?_
  refine R_aload (Dat dd_L_law_c10 2 rfl) rfl rfl ?_
  refine R_iconst (Dat dd_L_law_c10 3 rfl) ?_
  obtain ⟨g1, T⟩ := T
  obtain ⟨g2, T⟩ := T
  obtain ⟨g3, T⟩ := T
  refine R_iaload (Dat dd_L_law_c10 4 rfl) g1 g2 (by decide) g3 ?_
  obtain ⟨g4, T⟩ := T
  obtain ⟨g5, T⟩ := T
  refine R_ic_ge (Dat dd_L_law_c10 5 rfl) rfl g4 g5 (fun c => ?_) (fun c => ?_)
  · replace T := T.1 c
    refine R_aload_n (Dat dd_L_law_c10 6 rfl) rfl rfl ?_
    refine R_aload (Dat dd_L_law_c10 7 rfl) rfl rfl ?_
    refine R_iload (Dat dd_L_law_c10 8 rfl) rfl ?_
    refine R_iload (Dat dd_L_law_c10 9 rfl) rfl ?_
    refine R_iload (Dat dd_L_law_c10 10 rfl) rfl ?_
    refine R_iload (Dat dd_L_law_c10 11 rfl) rfl ?_
    obtain ⟨g6, T⟩ := T
    exact R_call0 (Dat dd_L_law_c10 12 rfl) rfl rfl rfl rfl g6 rfl T
  · replace T := T.2 c
    refine R_aload_n (Dat dd_L_law_c10 35 rfl) rfl rfl ?_
    refine R_iload (Dat dd_L_law_c10 36 rfl) rfl ?_
    refine R_iload (Dat dd_L_law_c10 37 rfl) rfl ?_
    refine R_iload (Dat dd_L_law_c10 38 rfl) rfl ?_
    obtain ⟨g7, T⟩ := T
    obtain ⟨g8, T⟩ := T
    exact R_call1 (Dat dd_L_law_c10 39 rfl) rfl g8 rfl rfl rfl g7 rfl T
theorem t_L_law_964 {h : Hp} {P : Value → Hp → Prop} {a4 a8 a10 a11 a12 a14 a15 a17 a18 a19 a20 a21 a22 s0 s1 : Int} {a0 a2 a5 a6 a9 a16 : Nat} {a3 a7 a13 a23 a24 a25 a26 a27 : Value} (T : (rng s1) ∧ (rng s0) ∧ ((s1 = s0 → R 99 967 [.ref a0, .ref 0, .ref a2, a3, .int (I a4), .ref a5, .ref a6, a7, .int (I a8), .ref a9, .int (I a10), .int (I a11), .int (I a12), a13, .int (I a14), .int (I a15), .ref a16, .int (I a17), .int (I a18), .int (I a19), .int (I a20), .int (I a21), .int (I a22), a23, a24, a25, a26, a27] [] h P) ∧ (¬ s1 = s0 → P (.int (I 0)) h))) : R 99 964 [.ref a0, .ref 0, .ref a2, a3, .int (I a4), .ref a5, .ref a6, a7, .int (I a8), .ref a9, .int (I a10), .int (I a11), .int (I a12), a13, .int (I a14), .int (I a15), .ref a16, .int (I a17), .int (I a18), .int (I a19), .int (I a20), .int (I a21), .int (I a22), a23, a24, a25, a26, a27] [.int (I s0), .int (I s1)] h P := by
  obtain ⟨g1, T⟩ := T
  obtain ⟨g2, T⟩ := T
  refine R_ic_ne (Dat dd_L_law_c8 49 rfl) rfl g1 g2 (fun c => ?_) (fun c => ?_)
  · replace T := T.1 c
    exact T
  · replace T := T.2 c
    refine R_iconst (Dat dd_L_law_c9 0 rfl) ?_
    exact R_ireturn (Dat dd_L_law_c9 1 rfl) rfl T
theorem t_L_law_991 {h : Hp} {P : Value → Hp → Prop} {a4 a8 a10 a11 a12 a14 a15 a17 a18 a19 a20 a21 a22 : Int} {a0 a2 a5 a6 a9 a16 : Nat} {a3 a7 a13 a23 a24 a25 a26 a27 : Value} (T : (rng a21) ∧ (rng ((a17 + a18) - 1)) ∧ ((a21 = ((a17 + a18) - 1) → (rng a17) ∧ (((0 : Int) < a17 → (rng a20) ∧ ((a20 < 0 → R 99 1022 [.ref a0, .ref 0, .ref a2, a3, .int (I a4), .ref a5, .ref a6, a7, .int (I a8), .ref a9, .int (I a10), .int (I a11), .int (I a12), a13, .int (I a14), .int (I a15), .ref a16, .int (I a17), .int (I a18), .int (I a19), .int (I a20), .int (I a21), .int (I a22), a23, a24, a25, a26, a27] [] h P) ∧ (¬ a20 < 0 → (rng a22) ∧ (rng a20) ∧ ((a22 = a20 → P (.int (I 0)) h) ∧ (¬ a22 = a20 → R 99 1022 [.ref a0, .ref 0, .ref a2, a3, .int (I a4), .ref a5, .ref a6, a7, .int (I a8), .ref a9, .int (I a10), .int (I a11), .int (I a12), a13, .int (I a14), .int (I a15), .ref a16, .int (I a17), .int (I a18), .int (I a19), .int (I a20), .int (I a21), .int (I a22), a23, a24, a25, a26, a27] [] h P))))) ∧ (¬ (0 : Int) < a17 → R 99 1022 [.ref a0, .ref 0, .ref a2, a3, .int (I a4), .ref a5, .ref a6, a7, .int (I a8), .ref a9, .int (I a10), .int (I a11), .int (I a12), a13, .int (I a14), .int (I a15), .ref a16, .int (I a17), .int (I a18), .int (I a19), .int (I a20), .int (I a21), .int (I a22), a23, a24, a25, a26, a27] [] h P))) ∧ (¬ a21 = ((a17 + a18) - 1) → R 99 1022 [.ref a0, .ref 0, .ref a2, a3, .int (I a4), .ref a5, .ref a6, a7, .int (I a8), .ref a9, .int (I a10), .int (I a11), .int (I a12), a13, .int (I a14), .int (I a15), .ref a16, .int (I a17), .int (I a18), .int (I a19), .int (I a20), .int (I a21), .int (I a22), a23, a24, a25, a26, a27] [] h P))) : R 99 991 [.ref a0, .ref 0, .ref a2, a3, .int (I a4), .ref a5, .ref a6, a7, .int (I a8), .ref a9, .int (I a10), .int (I a11), .int (I a12), a13, .int (I a14), .int (I a15), .ref a16, .int (I a17), .int (I a18), .int (I a19), .int (I a20), .int (I a21), .int (I a22), a23, a24, a25, a26, a27] [] h P := by
  refine R_iload (Dat dd_L_law_c9 2 rfl) rfl ?_
  refine R_iload (Dat dd_L_law_c9 3 rfl) rfl ?_
  refine R_iload (Dat dd_L_law_c9 4 rfl) rfl ?_
  refine R_iadd (Dat dd_L_law_c9 5 rfl) ?_
  refine R_iconst (Dat dd_L_law_c9 6 rfl) ?_
  refine R_isub (Dat dd_L_law_c9 7 rfl) ?_
  obtain ⟨g1, T⟩ := T
  obtain ⟨g2, T⟩ := T
  refine R_ic_ne (Dat dd_L_law_c9 8 rfl) rfl g1 g2 (fun c => ?_) (fun c => ?_)
  · replace T := T.1 c
    refine R_iload (Dat dd_L_law_c9 9 rfl) rfl ?_
    obtain ⟨g3, T⟩ := T
    refine R_if_le (Dat dd_L_law_c9 10 rfl) rfl g3  (fun c => ?_) (fun c => ?_)
    · replace T := T.1 c
      refine R_iload (Dat dd_L_law_c9 11 rfl) rfl ?_
      obtain ⟨g4, T⟩ := T
      refine R_if_lt (Dat dd_L_law_c9 12 rfl) rfl g4  (fun c => ?_) (fun c => ?_)
      · replace T := T.1 c
        exact T
      · replace T := T.2 c
        refine R_iload (Dat dd_L_law_c9 13 rfl) rfl ?_
        refine R_iload (Dat dd_L_law_c9 14 rfl) rfl ?_
        obtain ⟨g5, T⟩ := T
        obtain ⟨g6, T⟩ := T
        refine R_ic_ne (Dat dd_L_law_c9 15 rfl) rfl g5 g6 (fun c => ?_) (fun c => ?_)
        · replace T := T.1 c
          refine R_iconst (Dat dd_L_law_c9 16 rfl) ?_
          exact R_ireturn (Dat dd_L_law_c9 17 rfl) rfl T
        · replace T := T.2 c
          exact T
    · replace T := T.2 c
      exact T
  · replace T := T.2 c
    exact T
theorem t_L_law_1132 {h : Hp} {P : Value → Hp → Prop} {a4 a8 a10 a11 a12 a14 a15 a21 a22 a23 a24 a25 s0 : Int} {a0 a2 a5 a6 a9 : Nat} {a3 a7 a13 a16 a17 a18 a19 a20 a26 a27 : Value} (T : (rng s0) ∧ (rng a22) ∧ ((a22 < s0 → R 99 1154 [.ref a0, .ref 0, .ref a2, a3, .int (I a4), .ref a5, .ref a6, a7, .int (I a8), .ref a9, .int (I a10), .int (I a11), .int (I a12), a13, .int (I a14), .int (I a15), a16, a17, a18, a19, a20, .int (I a21), .int (I a22), .int (I a23), .int (I a24), .int (I a25), .int (I s0), a27] [.int (I (s0 - a22))] h P) ∧ (¬ a22 < s0 → R 99 1154 [.ref a0, .ref 0, .ref a2, a3, .int (I a4), .ref a5, .ref a6, a7, .int (I a8), .ref a9, .int (I a10), .int (I a11), .int (I a12), a13, .int (I a14), .int (I a15), a16, a17, a18, a19, a20, .int (I a21), .int (I a22), .int (I a23), .int (I a24), .int (I a25), .int (I s0), a27] [.int (I (a22 - s0))] h P))) : R 99 1132 [.ref a0, .ref 0, .ref a2, a3, .int (I a4), .ref a5, .ref a6, a7, .int (I a8), .ref a9, .int (I a10), .int (I a11), .int (I a12), a13, .int (I a14), .int (I a15), a16, a17, a18, a19, a20, .int (I a21), .int (I a22), .int (I a23), .int (I a24), .int (I a25), a26, a27] [.int (I s0)] h P := by
  refine R_istore (Dat dd_L_law_c10 13 rfl) rfl rfl ?_
  refine R_iload (Dat dd_L_law_c10 14 rfl) rfl ?_
  refine R_iload (Dat dd_L_law_c10 15 rfl) rfl ?_
  obtain ⟨g1, T⟩ := T
  obtain ⟨g2, T⟩ := T
  refine R_ic_le (Dat dd_L_law_c10 16 rfl) rfl g1 g2 (fun c => ?_) (fun c => ?_)
  · replace T := T.1 c
    refine R_iload (Dat dd_L_law_c10 17 rfl) rfl ?_
    refine R_iload (Dat dd_L_law_c10 18 rfl) rfl ?_
    refine R_isub (Dat dd_L_law_c10 19 rfl) ?_
    refine R_goto (Dat dd_L_law_c10 20 rfl) rfl ?_
    exact T
  · replace T := T.2 c
    refine R_iload (Dat dd_L_law_c10 21 rfl) rfl ?_
    refine R_iload (Dat dd_L_law_c10 22 rfl) rfl ?_
    refine R_isub (Dat dd_L_law_c10 23 rfl) ?_
    exact T
theorem t_L_law_1190 {h : Hp} {P : Value → Hp → Prop} {a4 a8 a10 a11 a12 a23 s0 : Int} {a0 a2 a5 a6 a9 : Nat} {a3 a7 a13 a14 a15 a16 a17 a18 a19 a20 a21 a22 a24 a25 a26 a27 : Value} (T : (rng s0) ∧ (rng a23) ∧ ((s0 = a23 → R 88 0 [.int (I (shr a12 18)), .int (I 5)] [] h (fun v h2 => R 99 1206 [.ref a0, .ref 0, .ref a2, a3, .int (I a4), .ref a5, .ref a6, a7, .int (I a8), .ref a9, .int (I a10), .int (I a11), .int (I a12), a13, a14, a15, a16, a17, a18, a19, a20, a21, a22, .int (I a23), a24, a25, a26, a27] (v :: []) h2 P)) ∧ (¬ s0 = a23 → P (.int (I 0)) h))) : R 99 1190 [.ref a0, .ref 0, .ref a2, a3, .int (I a4), .ref a5, .ref a6, a7, .int (I a8), .ref a9, .int (I a10), .int (I a11), .int (I a12), a13, a14, a15, a16, a17, a18, a19, a20, a21, a22, .int (I a23), a24, a25, a26, a27] [.int (I s0)] h P := by
  refine R_iload (Dat dd_L_law_c10 40 rfl) rfl ?_
  obtain ⟨g1, T⟩ := T
  obtain ⟨g2, T⟩ := T
  refine R_ic_eq (Dat dd_L_law_c10 41 rfl) rfl g1 g2 (fun c => ?_) (fun c => ?_)
  · replace T := T.1 c
    refine R_iload (Dat dd_L_law_c10 44 rfl) rfl ?_
    refine R_bipush (Dat dd_L_law_c10 45 rfl) (a := 18) rfl ?_
    refine R_ishr (Dat dd_L_law_c10 46 rfl) ?_
    refine R_iconst (Dat dd_L_law_c10 47 rfl) ?_
    exact R_call0 (Dat dd_L_law_c10 48 rfl) rfl rfl rfl rfl rfl rfl T
  · replace T := T.2 c
    refine R_iconst (Dat dd_L_law_c10 42 rfl) ?_
    exact R_ireturn (Dat dd_L_law_c10 43 rfl) rfl T
theorem t_L_law_1022 {h : Hp} {P : Value → Hp → Prop} {a4 a8 a10 a11 a12 a14 a15 a17 a18 a19 a20 a21 : Int} {a0 a2 a5 a6 a9 a16 : Nat} {a3 a7 a13 a22 a23 a24 a25 a26 a27 : Value} (T : R 94 0 [.ref a2, .ref a5, .int (I (-9)), .ref a16, .int (I a14), .retAddr 0, .retAddr 0, .retAddr 0, .retAddr 0, .retAddr 0] [] h (fun v h2 => R 99 1034 [.ref a0, .ref 0, .ref a2, a3, .int (I a4), .ref a5, .ref a6, a7, .int (I a8), .ref a9, .int (I a10), .int (I a11), .int (I a12), a13, .int (I a14), .int (I a15), .ref a16, .int (I a17), .int (I a18), .int (I a19), .int (I a20), .int (I a21), a22, a23, a24, a25, a26, a27] (v :: []) h2 P)) : R 99 1022 [.ref a0, .ref 0, .ref a2, a3, .int (I a4), .ref a5, .ref a6, a7, .int (I a8), .ref a9, .int (I a10), .int (I a11), .int (I a12), a13, .int (I a14), .int (I a15), .ref a16, .int (I a17), .int (I a18), .int (I a19), .int (I a20), .int (I a21), a22, a23, a24, a25, a26, a27] [] h P := by
  refine R_aload_n (Dat dd_L_law_c9 18 rfl) rfl rfl ?_
  refine R_aload (Dat dd_L_law_c9 19 rfl) rfl rfl ?_
  refine R_bipush (Dat dd_L_law_c9 20 rfl) (a := (-9)) rfl ?_
  refine R_aload (Dat dd_L_law_c9 21 rfl) rfl rfl ?_
  refine R_iload (Dat dd_L_law_c9 22 rfl) rfl ?_
  exact R_call0 (Dat dd_L_law_c9 23 rfl) rfl rfl rfl rfl rfl rfl T
theorem t_L_law_1154 {h : Hp} {P : Value → Hp → Prop} {a4 a8 a10 a11 a12 a14 a15 a21 a22 a23 a24 a25 s0 : Int} {a0 a2 a5 a6 a9 : Nat} {a3 a7 a13 a16 a17 a18 a19 a20 a26 a27 : Value} (T : (rng s0) ∧ (rng a24) ∧ ((a24 < s0 → R 99 1174 [.ref a0, .ref 0, .ref a2, a3, .int (I a4), .ref a5, .ref a6, a7, .int (I a8), .ref a9, .int (I a10), .int (I a11), .int (I a12), a13, .int (I a14), .int (I a15), a16, a17, a18, a19, a20, .int (I a21), .int (I a22), .int (I a25), .int (I s0), .int (I a25), a26, .int (I s0)] [] h P) ∧ (¬ a24 < s0 → R 99 1174 [.ref a0, .ref 0, .ref a2, a3, .int (I a4), .ref a5, .ref a6, a7, .int (I a8), .ref a9, .int (I a10), .int (I a11), .int (I a12), a13, .int (I a14), .int (I a15), a16, a17, a18, a19, a20, .int (I a21), .int (I a22), .int (I a23), .int (I a24), .int (I a25), a26, .int (I s0)] [] h P))) : R 99 1154 [.ref a0, .ref 0, .ref a2, a3, .int (I a4), .ref a5, .ref a6, a7, .int (I a8), .ref a9, .int (I a10), .int (I a11), .int (I a12), a13, .int (I a14), .int (I a15), a16, a17, a18, a19, a20, .int (I a21), .int (I a22), .int (I a23), .int (I a24), .int (I a25), a26, a27] [.int (I s0)] h P := by
  refine R_istore (Dat dd_L_law_c10 24 rfl) rfl rfl ?_
  refine R_iload (Dat dd_L_law_c10 25 rfl) rfl ?_
  refine R_iload (Dat dd_L_law_c10 26 rfl) rfl ?_
  obtain ⟨g1, T⟩ := T
  obtain ⟨g2, T⟩ := T
  refine R_ic_gt (Dat dd_L_law_c10 27 rfl) rfl g1 g2 (fun c => ?_) (fun c => ?_)
  · replace T := T.1 c
    refine R_iload (Dat dd_L_law_c10 29 rfl) rfl ?_
    refine R_istore (Dat dd_L_law_c10 30 rfl) rfl rfl ?_
    refine R_iload (Dat dd_L_law_c10 31 rfl) rfl ?_
    refine R_istore (Dat dd_L_law_c10 32 rfl) rfl rfl ?_
    exact T
  · replace T := T.2 c
    refine R_goto (Dat dd_L_law_c10 28 rfl) rfl ?_
    exact T
theorem t_L_law_1206 {h : Hp} {P : Value → Hp → Prop} {a4 a8 a10 a11 s0 : Int} {a0 a2 a5 a6 a9 : Nat} {a3 a7 a12 a13 a14 a15 a16 a17 a18 a19 a20 a21 a22 a23 a24 a25 a26 a27 : Value} (T : (rng s0) ∧ (((0 : Int) < s0 → R 99 1286 [.ref a0, .ref 0, .ref a2, a3, .int (I a4), .ref a5, .ref a6, a7, .int (I a8), .ref a9, .int (I a10), .int (I a11), a12, a13, a14, a15, a16, a17, a18, a19, a20, a21, a22, a23, a24, a25, a26, a27] [] h P) ∧ (¬ (0 : Int) < s0 → (tg h 0 = 12) ∧ R 86 0 [.ref 0, .int (I 5)] [] h (fun v h2 => R 99 1217 [.ref a0, .ref 0, .ref a2, a3, .int (I a4), .ref a5, .ref a6, a7, .int (I a8), .ref a9, .int (I a10), .int (I a11), a12, a13, a14, a15, a16, a17, a18, a19, a20, a21, a22, a23, a24, a25, a26, a27] (v :: []) h2 P)))) : R 99 1206 [.ref a0, .ref 0, .ref a2, a3, .int (I a4), .ref a5, .ref a6, a7, .int (I a8), .ref a9, .int (I a10), .int (I a11), a12, a13, a14, a15, a16, a17, a18, a19, a20, a21, a22, a23, a24, a25, a26, a27] [.int (I s0)] h P := by
  obtain ⟨g1, T⟩ := T
  refine R_if_le (Dat dd_L_law_c10 49 rfl) rfl g1  (fun c => ?_) (fun c => ?_)
  · replace T := T.1 c
    refine R_goto (Dat dd_L_law_c10 50 rfl) rfl ?_
    exact T
  · replace T := T.2 c
    refine R_aload_n (Dat dd_L_law_c10 51 rfl) rfl rfl ?_
    refine R_iconst (Dat dd_L_law_c10 52 rfl) ?_
    obtain ⟨g2, T⟩ := T
    exact R_call1 (Dat dd_L_law_c10 53 rfl) rfl g2 rfl rfl rfl rfl rfl T
theorem t_L_law_1034 {h : Hp} {P : Value → Hp → Prop} {a4 a8 a10 a11 a12 a14 a15 a17 a18 a19 a20 a21 s0 : Int} {a0 a2 a5 a6 a9 a16 : Nat} {a3 a7 a13 a22 a23 a24 a25 a26 a27 : Value} (T : R 99 888 [.ref a0, .ref 0, .ref a2, a3, .int (I a4), .ref a5, .ref a6, a7, .int (I a8), .ref a9, .int (I a10), .int (I a11), .int (I a12), a13, .int (I a14), .int (I a15), .ref a16, .int (I a17), .int (I a18), .int (I a19), .int (I a20), .int (I (a21 + 1)), a22, a23, a24, a25, a26, a27] [] h P) : R 99 1034 [.ref a0, .ref 0, .ref a2, a3, .int (I a4), .ref a5, .ref a6, a7, .int (I a8), .ref a9, .int (I a10), .int (I a11), .int (I a12), a13, .int (I a14), .int (I a15), .ref a16, .int (I a17), .int (I a18), .int (I a19), .int (I a20), .int (I a21), a22, a23, a24, a25, a26, a27] [.int (I s0)] h P := by
  refine R_pop (Dat dd_L_law_c9 24 rfl) rfl ?_
  refine R_iinc (Dat dd_L_law_c9 25 rfl) rfl rfl rfl ?_
  refine R_goto (Dat dd_L_law_c9 26 rfl) rfl ?_
  exact T
theorem t_L_law_1174 {h : Hp} {P : Value → Hp → Prop} {a4 a8 a10 a11 a12 a14 a15 a21 a22 a23 a24 a25 : Int} {a0 a2 a5 a6 a9 : Nat} {a3 a7 a13 a16 a17 a18 a19 a20 a26 a27 : Value} (T : R 99 1109 [.ref a0, .ref 0, .ref a2, a3, .int (I a4), .ref a5, .ref a6, a7, .int (I a8), .ref a9, .int (I a10), .int (I a11), .int (I a12), a13, .int (I a14), .int (I a15), a16, a17, a18, a19, a20, .int (I a21), .int (I a22), .int (I a23), .int (I a24), .int (I (a25 + 1)), a26, a27] [] h P) : R 99 1174 [.ref a0, .ref 0, .ref a2, a3, .int (I a4), .ref a5, .ref a6, a7, .int (I a8), .ref a9, .int (I a10), .int (I a11), .int (I a12), a13, .int (I a14), .int (I a15), a16, a17, a18, a19, a20, .int (I a21), .int (I a22), .int (I a23), .int (I a24), .int (I a25), a26, a27] [] h P := by
  refine R_iinc (Dat dd_L_law_c10 33 rfl) rfl rfl rfl ?_
  refine R_goto (Dat dd_L_law_c10 34 rfl) rfl ?_
  exact T
theorem t_L_law_1286 {h : Hp} {P : Value → Hp → Prop} {a4 a8 a10 a11 : Int} {a0 a2 a5 a6 a9 : Nat} {a3 a7 a12 a13 a14 a15 a16 a17 a18 a19 a20 a21 a22 a23 a24 a25 a26 a27 : Value} (T : R 99 187 [.ref a0, .ref 0, .ref a2, a3, .int (I a4), .ref a5, .ref a6, a7, .int (I a8), .ref a9, .int (I a10), .int (I (a11 + 1)), a12, a13, a14, a15, a16, a17, a18, a19, a20, a21, a22, a23, a24, a25, a26, a27] [] h P) : R 99 1286 [.ref a0, .ref 0, .ref a2, a3, .int (I a4), .ref a5, .ref a6, a7, .int (I a8), .ref a9, .int (I a10), .int (I a11), a12, a13, a14, a15, a16, a17, a18, a19, a20, a21, a22, a23, a24, a25, a26, a27] [] h P := by
  refine R_iinc (Dat dd_L_law_c11 32 rfl) rfl rfl rfl ?_
  refine R_goto (Dat dd_L_law_c11 33 rfl) rfl ?_
  exact T
theorem t_L_law_1217 {h : Hp} {P : Value → Hp → Prop} {a4 a8 a10 a11 s0 : Int} {a0 a2 a5 a6 a9 : Nat} {a3 a7 a12 a13 a14 a15 a16 a17 a18 a19 a20 a21 a22 a23 a24 a25 a26 a27 : Value} (T : (tg h 0 = 12) ∧ R 47 0 [.ref 0, .int (I (1 - s0)), .retAddr 0] [] h (fun v h2 => R 99 1227 [.ref a0, .ref 0, .ref a2, a3, .int (I a4), .ref a5, .ref a6, a7, .int (I a8), .ref a9, .int (I a10), .int (I a11), a12, a13, a14, a15, a16, a17, a18, a19, a20, a21, a22, a23, a24, .int (I s0), a26, a27] (v :: []) h2 P)) : R 99 1217 [.ref a0, .ref 0, .ref a2, a3, .int (I a4), .ref a5, .ref a6, a7, .int (I a8), .ref a9, .int (I a10), .int (I a11), a12, a13, a14, a15, a16, a17, a18, a19, a20, a21, a22, a23, a24, a25, a26, a27] [.int (I s0)] h P := by
  refine R_istore (Dat dd_L_law_c10 54 rfl) rfl rfl ?_
  refine R_aload_n (Dat dd_L_law_c10 55 rfl) rfl rfl ?_
  refine R_iconst (Dat dd_L_law_c10 56 rfl) ?_
  refine R_iload (Dat dd_L_law_c10 57 rfl) rfl ?_
  refine R_isub (Dat dd_L_law_c10 58 rfl) ?_
  obtain ⟨g1, T⟩ := T
  exact R_call1 (Dat dd_L_law_c10 59 rfl) rfl g1 rfl rfl rfl rfl rfl T
theorem t_L_law_1227 {h : Hp} {P : Value → Hp → Prop} {a4 a8 a10 a11 a25 s0 : Int} {a0 a2 a5 a6 a9 : Nat} {a3 a7 a12 a13 a14 a15 a16 a17 a18 a19 a20 a21 a22 a23 a24 a26 a27 : Value} (T : (rng s0) ∧ (rng a25) ∧ ((s0 = a25 → (tg h 0 = 12) ∧ R 86 0 [.ref 0, .int (I 5)] [] h (fun v h2 => R 99 1237 [.ref a0, .ref 0, .ref a2, a3, .int (I a4), .ref a5, .ref a6, a7, .int (I a8), .ref a9, .int (I a10), .int (I a11), a12, a13, a14, a15, a16, a17, a18, a19, a20, a21, a22, a23, a24, .int (I a25), a26, a27] (v :: []) h2 P)) ∧ (¬ s0 = a25 → P (.int (I 0)) h))) : R 99 1227 [.ref a0, .ref 0, .ref a2, a3, .int (I a4), .ref a5, .ref a6, a7, .int (I a8), .ref a9, .int (I a10), .int (I a11), a12, a13, a14, a15, a16, a17, a18, a19, a20, a21, a22, a23, a24, .int (I a25), a26, a27] [.int (I s0)] h P := by
  refine R_iload (Dat dd_L_law_c11 0 rfl) rfl ?_
  obtain ⟨g1, T⟩ := T
  obtain ⟨g2, T⟩ := T
  refine R_ic_ne (Dat dd_L_law_c11 1 rfl) rfl g1 g2 (fun c => ?_) (fun c => ?_)
  · replace T := T.1 c
    refine R_aload_n (Dat dd_L_law_c11 2 rfl) rfl rfl ?_
    refine R_iconst (Dat dd_L_law_c11 3 rfl) ?_
    obtain ⟨g3, T⟩ := T
    exact R_call1 (Dat dd_L_law_c11 4 rfl) rfl g3 rfl rfl rfl rfl rfl T
  · replace T := T.2 c
    refine R_iconst (Dat dd_L_law_c11 9 rfl) ?_
    exact R_ireturn (Dat dd_L_law_c11 10 rfl) rfl T
theorem t_L_law_1237 {h : Hp} {P : Value → Hp → Prop} {a4 a8 a10 a11 a25 s0 : Int} {a0 a2 a5 a6 a9 : Nat} {a3 a7 a12 a13 a14 a15 a16 a17 a18 a19 a20 a21 a22 a23 a24 a26 a27 : Value} (T : (rng s0) ∧ (rng (1 - a25)) ∧ ((s0 = (1 - a25) → R 99 1249 [.ref a0, .ref 0, .ref a2, a3, .int (I a4), .ref a5, .ref a6, a7, .int (I a8), .ref a9, .int (I a10), .int (I a11), a12, a13, a14, a15, a16, a17, a18, a19, a20, a21, a22, a23, a24, .int (I a25), .int (I 0), a27] [] h P) ∧ (¬ s0 = (1 - a25) → P (.int (I 0)) h))) : R 99 1237 [.ref a0, .ref 0, .ref a2, a3, .int (I a4), .ref a5, .ref a6, a7, .int (I a8), .ref a9, .int (I a10), .int (I a11), a12, a13, a14, a15, a16, a17, a18, a19, a20, a21, a22, a23, a24, .int (I a25), a26, a27] [.int (I s0)] h P := by
  refine R_iconst (Dat dd_L_law_c11 5 rfl) ?_
  refine R_iload (Dat dd_L_law_c11 6 rfl) rfl ?_
  refine R_isub (Dat dd_L_law_c11 7 rfl) ?_
  obtain ⟨g1, T⟩ := T
  obtain ⟨g2, T⟩ := T
  refine R_ic_eq (Dat dd_L_law_c11 8 rfl) rfl g1 g2 (fun c => ?_) (fun c => ?_)
  · replace T := T.1 c
    refine R_iconst (Dat dd_L_law_c11 11 rfl) ?_
    refine R_istore (Dat dd_L_law_c11 12 rfl) rfl rfl ?_
    exact T
  · replace T := T.2 c
    refine R_iconst (Dat dd_L_law_c11 9 rfl) ?_
    exact R_ireturn (Dat dd_L_law_c11 10 rfl) rfl T
theorem t_L_law_1249 {h : Hp} {P : Value → Hp → Prop} {a4 a8 a10 a11 a26 : Int} {a0 a2 a5 a6 a9 : Nat} {a3 a7 a12 a13 a14 a15 a16 a17 a18 a19 a20 a21 a22 a23 a24 a25 a27 : Value} (T : (rng a26) ∧ ((a26 < 19 → (tg h a5 = 20 ∨ tg h a5 = 30) ∧ ((ln h a5 : Int) ≤ 2147483648) ∧ (0 ≤ a26) ∧ (a26 < ln h a5) ∧ (tg h a6 = 20 ∨ tg h a6 = 30) ∧ ((ln h a6 : Int) ≤ 2147483648) ∧ (0 ≤ a26) ∧ (a26 < ln h a6) ∧ (tg h a5 = 20) ∧ ((ln h a5 : Int) ≤ 2147483648) ∧ (0 ≤ a26) ∧ (a26 < ln h a5) ∧ (tg (setI h a5 a26 (wr (iv h a6 a26))) a6 = 20) ∧ ((ln (setI h a5 a26 (wr (iv h a6 a26))) a6 : Int) ≤ 2147483648) ∧ (0 ≤ a26) ∧ (a26 < ln (setI h a5 a26 (wr (iv h a6 a26))) a6) ∧ R 99 1249 [.ref a0, .ref 0, .ref a2, a3, .int (I a4), .ref a5, .ref a6, a7, .int (I a8), .ref a9, .int (I a10), .int (I a11), a12, a13, a14, a15, a16, a17, a18, a19, a20, a21, a22, a23, a24, a25, .int (I (a26 + 1)), .int (I (iv h a5 a26))] [] (setI (setI h a5 a26 (wr (iv h a6 a26))) a6 a26 (wr (iv h a5 a26))) P) ∧ (¬ a26 < 19 → R 99 1286 [.ref a0, .ref 0, .ref a2, a3, .int (I a4), .ref a5, .ref a6, a7, .int (I a8), .ref a9, .int (I a10), .int (I a11), a12, a13, a14, a15, a16, a17, a18, a19, a20, a21, a22, a23, a24, a25, .int (I a26), a27] [] h P))) : R 99 1249 [.ref a0, .ref 0, .ref a2, a3, .int (I a4), .ref a5, .ref a6, a7, .int (I a8), .ref a9, .int (I a10), .int (I a11), a12, a13, a14, a15, a16, a17, a18, a19, a20, a21, a22, a23, a24, a25, .int (I a26), a27] [] h P := by
  refine R_iload (Dat dd_L_law_c11 13 rfl) rfl ?_
  refine R_bipush (Dat dd_L_law_c11 14 rfl) (a := 19) rfl ?_
  obtain ⟨g1, T⟩ := T
  refine R_ic_ge (Dat dd_L_law_c11 15 rfl) rfl g1 (by decide) (fun c => ?_) (fun c => ?_)
  · replace T := T.1 c
    refine R_aload (Dat dd_L_law_c11 16 rfl) rfl rfl ?_
    refine R_iload (Dat dd_L_law_c11 17 rfl) rfl ?_
    obtain ⟨g2, T⟩ := T
    obtain ⟨g3, T⟩ := T
    obtain ⟨g4, T⟩ := T
    obtain ⟨g5, T⟩ := T
    refine R_iaload (Dat dd_L_law_c11 18 rfl) g2 g3 g4 g5 ?_
    refine R_istore (Dat dd_L_law_c11 19 rfl) rfl rfl ?_
    refine R_aload (Dat dd_L_law_c11 20 rfl) rfl rfl ?_
    refine R_iload (Dat dd_L_law_c11 21 rfl) rfl ?_
    refine R_aload (Dat dd_L_law_c11 22 rfl) rfl rfl ?_
    refine R_iload (Dat dd_L_law_c11 23 rfl) rfl ?_
    obtain ⟨g6, T⟩ := T
    obtain ⟨g7, T⟩ := T
    obtain ⟨g8, T⟩ := T
    obtain ⟨g9, T⟩ := T
    refine R_iaload (Dat dd_L_law_c11 24 rfl) g6 g7 g8 g9 ?_
    obtain ⟨g10, T⟩ := T
    obtain ⟨g11, T⟩ := T
    obtain ⟨g12, T⟩ := T
    obtain ⟨g13, T⟩ := T
    refine R_iastore (Dat dd_L_law_c11 25 rfl) g10 g11 g12 g13 (v := wr (iv h a6 a26)) rfl ?_
    refine R_aload (Dat dd_L_law_c11 26 rfl) rfl rfl ?_
    refine R_iload (Dat dd_L_law_c11 27 rfl) rfl ?_
    refine R_iload (Dat dd_L_law_c11 28 rfl) rfl ?_
    obtain ⟨g14, T⟩ := T
    obtain ⟨g15, T⟩ := T
    obtain ⟨g16, T⟩ := T
    obtain ⟨g17, T⟩ := T
    refine R_iastore (Dat dd_L_law_c11 29 rfl) g14 g15 g16 g17 (v := wr (iv h a5 a26)) rfl ?_
    refine R_iinc (Dat dd_L_law_c11 30 rfl) rfl rfl rfl ?_
    refine R_goto (Dat dd_L_law_c11 31 rfl) rfl ?_
    exact T
  · replace T := T.2 c
    exact T
