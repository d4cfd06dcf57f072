def dl_X_init : List (Nat × Instr × Nat) := [(0, .aload_n 0, 1), (1, .invokespecial 3, 3), (4, .aload_n 0, 1), (5, .new 9, 3), (8, .dup, 1), (9, .invokespecial 11, 3), (12, .putfield 12, 3), (15, .aload_n 0, 1), (16, .iconst 4, 1), (17, .anewarray 18, 3), (20, .putfield 20, 3), (23, .aload_n 0, 1), (24, .bipush 8, 2), (26, .newarray .int, 2), (28, .putfield 24, 3), (31, .aload_n 0, 1), (32, .bipush 8, 2), (34, .newarray .int, 2), (36, .putfield 28, 3), (39, .aload_n 0, 1), (40, .iconst 4, 1), (41, .anewarray 31, 3), (44, .putfield 33, 3), (47, .aload_n 0, 1), (48, .new 37, 3), (51, .dup, 1), (52, .invokespecial 39, 3), (55, .putfield 40, 3), (58, .aload_n 0, 1), (59, .new 44, 3), (62, .dup, 1), (63, .invokespecial 46, 3), (66, .putfield 47, 3), (69, .aload_n 0, 1), (70, .new 51, 3), (73, .dup, 1), (74, .invokespecial 53, 3), (77, .putfield 54, 3), (80, .aload_n 0, 1), (81, .iconst 0, 1), (82, .newarray .int, 2), (84, .putfield 58, 3), (87, .aload_n 0, 1), (88, .iconst 0, 1), (89, .newarray .int, 2), (91, .putfield 61, 3), (94, .aload_n 0, 1), (95, .iconst 0, 1), (96, .newarray .int, 2), (98, .putfield 64, 3), (101, .iconst 0, 1), (102, .istore_n 1, 1), (103, .iload_n 1, 1), (104, .iconst 4, 1), (105, .if_icmp .ge 22, 3), (108, .aload_n 0, 1), (109, .getfield 33, 3), (112, .iload_n 1, 1), (113, .new 31, 3), (116, .dup, 1), (117, .invokespecial 67, 3), (120, .aastore, 1), (121, .iinc 1 1, 3), (124, .goto (-21), 3), (127, .return_, 1)]
theorem dd_X_init : Dall 0 dl_X_init = true := by decide +kernel
theorem t_X_init {h : Hp} {P : Value → Hp → Prop}  (T : (tg h 1 = 0) ∧ R 2 0 [.ref 1] [] (mk h 1 1 0 5) (fun _ h2 => R 0 12 [.ref 0, .retAddr 0] [.ref 1, .ref 0] h2 P)) : R 0 0 [.ref 0, .retAddr 0] [] h P := by
  refine R_aload_n (Dat dd_X_init 0 rfl) rfl rfl ?_
  refine R_call8 (Dat dd_X_init 1 rfl) rfl rfl ?_
  refine R_aload_n (Dat dd_X_init 2 rfl) rfl rfl ?_
  obtain ⟨g1, T⟩ := T
  refine R_new (Dat dd_X_init 3 rfl) (ci := 0) rfl rfl (q := 1) rfl g1 (Or.inl (by decide)) ?_
  refine R_dup (Dat dd_X_init 4 rfl) rfl ?_
  exact R_call4 (Dat dd_X_init 5 rfl) rfl rfl rfl rfl rfl rfl T
theorem t_X_init_12 {h : Hp} {P : Value → Hp → Prop} {a1 : Value} (T : (tg h 0 = 12) ∧ (tg (setF h 0 0) 4 = 0) ∧ (tg (mk (setF h 0 0) 4 22 (4 : Int).toNat (4 : Int).toNat) 0 = 12) ∧ (tg (setF (mk (setF h 0 0) 4 22 (4 : Int).toNat (4 : Int).toNat) 0 1) 5 = 0) ∧ (tg (mk (setF (mk (setF h 0 0) 4 22 (4 : Int).toNat (4 : Int).toNat) 0 1) 5 20 (8 : Int).toNat (8 : Int).toNat) 0 = 12) ∧ (tg (setF (mk (setF (mk (setF h 0 0) 4 22 (4 : Int).toNat (4 : Int).toNat) 0 1) 5 20 (8 : Int).toNat (8 : Int).toNat) 0 6) 6 = 0) ∧ (tg (mk (setF (mk (setF (mk (setF h 0 0) 4 22 (4 : Int).toNat (4 : Int).toNat) 0 1) 5 20 (8 : Int).toNat (8 : Int).toNat) 0 6) 6 20 (8 : Int).toNat (8 : Int).toNat) 0 = 12) ∧ (tg (setF (mk (setF (mk (setF (mk (setF h 0 0) 4 22 (4 : Int).toNat (4 : Int).toNat) 0 1) 5 20 (8 : Int).toNat (8 : Int).toNat) 0 6) 6 20 (8 : Int).toNat (8 : Int).toNat) 0 7) 7 = 0) ∧ (tg (mk (setF (mk (setF (mk (setF (mk (setF h 0 0) 4 22 (4 : Int).toNat (4 : Int).toNat) 0 1) 5 20 (8 : Int).toNat (8 : Int).toNat) 0 6) 6 20 (8 : Int).toNat (8 : Int).toNat) 0 7) 7 23 (4 : Int).toNat (4 : Int).toNat) 0 = 12) ∧ (tg (setF (mk (setF (mk (setF (mk (setF (mk (setF h 0 0) 4 22 (4 : Int).toNat (4 : Int).toNat) 0 1) 5 20 (8 : Int).toNat (8 : Int).toNat) 0 6) 6 20 (8 : Int).toNat (8 : Int).toNat) 0 7) 7 23 (4 : Int).toNat (4 : Int).toNat) 0 9) 16 = 0) ∧ R 3 0 [.ref 16] [] (mk (setF (mk (setF (mk (setF (mk (setF (mk (setF h 0 0) 4 22 (4 : Int).toNat (4 : Int).toNat) 0 1) 5 20 (8 : Int).toNat (8 : Int).toNat) 0 6) 6 20 (8 : Int).toNat (8 : Int).toNat) 0 7) 7 23 (4 : Int).toNat (4 : Int).toNat) 0 9) 16 11 0 1) (fun _ h2 => R 0 55 [.ref 0, a1] [.ref 16, .ref 0] h2 P)) : R 0 12 [.ref 0, a1] [.ref 1, .ref 0] h P := by
  obtain ⟨g1, T⟩ := T
  refine R_putr (Dat dd_X_init 6 rfl) rfl rfl rfl (tok g1) rfl ?_
  refine R_aload_n (Dat dd_X_init 7 rfl) rfl rfl ?_
  refine R_iconst (Dat dd_X_init 8 rfl) ?_
  obtain ⟨g2, T⟩ := T
  refine R_anew (Dat dd_X_init 9 rfl) (t := 22) rfl rfl (q := 4) rfl g2 (Or.inl (by decide)) (by decide) (by decide) ?_
  obtain ⟨g3, T⟩ := T
  refine R_putr (Dat dd_X_init 10 rfl) rfl rfl rfl (tok g3) rfl ?_
  refine R_aload_n (Dat dd_X_init 11 rfl) rfl rfl ?_
  refine R_bipush (Dat dd_X_init 12 rfl) (a := 8) rfl ?_
  obtain ⟨g4, T⟩ := T
  refine R_newa (Dat dd_X_init 13 rfl) rfl (q := 5) rfl g4 (Or.inl (by decide)) (by decide) (by decide) ?_
  obtain ⟨g5, T⟩ := T
  refine R_putr (Dat dd_X_init 14 rfl) rfl rfl rfl (tok g5) rfl ?_
  refine R_aload_n (Dat dd_X_init 15 rfl) rfl rfl ?_
  refine R_bipush (Dat dd_X_init 16 rfl) (a := 8) rfl ?_
  obtain ⟨g6, T⟩ := T
  refine R_newa (Dat dd_X_init 17 rfl) rfl (q := 6) rfl g6 (Or.inl (by decide)) (by decide) (by decide) ?_
  obtain ⟨g7, T⟩ := T
  refine R_putr (Dat dd_X_init 18 rfl) rfl rfl rfl (tok g7) rfl ?_
  refine R_aload_n (Dat dd_X_init 19 rfl) rfl rfl ?_
  refine R_iconst (Dat dd_X_init 20 rfl) ?_
  obtain ⟨g8, T⟩ := T
  refine R_anew (Dat dd_X_init 21 rfl) (t := 23) rfl rfl (q := 7) rfl g8 (Or.inl (by decide)) (by decide) (by decide) ?_
  obtain ⟨g9, T⟩ := T
  refine R_putr (Dat dd_X_init 22 rfl) rfl rfl rfl (tok g9) rfl ?_
  refine R_aload_n (Dat dd_X_init 23 rfl) rfl rfl ?_
  obtain ⟨g10, T⟩ := T
  refine R_new (Dat dd_X_init 24 rfl) (ci := 10) rfl rfl (q := 16) rfl g10 (Or.inl (by decide)) ?_
  refine R_dup (Dat dd_X_init 25 rfl) rfl ?_
  exact R_call4 (Dat dd_X_init 26 rfl) rfl rfl rfl rfl rfl rfl T
theorem t_X_init_55 {h : Hp} {P : Value → Hp → Prop} {a1 : Value} (T : (tg h 0 = 12) ∧ (tg (setF h 0 10) 17 = 0) ∧ (okg 0 4 [.ref 0, a1] [.ref 17, .ref 0] [.ref 17] = true) ∧ R 4 0 [.ref 17] [] (mk (setF h 0 10) 17 8 0 2) (fun _ h2 => R 0 66 [.ref 0, a1] [.ref 17, .ref 0] h2 P)) : R 0 55 [.ref 0, a1] [.ref 16, .ref 0] h P := by
  obtain ⟨g1, T⟩ := T
  refine R_putr (Dat dd_X_init 27 rfl) rfl rfl rfl (tok g1) rfl ?_
  refine R_aload_n (Dat dd_X_init 28 rfl) rfl rfl ?_
  obtain ⟨g2, T⟩ := T
  refine R_new (Dat dd_X_init 29 rfl) (ci := 7) rfl rfl (q := 17) rfl g2 (Or.inl (by decide)) ?_
  refine R_dup (Dat dd_X_init 30 rfl) rfl ?_
  obtain ⟨g3, T⟩ := T
  exact R_call4 (Dat dd_X_init 31 rfl) rfl rfl rfl rfl g3 rfl T
theorem t_X_init_66 {h : Hp} {P : Value → Hp → Prop} {a1 : Value} (T : (tg h 0 = 12) ∧ (tg (setF h 0 12) 19 = 0) ∧ (okg 0 5 [.ref 0, a1] [.ref 19, .ref 0] [.ref 19] = true) ∧ R 5 0 [.ref 19] [] (mk (setF h 0 12) 19 9 0 5) (fun _ h2 => R 0 77 [.ref 0, a1] [.ref 19, .ref 0] h2 P)) : R 0 66 [.ref 0, a1] [.ref 17, .ref 0] h P := by
  obtain ⟨g1, T⟩ := T
  refine R_putr (Dat dd_X_init 32 rfl) rfl rfl rfl (tok g1) rfl ?_
  refine R_aload_n (Dat dd_X_init 33 rfl) rfl rfl ?_
  obtain ⟨g2, T⟩ := T
  refine R_new (Dat dd_X_init 34 rfl) (ci := 8) rfl rfl (q := 19) rfl g2 (Or.inl (by decide)) ?_
  refine R_dup (Dat dd_X_init 35 rfl) rfl ?_
  obtain ⟨g3, T⟩ := T
  exact R_call4 (Dat dd_X_init 36 rfl) rfl rfl rfl rfl g3 rfl T
theorem t_X_init_77 {h : Hp} {P : Value → Hp → Prop} {a1 : Value} (T : (tg h 0 = 12) ∧ (tg (setF h 0 13) 24 = 0) ∧ (tg (mk (setF h 0 13) 24 20 (0 : Int).toNat (0 : Int).toNat) 0 = 12) ∧ (tg (setF (mk (setF h 0 13) 24 20 (0 : Int).toNat (0 : Int).toNat) 0 14) 25 = 0) ∧ (tg (mk (setF (mk (setF h 0 13) 24 20 (0 : Int).toNat (0 : Int).toNat) 0 14) 25 20 (0 : Int).toNat (0 : Int).toNat) 0 = 12) ∧ (tg (setF (mk (setF (mk (setF h 0 13) 24 20 (0 : Int).toNat (0 : Int).toNat) 0 14) 25 20 (0 : Int).toNat (0 : Int).toNat) 0 15) 26 = 0) ∧ (tg (mk (setF (mk (setF (mk (setF h 0 13) 24 20 (0 : Int).toNat (0 : Int).toNat) 0 14) 25 20 (0 : Int).toNat (0 : Int).toNat) 0 15) 26 20 (0 : Int).toNat (0 : Int).toNat) 0 = 12) ∧ R 0 103 [.ref 0, .int (I 0)] [] (setF (mk (setF (mk (setF (mk (setF h 0 13) 24 20 (0 : Int).toNat (0 : Int).toNat) 0 14) 25 20 (0 : Int).toNat (0 : Int).toNat) 0 15) 26 20 (0 : Int).toNat (0 : Int).toNat) 0 16) P) : R 0 77 [.ref 0, a1] [.ref 19, .ref 0] h P := by
  obtain ⟨g1, T⟩ := T
  refine R_putr (Dat dd_X_init 37 rfl) rfl rfl rfl (tok g1) rfl ?_
  refine R_aload_n (Dat dd_X_init 38 rfl) rfl rfl ?_
  refine R_iconst (Dat dd_X_init 39 rfl) ?_
  obtain ⟨g2, T⟩ := T
  refine R_newa (Dat dd_X_init 40 rfl) rfl (q := 24) rfl g2 (Or.inl (by decide)) (by decide) (by decide) ?_
  obtain ⟨g3, T⟩ := T
  refine R_putr (Dat dd_X_init 41 rfl) rfl rfl rfl (tok g3) rfl ?_
  refine R_aload_n (Dat dd_X_init 42 rfl) rfl rfl ?_
  refine R_iconst (Dat dd_X_init 43 rfl) ?_
  obtain ⟨g4, T⟩ := T
  refine R_newa (Dat dd_X_init 44 rfl) rfl (q := 25) rfl g4 (Or.inl (by decide)) (by decide) (by decide) ?_
  obtain ⟨g5, T⟩ := T
  refine R_putr (Dat dd_X_init 45 rfl) rfl rfl rfl (tok g5) rfl ?_
  refine R_aload_n (Dat dd_X_init 46 rfl) rfl rfl ?_
  refine R_iconst (Dat dd_X_init 47 rfl) ?_
  obtain ⟨g6, T⟩ := T
  refine R_newa (Dat dd_X_init 48 rfl) rfl (q := 26) rfl g6 (Or.inl (by decide)) (by decide) (by decide) ?_
  obtain ⟨g7, T⟩ := T
  refine R_putr (Dat dd_X_init 49 rfl) rfl rfl rfl (tok g7) rfl ?_
  refine R_iconst (Dat dd_X_init 50 rfl) ?_
  refine R_istore_n (Dat dd_X_init 51 rfl) rfl rfl ?_
  exact T
theorem t_X_init_103 {h : Hp} {P : Value → Hp → Prop} {a1 : Int} (T : (rng a1) ∧ ((a1 < 4 → (tg h 0 = 12) ∧ (fl h 0 9 = true) ∧ (tg h 7 ≠ 0) ∧ (tg h (8 + (wr a1).toNat) = 0) ∧ ((8 + (wr a1).toNat) < 500) ∧ (okg 0 6 [.ref 0, .int (I a1)] [.ref (8 + (wr a1).toNat), .int (I a1), .ref 7] [.ref (8 + (wr a1).toNat)] = true) ∧ R 6 0 [.ref (8 + (wr a1).toNat)] [] (mk h (8 + (wr a1).toNat) 10 0 4) (fun _ h2 => R 0 120 [.ref 0, .int (I a1)] [.ref (8 + (wr a1).toNat), .int (I a1), .ref 7] h2 P)) ∧ (¬ a1 < 4 → P .null h))) : R 0 103 [.ref 0, .int (I a1)] [] h P := by
  refine R_iload_n (Dat dd_X_init 52 rfl) rfl ?_
  refine R_iconst (Dat dd_X_init 53 rfl) ?_
  obtain ⟨g1, T⟩ := T
  refine R_ic_ge (Dat dd_X_init 54 rfl) rfl g1 (by decide) (fun c => ?_) (fun c => ?_)
  · replace T := T.1 c
    refine R_aload_n (Dat dd_X_init 55 rfl) rfl rfl ?_
    obtain ⟨g2, T⟩ := T
    obtain ⟨g3, T⟩ := T
    obtain ⟨g4, T⟩ := T
    refine R_getr (Dat dd_X_init 56 rfl) rfl rfl (tok g2) g3 (q := 7) rfl g4 ?_
    refine R_iload_n (Dat dd_X_init 57 rfl) rfl ?_
    obtain ⟨g5, T⟩ := T
    obtain ⟨g6, T⟩ := T
    refine R_new (Dat dd_X_init 58 rfl) (ci := 9) rfl rfl (q := 8 + (wr a1).toNat) rfl g5 (Or.inl g6) ?_
    refine R_dup (Dat dd_X_init 59 rfl) rfl ?_
    obtain ⟨g7, T⟩ := T
    exact R_call4 (Dat dd_X_init 60 rfl) rfl rfl rfl rfl g7 rfl T
  · replace T := T.2 c
    exact R_return (Dat dd_X_init 64 rfl) rfl T
theorem t_X_init_120 {h : Hp} {P : Value → Hp → Prop} {a1 s1 : Int} {s0 : Nat} (T : (elok (tg h 7) (tg h s0) = true) ∧ ((ln h 7 : Int) ≤ 2147483648) ∧ (0 ≤ s1) ∧ (s1 < ln h 7) ∧ (child 7 (s1).toNat = s0) ∧ R 0 103 [.ref 0, .int (I (a1 + 1))] [] (setF h 7 (s1).toNat) P) : R 0 120 [.ref 0, .int (I a1)] [.ref s0, .int (I s1), .ref 7] h P := by
  obtain ⟨g1, T⟩ := T
  obtain ⟨g2, T⟩ := T
  obtain ⟨g3, T⟩ := T
  obtain ⟨g4, T⟩ := T
  obtain ⟨g5, T⟩ := T
  refine R_aastore (Dat dd_X_init 61 rfl) g1 g2 g3 g4 g5 ?_
  refine R_iinc (Dat dd_X_init 62 rfl) rfl rfl rfl ?_
  refine R_goto (Dat dd_X_init 63 rfl) rfl ?_
  exact T
def dl_Trail_init : List (Nat × Instr × Nat) := [(0, .aload_n 0, 1), (1, .invokespecial 1, 3), (4, .return_, 1)]
theorem dd_Trail_init : Dall 3 dl_Trail_init = true := by decide +kernel
theorem t_Trail_init {h : Hp} {P : Value → Hp → Prop}  (T : P .null h) : R 3 0 [.ref 16] [] h P := by
  refine R_aload_n (Dat dd_Trail_init 0 rfl) rfl rfl ?_
  refine R_call8 (Dat dd_Trail_init 1 rfl) rfl rfl ?_
  exact R_return (Dat dd_Trail_init 2 rfl) rfl T
def dl_Search_init : List (Nat × Instr × Nat) := [(0, .aload_n 0, 1), (1, .invokespecial 3, 3), (4, .aload_n 0, 1), (5, .iconst 0, 1), (6, .newarray .int, 2), (8, .putfield 9, 3), (11, .aload_n 0, 1), (12, .iconst 0, 1), (13, .newarray .int, 2), (15, .putfield 15, 3), (18, .aload_n 0, 1), (19, .iconst 0, 1), (20, .newarray .int, 2), (22, .putfield 18, 3), (25, .aload_n 0, 1), (26, .iconst 0, 1), (27, .newarray .int, 2), (29, .putfield 21, 3), (32, .return_, 1)]
theorem dd_Search_init : Dall 5 dl_Search_init = true := by decide +kernel
theorem t_Search_init {h : Hp} {P : Value → Hp → Prop}  (T : (tg h 20 = 0) ∧ (tg (mk h 20 20 (0 : Int).toNat (0 : Int).toNat) 19 = 9) ∧ (tg (setF (mk h 20 20 (0 : Int).toNat (0 : Int).toNat) 19 0) 21 = 0) ∧ (tg (mk (setF (mk h 20 20 (0 : Int).toNat (0 : Int).toNat) 19 0) 21 20 (0 : Int).toNat (0 : Int).toNat) 19 = 9) ∧ (tg (setF (mk (setF (mk h 20 20 (0 : Int).toNat (0 : Int).toNat) 19 0) 21 20 (0 : Int).toNat (0 : Int).toNat) 19 1) 22 = 0) ∧ (tg (mk (setF (mk (setF (mk h 20 20 (0 : Int).toNat (0 : Int).toNat) 19 0) 21 20 (0 : Int).toNat (0 : Int).toNat) 19 1) 22 20 (0 : Int).toNat (0 : Int).toNat) 19 = 9) ∧ (tg (setF (mk (setF (mk (setF (mk h 20 20 (0 : Int).toNat (0 : Int).toNat) 19 0) 21 20 (0 : Int).toNat (0 : Int).toNat) 19 1) 22 20 (0 : Int).toNat (0 : Int).toNat) 19 2) 23 = 0) ∧ (tg (mk (setF (mk (setF (mk (setF (mk h 20 20 (0 : Int).toNat (0 : Int).toNat) 19 0) 21 20 (0 : Int).toNat (0 : Int).toNat) 19 1) 22 20 (0 : Int).toNat (0 : Int).toNat) 19 2) 23 20 (0 : Int).toNat (0 : Int).toNat) 19 = 9) ∧ P .null (setF (mk (setF (mk (setF (mk (setF (mk h 20 20 (0 : Int).toNat (0 : Int).toNat) 19 0) 21 20 (0 : Int).toNat (0 : Int).toNat) 19 1) 22 20 (0 : Int).toNat (0 : Int).toNat) 19 2) 23 20 (0 : Int).toNat (0 : Int).toNat) 19 3)) : R 5 0 [.ref 19] [] h P := by
  refine R_aload_n (Dat dd_Search_init 0 rfl) rfl rfl ?_
  refine R_call8 (Dat dd_Search_init 1 rfl) rfl rfl ?_
  refine R_aload_n (Dat dd_Search_init 2 rfl) rfl rfl ?_
  refine R_iconst (Dat dd_Search_init 3 rfl) ?_
  obtain ⟨g1, T⟩ := T
  refine R_newa (Dat dd_Search_init 4 rfl) rfl (q := 20) rfl g1 (Or.inl (by decide)) (by decide) (by decide) ?_
  obtain ⟨g2, T⟩ := T
  refine R_putr (Dat dd_Search_init 5 rfl) rfl rfl rfl (tok g2) rfl ?_
  refine R_aload_n (Dat dd_Search_init 6 rfl) rfl rfl ?_
  refine R_iconst (Dat dd_Search_init 7 rfl) ?_
  obtain ⟨g3, T⟩ := T
  refine R_newa (Dat dd_Search_init 8 rfl) rfl (q := 21) rfl g3 (Or.inl (by decide)) (by decide) (by decide) ?_
  obtain ⟨g4, T⟩ := T
  refine R_putr (Dat dd_Search_init 9 rfl) rfl rfl rfl (tok g4) rfl ?_
  refine R_aload_n (Dat dd_Search_init 10 rfl) rfl rfl ?_
  refine R_iconst (Dat dd_Search_init 11 rfl) ?_
  obtain ⟨g5, T⟩ := T
  refine R_newa (Dat dd_Search_init 12 rfl) rfl (q := 22) rfl g5 (Or.inl (by decide)) (by decide) (by decide) ?_
  obtain ⟨g6, T⟩ := T
  refine R_putr (Dat dd_Search_init 13 rfl) rfl rfl rfl (tok g6) rfl ?_
  refine R_aload_n (Dat dd_Search_init 14 rfl) rfl rfl ?_
  refine R_iconst (Dat dd_Search_init 15 rfl) ?_
  obtain ⟨g7, T⟩ := T
  refine R_newa (Dat dd_Search_init 16 rfl) rfl (q := 23) rfl g7 (Or.inl (by decide)) (by decide) (by decide) ?_
  obtain ⟨g8, T⟩ := T
  refine R_putr (Dat dd_Search_init 17 rfl) rfl rfl rfl (tok g8) rfl ?_
  exact R_return (Dat dd_Search_init 18 rfl) rfl T
def dl_Sheet_init : List (Nat × Instr × Nat) := [(0, .aload_n 0, 1), (1, .invokespecial 3, 3), (4, .aload_n 0, 1), (5, .bipush 60, 2), (7, .newarray .int, 2), (9, .putfield 9, 3), (12, .return_, 1)]
theorem dd_Sheet_init : Dall 6 dl_Sheet_init = true := by decide +kernel
theorem t_Sheet_init {h : Hp} {P : Value → Hp → Prop} {r : Nat} (T : (tg h (r + 4) = 0) ∧ ((r + 4) < 500) ∧ (tg (mk h (r + 4) 20 (60 : Int).toNat (60 : Int).toNat) r = 10) ∧ (child r 0 = (r + 4)) ∧ P .null (setF (mk h (r + 4) 20 (60 : Int).toNat (60 : Int).toNat) r 0)) : R 6 0 [.ref r] [] h P := by
  refine R_aload_n (Dat dd_Sheet_init 0 rfl) rfl rfl ?_
  refine R_call8 (Dat dd_Sheet_init 1 rfl) rfl rfl ?_
  refine R_aload_n (Dat dd_Sheet_init 2 rfl) rfl rfl ?_
  refine R_bipush (Dat dd_Sheet_init 3 rfl) (a := 60) rfl ?_
  obtain ⟨g1, T⟩ := T
  obtain ⟨g2, T⟩ := T
  refine R_newa (Dat dd_Sheet_init 4 rfl) rfl (q := r + 4) rfl g1 (Or.inl g2) (by decide) (by decide) ?_
  obtain ⟨g3, T⟩ := T
  obtain ⟨g4, T⟩ := T
  refine R_putr (Dat dd_Sheet_init 5 rfl) rfl rfl rfl (tok g3) g4 ?_
  exact R_return (Dat dd_Sheet_init 6 rfl) rfl T
def dl_X_box : List (Nat × Instr × Nat) := [(0, .aload_n 0, 1), (1, .iload_n 1, 1), (2, .iload_n 2, 1), (3, .iload_n 3, 1), (4, .iload 4, 2), (6, .invokevirtual 68, 3), (9, .istore 5, 2), (11, .iload 5, 2), (13, .ifCond .eq 6, 3), (16, .iload 5, 2), (18, .ireturn, 1), (19, .aload_n 0, 1), (20, .getfield 33, 3), (23, .iload_n 1, 1), (24, .aaload, 1), (25, .getfield 72, 3), (28, .astore 6, 2), (30, .aload 6, 2), (32, .iload_n 3, 1), (33, .iload 4, 2), (35, .invokestatic 75, 3), (38, .istore 7, 2), (40, .iload 7, 2), (42, .iconst (-1), 1), (43, .if_icmp .eq 9, 3), (46, .bipush (-100), 2), (48, .iload 7, 2), (50, .isub, 1), (51, .ireturn, 1), (52, .aload_n 0, 1), (53, .getfield 12, 3), (56, .aload 6, 2), (58, .iload_n 3, 1), (59, .iload 4, 2), (61, .invokevirtual 79, 3), (64, .aload_n 0, 1), (65, .invokevirtual 83, 3), (68, .aload_n 0, 1), (69, .iconst 0, 1), (70, .putfield 86, 3), (73, .aload_n 0, 1), (74, .iconst 0, 1), (75, .putfield 90, 3), (78, .aload_n 0, 1), (79, .iconst 0, 1), (80, .putfield 93, 3), (83, .aload_n 0, 1), (84, .getfield 12, 3), (87, .getfield 96, 3), (90, .ireturn, 1)]
theorem dd_X_box : Dall 7 dl_X_box = true := by decide +kernel
theorem t_X_box {h : Hp} {P : Value → Hp → Prop} {p0 p1 p2 p3 : Int} (S : XS h) (T : R 8 0 [.ref 0, .int (I p0), .int (I p1), .int (I p2), .int (I p3), .retAddr 0] [] h (fun v h2 => R 7 9 [.ref 0, .int (I p0), .int (I p1), .int (I p2), .int (I p3), .retAddr 0, .retAddr 0, .retAddr 0] (v :: []) h2 P)) : R 7 0 [.ref 0, .int (I p0), .int (I p1), .int (I p2), .int (I p3), .retAddr 0, .retAddr 0, .retAddr 0] [] h P := by
  refine R_aload_n (Dat dd_X_box 0 rfl) rfl rfl ?_
  refine R_iload_n (Dat dd_X_box 1 rfl) rfl ?_
  refine R_iload_n (Dat dd_X_box 2 rfl) rfl ?_
  refine R_iload_n (Dat dd_X_box 3 rfl) rfl ?_
  refine R_iload (Dat dd_X_box 4 rfl) rfl ?_
  exact R_call1 (Dat dd_X_box 5 rfl) rfl S.t0 rfl rfl rfl rfl rfl T
theorem t_X_box_9 {h : Hp} {P : Value → Hp → Prop} {a1 a3 a4 s0 : Int} {a2 a5 a6 a7 : Value} (S : XS h) (T : (rng s0) ∧ ((s0 = 0 → (0 ≤ a1) ∧ (a1 < 4) ∧ (fl h 7 (a1).toNat = true) ∧ (tg h (child 7 (a1).toNat) ≠ 0) ∧ (tg h (child 7 (a1).toNat) = 10) ∧ (fl h (child 7 (a1).toNat) 0 = true) ∧ (tg h (child (child 7 (a1).toNat) 0) ≠ 0) ∧ R 13 0 [.ref (child (child 7 (a1).toNat) 0), .int (I a3), .int (I a4), .retAddr 0, .retAddr 0, .retAddr 0] [] h (fun v h2 => R 7 38 [.ref 0, .int (I a1), a2, .int (I a3), .int (I a4), .int (I s0), .ref (child (child 7 (a1).toNat) 0), a7] (v :: []) h2 P)) ∧ (¬ s0 = 0 → P (.int (I s0)) h))) : R 7 9 [.ref 0, .int (I a1), a2, .int (I a3), .int (I a4), a5, a6, a7] [.int (I s0)] h P := by
  refine R_istore (Dat dd_X_box 6 rfl) rfl rfl ?_
  refine R_iload (Dat dd_X_box 7 rfl) rfl ?_
  obtain ⟨g1, T⟩ := T
  refine R_if_eq (Dat dd_X_box 8 rfl) rfl g1  (fun c => ?_) (fun c => ?_)
  · replace T := T.1 c
    refine R_aload_n (Dat dd_X_box 11 rfl) rfl rfl ?_
    refine R_getr (Dat dd_X_box 12 rfl) rfl rfl (tok S.t0) S.f0_9 (q := 7) rfl (tnz S.t7) ?_
    refine R_iload_n (Dat dd_X_box 13 rfl) rfl ?_
    obtain ⟨g2, T⟩ := T
    obtain ⟨g3, T⟩ := T
    obtain ⟨g4, T⟩ := T
    obtain ⟨g5, T⟩ := T
    refine R_aaload (Dat dd_X_box 14 rfl) (by rw [show tg h 7 = 23 from S.t7]; decide) (lnle (show ln h 7 = 4 from S.l7) (by decide)) g2 (lnlt (show ln h 7 = 4 from S.l7) g3) g4 rfl g5 ?_
    obtain ⟨g6, T⟩ := T
    obtain ⟨g7, T⟩ := T
    obtain ⟨g8, T⟩ := T
    refine R_getr (Dat dd_X_box 15 rfl) rfl rfl (tok g6) g7 (q := child (child 7 (a1).toNat) 0) rfl g8 ?_
    refine R_astore (Dat dd_X_box 16 rfl) rfl rfl rfl ?_
    refine R_aload (Dat dd_X_box 17 rfl) rfl rfl ?_
    refine R_iload_n (Dat dd_X_box 18 rfl) rfl ?_
    refine R_iload (Dat dd_X_box 19 rfl) rfl ?_
    exact R_call0 (Dat dd_X_box 20 rfl) rfl rfl rfl rfl rfl rfl T
  · replace T := T.2 c
    refine R_iload (Dat dd_X_box 9 rfl) rfl ?_
    exact R_ireturn (Dat dd_X_box 10 rfl) rfl T
theorem t_X_box_38 {h : Hp} {P : Value → Hp → Prop} {a3 a4 s0 : Int} {a6 : Nat} {a1 a2 a5 a7 : Value} (S : XS h) (T : (rng s0) ∧ ((s0 = (-1) → (okg 7 15 [.ref 0, a1, a2, .int (I a3), .int (I a4), a5, .ref a6, .int (I s0)] [] [.ref 1, .ref a6, .int (I a3), .int (I a4)] = true) ∧ R 15 0 [.ref 1, .ref a6, .int (I a3), .int (I a4), .retAddr 0, .retAddr 0, .retAddr 0] [] h (fun _ h2 => R 7 64 [.ref 0, a1, a2, .int (I a3), .int (I a4), a5, .ref a6, .int (I s0)] [] h2 P)) ∧ (¬ s0 = (-1) → P (.int (I ((-100) - s0))) h))) : R 7 38 [.ref 0, a1, a2, .int (I a3), .int (I a4), a5, .ref a6, a7] [.int (I s0)] h P := by
  refine R_istore (Dat dd_X_box 21 rfl) rfl rfl ?_
  refine R_iload (Dat dd_X_box 22 rfl) rfl ?_
  refine R_iconst (Dat dd_X_box 23 rfl) ?_
  obtain ⟨g1, T⟩ := T
  refine R_ic_eq (Dat dd_X_box 24 rfl) rfl g1 (by decide) (fun c => ?_) (fun c => ?_)
  · replace T := T.1 c
    refine R_aload_n (Dat dd_X_box 29 rfl) rfl rfl ?_
    refine R_getr (Dat dd_X_box 30 rfl) rfl rfl (tok S.t0) S.f0_0 (q := 1) rfl (tnz S.t1) ?_
    refine R_aload (Dat dd_X_box 31 rfl) rfl rfl ?_
    refine R_iload_n (Dat dd_X_box 32 rfl) rfl ?_
    refine R_iload (Dat dd_X_box 33 rfl) rfl ?_
    obtain ⟨g2, T⟩ := T
    exact R_call1 (Dat dd_X_box 34 rfl) rfl S.t1 rfl rfl rfl g2 rfl T
  · replace T := T.2 c
    refine R_bipush (Dat dd_X_box 25 rfl) (a := (-100)) rfl ?_
    refine R_iload (Dat dd_X_box 26 rfl) rfl ?_
    refine R_isub (Dat dd_X_box 27 rfl) ?_
    exact R_ireturn (Dat dd_X_box 28 rfl) rfl T
theorem t_X_box_64 {h : Hp} {P : Value → Hp → Prop} {a1 a2 a3 a4 a5 a6 a7 : Value} (S : XS h) (T : (okg 7 25 [.ref 0, a1, a2, a3, a4, a5, a6, a7] [] [.ref 0] = true) ∧ R 25 0 [.ref 0] [] h (fun _ h2 => R 7 68 [.ref 0, a1, a2, a3, a4, a5, a6, a7] [] h2 P)) : R 7 64 [.ref 0, a1, a2, a3, a4, a5, a6, a7] [] h P := by
  refine R_aload_n (Dat dd_X_box 35 rfl) rfl rfl ?_
  obtain ⟨g1, T⟩ := T
  exact R_call1 (Dat dd_X_box 36 rfl) rfl S.t0 rfl rfl rfl g1 rfl T
theorem t_X_box_68 {h : Hp} {P : Value → Hp → Prop} {a1 a2 a3 a4 a5 a6 a7 : Value} (S : XS h) (T : P (.int (I (iv (setI (setI (setI h 0 4 0) 0 8 0) 0 5 0) 1 1))) (setI (setI (setI h 0 4 0) 0 8 0) 0 5 0)) : R 7 68 [.ref 0, a1, a2, a3, a4, a5, a6, a7] [] h P := by
  refine R_aload_n (Dat dd_X_box 37 rfl) rfl rfl ?_
  refine R_iconst (Dat dd_X_box 38 rfl) ?_
  refine R_puti (Dat dd_X_box 39 rfl) rfl rfl rfl (tok S.t0) rfl (v := 0) rfl ?_
  refine R_aload_n (Dat dd_X_box 40 rfl) rfl rfl ?_
  refine R_iconst (Dat dd_X_box 41 rfl) ?_
  refine R_puti (Dat dd_X_box 42 rfl) rfl rfl rfl (tok S.t0) rfl (v := 0) rfl ?_
  refine R_aload_n (Dat dd_X_box 43 rfl) rfl rfl ?_
  refine R_iconst (Dat dd_X_box 44 rfl) ?_
  refine R_puti (Dat dd_X_box 45 rfl) rfl rfl rfl (tok S.t0) rfl (v := 0) rfl ?_
  refine R_aload_n (Dat dd_X_box 46 rfl) rfl rfl ?_
  refine R_getr (Dat dd_X_box 47 rfl) rfl rfl (tok S.t0) S.f0_0 (q := 1) rfl (tnz S.t1) ?_
  refine R_geti (Dat dd_X_box 48 rfl) rfl rfl (tok S.t1) ?_
  exact R_ireturn (Dat dd_X_box 49 rfl) rfl T
def dl_X_refusalOfCells : List (Nat × Instr × Nat) := [(0, .aload_n 0, 1), (1, .iconst 0, 1), (2, .putfield 266, 3), (5, .iload_n 1, 1), (6, .invokestatic 278, 3), (9, .ifCond .eq 5, 3), (12, .iconst (-1), 1), (13, .ireturn, 1), (14, .iload_n 2, 1), (15, .invokestatic 281, 3), (18, .ifCond .eq 6, 3), (21, .bipush (-2), 2), (23, .ireturn, 1), (24, .aload_n 0, 1), (25, .getfield 33, 3), (28, .iload_n 1, 1), (29, .aaload, 1), (30, .astore 5, 2), (32, .aload 5, 2), (34, .getfield 291, 3), (37, .ifCond .eq 18, 3), (40, .aload 5, 2), (42, .getfield 301, 3), (45, .iload_n 2, 1), (46, .if_icmp .eq 9, 3), (49, .aload_n 0, 1), (50, .iconst 2, 1), (51, .invokevirtual 284, 3), (54, .ireturn, 1), (55, .aload 5, 2), (57, .getfield 291, 3), (60, .ifCond .ne 9, 3), (63, .aload_n 0, 1), (64, .iconst 1, 1), (65, .invokevirtual 284, 3), (68, .ireturn, 1), (69, .iload 4, 2), (71, .ifCond .ge 9, 3), (74, .aload_n 0, 1), (75, .iconst 4, 1), (76, .invokevirtual 284, 3), (79, .ireturn, 1), (80, .aload 5, 2), (82, .iload_n 3, 1), (83, .iload 4, 2), (85, .invokevirtual 304, 3), (88, .ifCond .eq 11, 3), (91, .aload_n 0, 1), (92, .iconst 3, 1), (93, .invokevirtual 284, 3), (96, .goto 4, 3), (99, .iconst 0, 1), (100, .ireturn, 1)]
theorem dd_X_refusalOfCells : Dall 8 dl_X_refusalOfCells = true := by decide +kernel
theorem t_X_refusalOfCells {h : Hp} {P : Value → Hp → Prop} {p0 p1 p2 p3 : Int} (S : XS h) (T : R 9 0 [.int (I p0)] [] (setI h 0 11 0) (fun v h2 => R 8 9 [.ref 0, .int (I p0), .int (I p1), .int (I p2), .int (I p3), .retAddr 0] (v :: []) h2 P)) : R 8 0 [.ref 0, .int (I p0), .int (I p1), .int (I p2), .int (I p3), .retAddr 0] [] h P := by
  refine R_aload_n (Dat dd_X_refusalOfCells 0 rfl) rfl rfl ?_
  refine R_iconst (Dat dd_X_refusalOfCells 1 rfl) ?_
  refine R_puti (Dat dd_X_refusalOfCells 2 rfl) rfl rfl rfl (tok S.t0) rfl (v := 0) rfl ?_
  refine R_iload_n (Dat dd_X_refusalOfCells 3 rfl) rfl ?_
  exact R_call0 (Dat dd_X_refusalOfCells 4 rfl) rfl rfl rfl rfl rfl rfl T
theorem t_X_refusalOfCells_9 {h : Hp} {P : Value → Hp → Prop} {a1 a2 a3 a4 s0 : Int} {a5 : Value} (S : XS h) (T : (rng s0) ∧ ((s0 = 0 → R 10 0 [.int (I a2)] [] h (fun v h2 => R 8 18 [.ref 0, .int (I a1), .int (I a2), .int (I a3), .int (I a4), a5] (v :: []) h2 P)) ∧ (¬ s0 = 0 → P (.int (I (-1))) h))) : R 8 9 [.ref 0, .int (I a1), .int (I a2), .int (I a3), .int (I a4), a5] [.int (I s0)] h P := by
  obtain ⟨g1, T⟩ := T
  refine R_if_eq (Dat dd_X_refusalOfCells 5 rfl) rfl g1  (fun c => ?_) (fun c => ?_)
  · replace T := T.1 c
    refine R_iload_n (Dat dd_X_refusalOfCells 8 rfl) rfl ?_
    exact R_call0 (Dat dd_X_refusalOfCells 9 rfl) rfl rfl rfl rfl rfl rfl T
  · replace T := T.2 c
    refine R_iconst (Dat dd_X_refusalOfCells 6 rfl) ?_
    exact R_ireturn (Dat dd_X_refusalOfCells 7 rfl) rfl T
theorem t_X_refusalOfCells_18 {h : Hp} {P : Value → Hp → Prop} {a1 a2 a3 a4 s0 : Int} {a5 : Value} (S : XS h) (T : (rng s0) ∧ ((s0 = 0 → (0 ≤ a1) ∧ (a1 < 4) ∧ (fl h 7 (a1).toNat = true) ∧ (tg h (child 7 (a1).toNat) ≠ 0) ∧ (tg h (child 7 (a1).toNat) = 10) ∧ (rng (iv h (child 7 (a1).toNat) 1)) ∧ (((iv h (child 7 (a1).toNat) 1) = 0 → (tg h (child 7 (a1).toNat) = 10) ∧ (rng (iv h (child 7 (a1).toNat) 1)) ∧ (((iv h (child 7 (a1).toNat) 1) = 0 → R 11 0 [.ref 0, .int (I 1)] [] h (fun v h2 => R 8 68 [.ref 0, .int (I a1), .int (I a2), .int (I a3), .int (I a4), .ref (child 7 (a1).toNat)] (v :: []) h2 P)) ∧ (¬ (iv h (child 7 (a1).toNat) 1) = 0 → (rng a4) ∧ ((a4 < 0 → R 11 0 [.ref 0, .int (I 4)] [] h (fun v h2 => R 8 79 [.ref 0, .int (I a1), .int (I a2), .int (I a3), .int (I a4), .ref (child 7 (a1).toNat)] (v :: []) h2 P)) ∧ (¬ a4 < 0 → (tg h (child 7 (a1).toNat) = 10) ∧ R 12 0 [.ref (child 7 (a1).toNat), .int (I a3), .int (I a4)] [] h (fun v h2 => R 8 88 [.ref 0, .int (I a1), .int (I a2), .int (I a3), .int (I a4), .ref (child 7 (a1).toNat)] (v :: []) h2 P)))))) ∧ (¬ (iv h (child 7 (a1).toNat) 1) = 0 → (tg h (child 7 (a1).toNat) = 10) ∧ (rng (iv h (child 7 (a1).toNat) 2)) ∧ (rng a2) ∧ (((iv h (child 7 (a1).toNat) 2) = a2 → (tg h (child 7 (a1).toNat) = 10) ∧ (rng (iv h (child 7 (a1).toNat) 1)) ∧ (((iv h (child 7 (a1).toNat) 1) = 0 → R 11 0 [.ref 0, .int (I 1)] [] h (fun v h2 => R 8 68 [.ref 0, .int (I a1), .int (I a2), .int (I a3), .int (I a4), .ref (child 7 (a1).toNat)] (v :: []) h2 P)) ∧ (¬ (iv h (child 7 (a1).toNat) 1) = 0 → (rng a4) ∧ ((a4 < 0 → R 11 0 [.ref 0, .int (I 4)] [] h (fun v h2 => R 8 79 [.ref 0, .int (I a1), .int (I a2), .int (I a3), .int (I a4), .ref (child 7 (a1).toNat)] (v :: []) h2 P)) ∧ (¬ a4 < 0 → (tg h (child 7 (a1).toNat) = 10) ∧ R 12 0 [.ref (child 7 (a1).toNat), .int (I a3), .int (I a4)] [] h (fun v h2 => R 8 88 [.ref 0, .int (I a1), .int (I a2), .int (I a3), .int (I a4), .ref (child 7 (a1).toNat)] (v :: []) h2 P)))))) ∧ (¬ (iv h (child 7 (a1).toNat) 2) = a2 → R 11 0 [.ref 0, .int (I 2)] [] h (fun v h2 => R 8 54 [.ref 0, .int (I a1), .int (I a2), .int (I a3), .int (I a4), .ref (child 7 (a1).toNat)] (v :: []) h2 P)))))) ∧ (¬ s0 = 0 → P (.int (I (-2))) h))) : R 8 18 [.ref 0, .int (I a1), .int (I a2), .int (I a3), .int (I a4), a5] [.int (I s0)] h P := by
  obtain ⟨g1, T⟩ := T
  refine R_if_eq (Dat dd_X_refusalOfCells 10 rfl) rfl g1  (fun c => ?_) (fun c => ?_)
  · replace T := T.1 c
    refine R_aload_n (Dat dd_X_refusalOfCells 13 rfl) rfl rfl ?_
    refine R_getr (Dat dd_X_refusalOfCells 14 rfl) rfl rfl (tok S.t0) S.f0_9 (q := 7) rfl (tnz S.t7) ?_
    refine R_iload_n (Dat dd_X_refusalOfCells 15 rfl) rfl ?_
    obtain ⟨g2, T⟩ := T
    obtain ⟨g3, T⟩ := T
    obtain ⟨g4, T⟩ := T
    obtain ⟨g5, T⟩ := T
    refine R_aaload (Dat dd_X_refusalOfCells 16 rfl) (by rw [show tg h 7 = 23 from S.t7]; decide) (lnle (show ln h 7 = 4 from S.l7) (by decide)) g2 (lnlt (show ln h 7 = 4 from S.l7) g3) g4 rfl g5 ?_
    refine R_astore (Dat dd_X_refusalOfCells 17 rfl) rfl rfl rfl ?_
    refine R_aload (Dat dd_X_refusalOfCells 18 rfl) rfl rfl ?_
    obtain ⟨g6, T⟩ := T
    refine R_geti (Dat dd_X_refusalOfCells 19 rfl) rfl rfl (tok g6) ?_
    obtain ⟨g7, T⟩ := T
    refine R_if_eq (Dat dd_X_refusalOfCells 20 rfl) rfl g7  (fun c => ?_) (fun c => ?_)
    · replace T := T.1 c
      refine R_aload (Dat dd_X_refusalOfCells 29 rfl) rfl rfl ?_
      obtain ⟨g8, T⟩ := T
      refine R_geti (Dat dd_X_refusalOfCells 30 rfl) rfl rfl (tok g8) ?_
      obtain ⟨g9, T⟩ := T
      refine R_if_ne (Dat dd_X_refusalOfCells 31 rfl) rfl g9  (fun c => ?_) (fun c => ?_)
      · replace T := T.1 c
        refine R_aload_n (Dat dd_X_refusalOfCells 32 rfl) rfl rfl ?_
        refine R_iconst (Dat dd_X_refusalOfCells 33 rfl) ?_
        exact R_call1 (Dat dd_X_refusalOfCells 34 rfl) rfl S.t0 rfl rfl rfl rfl rfl T
      · replace T := T.2 c
        refine R_iload (Dat dd_X_refusalOfCells 36 rfl) rfl ?_
        obtain ⟨g10, T⟩ := T
        refine R_if_ge (Dat dd_X_refusalOfCells 37 rfl) rfl g10  (fun c => ?_) (fun c => ?_)
        · replace T := T.1 c
          refine R_aload_n (Dat dd_X_refusalOfCells 38 rfl) rfl rfl ?_
          refine R_iconst (Dat dd_X_refusalOfCells 39 rfl) ?_
          exact R_call1 (Dat dd_X_refusalOfCells 40 rfl) rfl S.t0 rfl rfl rfl rfl rfl T
        · replace T := T.2 c
          refine R_aload (Dat dd_X_refusalOfCells 42 rfl) rfl rfl ?_
          refine R_iload_n (Dat dd_X_refusalOfCells 43 rfl) rfl ?_
          refine R_iload (Dat dd_X_refusalOfCells 44 rfl) rfl ?_
          obtain ⟨g11, T⟩ := T
          exact R_call1 (Dat dd_X_refusalOfCells 45 rfl) rfl g11 rfl rfl rfl rfl rfl T
    · replace T := T.2 c
      refine R_aload (Dat dd_X_refusalOfCells 21 rfl) rfl rfl ?_
      obtain ⟨g12, T⟩ := T
      refine R_geti (Dat dd_X_refusalOfCells 22 rfl) rfl rfl (tok g12) ?_
      refine R_iload_n (Dat dd_X_refusalOfCells 23 rfl) rfl ?_
      obtain ⟨g13, T⟩ := T
      obtain ⟨g14, T⟩ := T
      refine R_ic_eq (Dat dd_X_refusalOfCells 24 rfl) rfl g13 g14 (fun c => ?_) (fun c => ?_)
      · replace T := T.1 c
        refine R_aload (Dat dd_X_refusalOfCells 29 rfl) rfl rfl ?_
        obtain ⟨g15, T⟩ := T
        refine R_geti (Dat dd_X_refusalOfCells 30 rfl) rfl rfl (tok g15) ?_
        obtain ⟨g16, T⟩ := T
        refine R_if_ne (Dat dd_X_refusalOfCells 31 rfl) rfl g16  (fun c => ?_) (fun c => ?_)
        · replace T := T.1 c
          refine R_aload_n (Dat dd_X_refusalOfCells 32 rfl) rfl rfl ?_
          refine R_iconst (Dat dd_X_refusalOfCells 33 rfl) ?_
          exact R_call1 (Dat dd_X_refusalOfCells 34 rfl) rfl S.t0 rfl rfl rfl rfl rfl T
        · replace T := T.2 c
          refine R_iload (Dat dd_X_refusalOfCells 36 rfl) rfl ?_
          obtain ⟨g17, T⟩ := T
          refine R_if_ge (Dat dd_X_refusalOfCells 37 rfl) rfl g17  (fun c => ?_) (fun c => ?_)
          · replace T := T.1 c
            refine R_aload_n (Dat dd_X_refusalOfCells 38 rfl) rfl rfl ?_
            refine R_iconst (Dat dd_X_refusalOfCells 39 rfl) ?_
            exact R_call1 (Dat dd_X_refusalOfCells 40 rfl) rfl S.t0 rfl rfl rfl rfl rfl T
          · replace T := T.2 c
            refine R_aload (Dat dd_X_refusalOfCells 42 rfl) rfl rfl ?_
            refine R_iload_n (Dat dd_X_refusalOfCells 43 rfl) rfl ?_
            refine R_iload (Dat dd_X_refusalOfCells 44 rfl) rfl ?_
            obtain ⟨g18, T⟩ := T
            exact R_call1 (Dat dd_X_refusalOfCells 45 rfl) rfl g18 rfl rfl rfl rfl rfl T
      · replace T := T.2 c
        refine R_aload_n (Dat dd_X_refusalOfCells 25 rfl) rfl rfl ?_
        refine R_iconst (Dat dd_X_refusalOfCells 26 rfl) ?_
        exact R_call1 (Dat dd_X_refusalOfCells 27 rfl) rfl S.t0 rfl rfl rfl rfl rfl T
  · replace T := T.2 c
    refine R_bipush (Dat dd_X_refusalOfCells 11 rfl) (a := (-2)) rfl ?_
    exact R_ireturn (Dat dd_X_refusalOfCells 12 rfl) rfl T
theorem t_X_refusalOfCells_68 {h : Hp} {P : Value → Hp → Prop} {s0 : Int} {a0 a1 a2 a3 a4 a5 : Value} (S : XS h) (T : P (.int (I s0)) h) : R 8 68 [a0, a1, a2, a3, a4, a5] [.int (I s0)] h P := by
  exact R_ireturn (Dat dd_X_refusalOfCells 35 rfl) rfl T
theorem t_X_refusalOfCells_79 {h : Hp} {P : Value → Hp → Prop} {s0 : Int} {a0 a1 a2 a3 a4 a5 : Value} (S : XS h) (T : P (.int (I s0)) h) : R 8 79 [a0, a1, a2, a3, a4, a5] [.int (I s0)] h P := by
  exact R_ireturn (Dat dd_X_refusalOfCells 41 rfl) rfl T
theorem t_X_refusalOfCells_88 {h : Hp} {P : Value → Hp → Prop} {s0 : Int} {a1 a2 a3 a4 a5 : Value} (S : XS h) (T : (rng s0) ∧ ((s0 = 0 → P (.int (I 0)) h) ∧ (¬ s0 = 0 → R 11 0 [.ref 0, .int (I 3)] [] h (fun v h2 => R 8 96 [.ref 0, a1, a2, a3, a4, a5] (v :: []) h2 P)))) : R 8 88 [.ref 0, a1, a2, a3, a4, a5] [.int (I s0)] h P := by
  obtain ⟨g1, T⟩ := T
  refine R_if_eq (Dat dd_X_refusalOfCells 46 rfl) rfl g1  (fun c => ?_) (fun c => ?_)
  · replace T := T.1 c
    refine R_iconst (Dat dd_X_refusalOfCells 51 rfl) ?_
    exact R_ireturn (Dat dd_X_refusalOfCells 52 rfl) rfl T
  · replace T := T.2 c
    refine R_aload_n (Dat dd_X_refusalOfCells 47 rfl) rfl rfl ?_
    refine R_iconst (Dat dd_X_refusalOfCells 48 rfl) ?_
    exact R_call1 (Dat dd_X_refusalOfCells 49 rfl) rfl S.t0 rfl rfl rfl rfl rfl T
theorem t_X_refusalOfCells_54 {h : Hp} {P : Value → Hp → Prop} {s0 : Int} {a0 a1 a2 a3 a4 a5 : Value} (S : XS h) (T : P (.int (I s0)) h) : R 8 54 [a0, a1, a2, a3, a4, a5] [.int (I s0)] h P := by
  exact R_ireturn (Dat dd_X_refusalOfCells 28 rfl) rfl T
theorem t_X_refusalOfCells_96 {h : Hp} {P : Value → Hp → Prop} {s0 : Int} {a0 a1 a2 a3 a4 a5 : Value} (S : XS h) (T : P (.int (I s0)) h) : R 8 96 [a0, a1, a2, a3, a4, a5] [.int (I s0)] h P := by
  refine R_goto (Dat dd_X_refusalOfCells 50 rfl) rfl ?_
  exact R_ireturn (Dat dd_X_refusalOfCells 52 rfl) rfl T
def dl_X_noSheet : List (Nat × Instr × Nat) := [(0, .iload_n 0, 1), (1, .ifCond .lt 8, 3), (4, .iload_n 0, 1), (5, .iconst 4, 1), (6, .if_icmp .lt 7, 3), (9, .iconst 1, 1), (10, .goto 4, 3), (13, .iconst 0, 1), (14, .ireturn, 1)]
theorem dd_X_noSheet : Dall 9 dl_X_noSheet = true := by decide +kernel
theorem t_X_noSheet {h : Hp} {P : Value → Hp → Prop} {p0 : Int} (T : (rng p0) ∧ ((p0 < 0 → P (.int (I 1)) h) ∧ (¬ p0 < 0 → (rng p0) ∧ ((p0 < 4 → P (.int (I 0)) h) ∧ (¬ p0 < 4 → P (.int (I 1)) h))))) : R 9 0 [.int (I p0)] [] h P := by
  refine R_iload_n (Dat dd_X_noSheet 0 rfl) rfl ?_
  obtain ⟨g1, T⟩ := T
  refine R_if_lt (Dat dd_X_noSheet 1 rfl) rfl g1  (fun c => ?_) (fun c => ?_)
  · replace T := T.1 c
    refine R_iconst (Dat dd_X_noSheet 5 rfl) ?_
    refine R_goto (Dat dd_X_noSheet 6 rfl) rfl ?_
    exact R_ireturn (Dat dd_X_noSheet 8 rfl) rfl T
  · replace T := T.2 c
    refine R_iload_n (Dat dd_X_noSheet 2 rfl) rfl ?_
    refine R_iconst (Dat dd_X_noSheet 3 rfl) ?_
    obtain ⟨g2, T⟩ := T
    refine R_ic_lt (Dat dd_X_noSheet 4 rfl) rfl g2 (by decide) (fun c => ?_) (fun c => ?_)
    · replace T := T.1 c
      refine R_iconst (Dat dd_X_noSheet 7 rfl) ?_
      exact R_ireturn (Dat dd_X_noSheet 8 rfl) rfl T
    · replace T := T.2 c
      refine R_iconst (Dat dd_X_noSheet 5 rfl) ?_
      refine R_goto (Dat dd_X_noSheet 6 rfl) rfl ?_
      exact R_ireturn (Dat dd_X_noSheet 8 rfl) rfl T
def dl_X_noSort : List (Nat × Instr × Nat) := [(0, .iload_n 0, 1), (1, .ifCond .lt 8, 3), (4, .iload_n 0, 1), (5, .iconst 3, 1), (6, .if_icmp .lt 7, 3), (9, .iconst 1, 1), (10, .goto 4, 3), (13, .iconst 0, 1), (14, .ireturn, 1)]
theorem dd_X_noSort : Dall 10 dl_X_noSort = true := by decide +kernel
theorem t_X_noSort {h : Hp} {P : Value → Hp → Prop} {p0 : Int} (T : (rng p0) ∧ ((p0 < 0 → P (.int (I 1)) h) ∧ (¬ p0 < 0 → (rng p0) ∧ ((p0 < 3 → P (.int (I 0)) h) ∧ (¬ p0 < 3 → P (.int (I 1)) h))))) : R 10 0 [.int (I p0)] [] h P := by
  refine R_iload_n (Dat dd_X_noSort 0 rfl) rfl ?_
  obtain ⟨g1, T⟩ := T
  refine R_if_lt (Dat dd_X_noSort 1 rfl) rfl g1  (fun c => ?_) (fun c => ?_)
  · replace T := T.1 c
    refine R_iconst (Dat dd_X_noSort 5 rfl) ?_
    refine R_goto (Dat dd_X_noSort 6 rfl) rfl ?_
    exact R_ireturn (Dat dd_X_noSort 8 rfl) rfl T
  · replace T := T.2 c
    refine R_iload_n (Dat dd_X_noSort 2 rfl) rfl ?_
    refine R_iconst (Dat dd_X_noSort 3 rfl) ?_
    obtain ⟨g2, T⟩ := T
    refine R_ic_lt (Dat dd_X_noSort 4 rfl) rfl g2 (by decide) (fun c => ?_) (fun c => ?_)
    · replace T := T.1 c
      refine R_iconst (Dat dd_X_noSort 7 rfl) ?_
      exact R_ireturn (Dat dd_X_noSort 8 rfl) rfl T
    · replace T := T.2 c
      refine R_iconst (Dat dd_X_noSort 5 rfl) ?_
      refine R_goto (Dat dd_X_noSort 6 rfl) rfl ?_
      exact R_ireturn (Dat dd_X_noSort 8 rfl) rfl T
def dl_X_faulted : List (Nat × Instr × Nat) := [(0, .aload_n 0, 1), (1, .iload_n 1, 1), (2, .putfield 266, 3), (5, .bipush (-10), 2), (7, .iload_n 1, 1), (8, .isub, 1), (9, .ireturn, 1)]
theorem dd_X_faulted : Dall 11 dl_X_faulted = true := by decide +kernel
theorem t_X_faulted {h : Hp} {P : Value → Hp → Prop} {p0 : Int} (S : XS h) (T : P (.int (I ((-10) - p0))) (setI h 0 11 (wr p0))) : R 11 0 [.ref 0, .int (I p0)] [] h P := by
  refine R_aload_n (Dat dd_X_faulted 0 rfl) rfl rfl ?_
  refine R_iload_n (Dat dd_X_faulted 1 rfl) rfl ?_
  refine R_puti (Dat dd_X_faulted 2 rfl) rfl rfl rfl (tok S.t0) rfl (v := wr p0) rfl ?_
  refine R_bipush (Dat dd_X_faulted 3 rfl) (a := (-10)) rfl ?_
  refine R_iload_n (Dat dd_X_faulted 4 rfl) rfl ?_
  refine R_isub (Dat dd_X_faulted 5 rfl) ?_
  exact R_ireturn (Dat dd_X_faulted 6 rfl) rfl T
def dl_Sheet_hasNot : List (Nat × Instr × Nat) := [(0, .iload_n 1, 1), (1, .ifCond .lt 21, 3), (4, .iload_n 1, 1), (5, .aload_n 0, 1), (6, .getfield 23, 3), (9, .if_icmp .gt 13, 3), (12, .iload_n 2, 1), (13, .aload_n 0, 1), (14, .getfield 23, 3), (17, .iload_n 1, 1), (18, .isub, 1), (19, .if_icmp .le 7, 3), (22, .iconst 1, 1), (23, .goto 4, 3), (26, .iconst 0, 1), (27, .ireturn, 1)]
theorem dd_Sheet_hasNot : Dall 12 dl_Sheet_hasNot = true := by decide +kernel
theorem t_Sheet_hasNot {h : Hp} {P : Value → Hp → Prop} {p0 p1 : Int} {r : Nat} (T : (rng p0) ∧ ((p0 < 0 → P (.int (I 1)) h) ∧ (¬ p0 < 0 → (tg h r = 10) ∧ (rng p0) ∧ (rng (iv h r 3)) ∧ (((iv h r 3) < p0 → P (.int (I 1)) h) ∧ (¬ (iv h r 3) < p0 → (tg h r = 10) ∧ (rng p1) ∧ (rng ((iv h r 3) - p0)) ∧ ((((iv h r 3) - p0) < p1 → P (.int (I 1)) h) ∧ (¬ ((iv h r 3) - p0) < p1 → P (.int (I 0)) h))))))) : R 12 0 [.ref r, .int (I p0), .int (I p1)] [] h P := by
  refine R_iload_n (Dat dd_Sheet_hasNot 0 rfl) rfl ?_
  obtain ⟨g1, T⟩ := T
  refine R_if_lt (Dat dd_Sheet_hasNot 1 rfl) rfl g1  (fun c => ?_) (fun c => ?_)
  · replace T := T.1 c
    refine R_iconst (Dat dd_Sheet_hasNot 12 rfl) ?_
    refine R_goto (Dat dd_Sheet_hasNot 13 rfl) rfl ?_
    exact R_ireturn (Dat dd_Sheet_hasNot 15 rfl) rfl T
  · replace T := T.2 c
    refine R_iload_n (Dat dd_Sheet_hasNot 2 rfl) rfl ?_
    refine R_aload_n (Dat dd_Sheet_hasNot 3 rfl) rfl rfl ?_
    obtain ⟨g2, T⟩ := T
    refine R_geti (Dat dd_Sheet_hasNot 4 rfl) rfl rfl (tok g2) ?_
    obtain ⟨g3, T⟩ := T
    obtain ⟨g4, T⟩ := T
    refine R_ic_gt (Dat dd_Sheet_hasNot 5 rfl) rfl g3 g4 (fun c => ?_) (fun c => ?_)
    · replace T := T.1 c
      refine R_iconst (Dat dd_Sheet_hasNot 12 rfl) ?_
      refine R_goto (Dat dd_Sheet_hasNot 13 rfl) rfl ?_
      exact R_ireturn (Dat dd_Sheet_hasNot 15 rfl) rfl T
    · replace T := T.2 c
      refine R_iload_n (Dat dd_Sheet_hasNot 6 rfl) rfl ?_
      refine R_aload_n (Dat dd_Sheet_hasNot 7 rfl) rfl rfl ?_
      obtain ⟨g5, T⟩ := T
      refine R_geti (Dat dd_Sheet_hasNot 8 rfl) rfl rfl (tok g5) ?_
      refine R_iload_n (Dat dd_Sheet_hasNot 9 rfl) rfl ?_
      refine R_isub (Dat dd_Sheet_hasNot 10 rfl) ?_
      obtain ⟨g6, T⟩ := T
      obtain ⟨g7, T⟩ := T
      refine R_ic_le (Dat dd_Sheet_hasNot 11 rfl) rfl g6 g7 (fun c => ?_) (fun c => ?_)
      · replace T := T.1 c
        refine R_iconst (Dat dd_Sheet_hasNot 12 rfl) ?_
        refine R_goto (Dat dd_Sheet_hasNot 13 rfl) rfl ?_
        exact R_ireturn (Dat dd_Sheet_hasNot 15 rfl) rfl T
      · replace T := T.2 c
        refine R_iconst (Dat dd_Sheet_hasNot 14 rfl) ?_
        exact R_ireturn (Dat dd_Sheet_hasNot 15 rfl) rfl T
def dl_X_wideEnough : List (Nat × Instr × Nat) := [(0, .aload_n 0, 1), (1, .arraylength, 1), (2, .iload_n 1, 1), (3, .if_icmp .ge 9, 3), (6, .iload_n 1, 1), (7, .newarray .int, 2), (9, .goto 4, 3), (12, .aload_n 0, 1), (13, .areturn, 1)]
theorem dd_X_wideEnough : Dall 23 dl_X_wideEnough = true := by decide +kernel
theorem t_X_wideEnough {h : Hp} {P : Value → Hp → Prop} {p1 : Int} {p0 : Nat} (T : ((20 ≤ tg h p0 ∧ tg h p0 ≤ 25) ∨ tg h p0 = 30) ∧ (rng (ln h p0 : Int)) ∧ (rng p1) ∧ (((ln h p0 : Int) < p1 → (tg h 38 = 0) ∧ (0 ≤ p1) ∧ (p1 < 1000000) ∧ P (.ref 38) (mk h 38 20 (p1).toNat (p1).toNat)) ∧ (¬ (ln h p0 : Int) < p1 → P (.ref p0) h))) : R 23 0 [.ref p0, .int (I p1)] [] h P := by
  refine R_aload_n (Dat dd_X_wideEnough 0 rfl) rfl rfl ?_
  obtain ⟨g1, T⟩ := T
  refine R_alen (Dat dd_X_wideEnough 1 rfl) g1 ?_
  refine R_iload_n (Dat dd_X_wideEnough 2 rfl) rfl ?_
  obtain ⟨g2, T⟩ := T
  obtain ⟨g3, T⟩ := T
  refine R_ic_ge (Dat dd_X_wideEnough 3 rfl) rfl g2 g3 (fun c => ?_) (fun c => ?_)
  · replace T := T.1 c
    refine R_iload_n (Dat dd_X_wideEnough 4 rfl) rfl ?_
    obtain ⟨g4, T⟩ := T
    obtain ⟨g5, T⟩ := T
    obtain ⟨g6, T⟩ := T
    refine R_newa (Dat dd_X_wideEnough 5 rfl) rfl (q := 38) rfl g4 (Or.inl (by decide)) g5 g6 ?_
    refine R_goto (Dat dd_X_wideEnough 6 rfl) rfl ?_
    exact R_areturn (Dat dd_X_wideEnough 8 rfl) rfl T
  · replace T := T.2 c
    refine R_aload_n (Dat dd_X_wideEnough 7 rfl) rfl rfl ?_
    exact R_areturn (Dat dd_X_wideEnough 8 rfl) rfl T
def dl_Arrays_fill : List (Nat × Instr × Nat) := [(0, .iconst 0, 1), (1, .istore_n 2, 1), (2, .aload_n 0, 1), (3, .arraylength, 1), (4, .istore_n 3, 1), (5, .iload_n 2, 1), (6, .iload_n 3, 1), (7, .if_icmp .ge 13, 3), (10, .aload_n 0, 1), (11, .iload_n 2, 1), (12, .iload_n 1, 1), (13, .iastore, 1), (14, .iinc 2 1, 3), (17, .goto (-12), 3), (20, .return_, 1)]
theorem dd_Arrays_fill : Dall 24 dl_Arrays_fill = true := by decide +kernel
theorem t_Arrays_fill {h : Hp} {P : Value → Hp → Prop} {p1 : Int} {p0 : Nat} (T : ((20 ≤ tg h p0 ∧ tg h p0 ≤ 25) ∨ tg h p0 = 30) ∧ R 24 5 [.ref p0, .int (I p1), .int (I 0), .int (I (ln h p0 : Int))] [] h P) : R 24 0 [.ref p0, .int (I p1), .retAddr 0, .retAddr 0] [] h P := by
  refine R_iconst (Dat dd_Arrays_fill 0 rfl) ?_
  refine R_istore_n (Dat dd_Arrays_fill 1 rfl) rfl rfl ?_
  refine R_aload_n (Dat dd_Arrays_fill 2 rfl) rfl rfl ?_
  obtain ⟨g1, T⟩ := T
  refine R_alen (Dat dd_Arrays_fill 3 rfl) g1 ?_
  refine R_istore_n (Dat dd_Arrays_fill 4 rfl) rfl rfl ?_
  exact T
theorem t_Arrays_fill_5 {h : Hp} {P : Value → Hp → Prop} {a1 a2 a3 : Int} {a0 : Nat} (T : (rng a2) ∧ (rng a3) ∧ ((a2 < a3 → (tg h a0 = 20) ∧ ((ln h a0 : Int) ≤ 2147483648) ∧ (0 ≤ a2) ∧ (a2 < ln h a0) ∧ R 24 5 [.ref a0, .int (I a1), .int (I (a2 + 1)), .int (I a3)] [] (setI h a0 a2 (wr a1)) P) ∧ (¬ a2 < a3 → P .null h))) : R 24 5 [.ref a0, .int (I a1), .int (I a2), .int (I a3)] [] h P := by
  refine R_iload_n (Dat dd_Arrays_fill 5 rfl) rfl ?_
  refine R_iload_n (Dat dd_Arrays_fill 6 rfl) rfl ?_
  obtain ⟨g1, T⟩ := T
  obtain ⟨g2, T⟩ := T
  refine R_ic_ge (Dat dd_Arrays_fill 7 rfl) rfl g1 g2 (fun c => ?_) (fun c => ?_)
  · replace T := T.1 c
    refine R_aload_n (Dat dd_Arrays_fill 8 rfl) rfl rfl ?_
    refine R_iload_n (Dat dd_Arrays_fill 9 rfl) rfl ?_
    refine R_iload_n (Dat dd_Arrays_fill 10 rfl) rfl ?_
    obtain ⟨g3, T⟩ := T
    obtain ⟨g4, T⟩ := T
    obtain ⟨g5, T⟩ := T
    obtain ⟨g6, T⟩ := T
    refine R_iastore (Dat dd_Arrays_fill 11 rfl) g3 g4 g5 g6 (v := wr a1) rfl ?_
    refine R_iinc (Dat dd_Arrays_fill 12 rfl) rfl rfl rfl ?_
    refine R_goto (Dat dd_Arrays_fill 13 rfl) rfl ?_
    exact T
  · replace T := T.2 c
    exact R_return (Dat dd_Arrays_fill 14 rfl) rfl T
def dl_X_widenRows : List (Nat × Instr × Nat) := [(0, .aload_n 0, 1), (1, .aload_n 0, 1), (2, .getfield 58, 3), (5, .aload_n 0, 1), (6, .getfield 12, 3), (9, .getfield 204, 3), (12, .invokestatic 324, 3), (15, .putfield 58, 3), (18, .aload_n 0, 1), (19, .aload_n 0, 1), (20, .getfield 61, 3), (23, .aload_n 0, 1), (24, .getfield 12, 3), (27, .getfield 204, 3), (30, .invokestatic 324, 3), (33, .putfield 61, 3), (36, .aload_n 0, 1), (37, .aload_n 0, 1), (38, .getfield 64, 3), (41, .aload_n 0, 1), (42, .getfield 12, 3), (45, .getfield 204, 3), (48, .invokestatic 324, 3), (51, .putfield 64, 3), (54, .aload_n 0, 1), (55, .getfield 54, 3), (58, .aload_n 0, 1), (59, .getfield 12, 3), (62, .getfield 204, 3), (65, .invokevirtual 328, 3), (68, .return_, 1)]
theorem dd_X_widenRows : Dall 25 dl_X_widenRows = true := by decide +kernel
theorem t_X_widenRows {h : Hp} {P : Value → Hp → Prop}  (S : XS h) (T : R 23 0 [.ref 24, .int (I (iv h 1 2))] [] h (fun v h2 => R 25 15 [.ref 0] (v :: [.ref 0]) h2 P)) : R 25 0 [.ref 0] [] h P := by
  refine R_aload_n (Dat dd_X_widenRows 0 rfl) rfl rfl ?_
  refine R_aload_n (Dat dd_X_widenRows 1 rfl) rfl rfl ?_
  refine R_getr (Dat dd_X_widenRows 2 rfl) rfl rfl (tok S.t0) S.f0_14 (q := 24) rfl (tnz S.t24) ?_
  refine R_aload_n (Dat dd_X_widenRows 3 rfl) rfl rfl ?_
  refine R_getr (Dat dd_X_widenRows 4 rfl) rfl rfl (tok S.t0) S.f0_0 (q := 1) rfl (tnz S.t1) ?_
  refine R_geti (Dat dd_X_widenRows 5 rfl) rfl rfl (tok S.t1) ?_
  exact R_call0 (Dat dd_X_widenRows 6 rfl) rfl rfl rfl rfl rfl rfl T
theorem t_X_widenRows_15 {h : Hp} {P : Value → Hp → Prop} {s0 : Nat} (S : XS h) (T : (s0 = 24 ∨ s0 = 38) ∧ ((s0 = 24 → (fl (setF h 0 14) 0 15 = true) ∧ (fl (setF h 0 14) 0 0 = true) ∧ R 23 0 [.ref 25, .int (I (iv (setF h 0 14) 1 2))] [] (setF h 0 14) (fun v h2 => R 25 33 [.ref 0] (v :: [.ref 0]) h2 P)) ∧ (s0 = 38 → (mv 25 && gw 24 && !gw 0 && decide (24 < 37 ∨ 38 < 24) && tg h 38 == 20 && ng [.ref 0] && ng []) = true ∧ 24 ≠ 38 ∧ (tg (mov h 0 14 24 38) 0 = 12) ∧ (fl (mov h 0 14 24 38) 0 15 = true) ∧ (tg (mov h 0 14 24 38) 25 ≠ 0) ∧ (tg (mov h 0 14 24 38) 0 = 12) ∧ (fl (mov h 0 14 24 38) 0 0 = true) ∧ (tg (mov h 0 14 24 38) 1 ≠ 0) ∧ (tg (mov h 0 14 24 38) 1 = 1) ∧ R 23 0 [.ref 25, .int (I (iv (mov h 0 14 24 38) 1 2))] [] (mov h 0 14 24 38) (fun v h2 => R 25 33 [.ref 0] (v :: [.ref 0]) h2 P)))) : R 25 15 [.ref 0] [.ref s0, .ref 0] h P := by
  obtain ⟨g1, T⟩ := T
  rcases g1 with e | e
  · replace T := T.1 e
    subst e
    refine R_putr (Dat dd_X_widenRows 7 rfl) rfl rfl rfl (tok S.t0) rfl ?_
    refine R_aload_n (Dat dd_X_widenRows 8 rfl) rfl rfl ?_
    refine R_aload_n (Dat dd_X_widenRows 9 rfl) rfl rfl ?_
    obtain ⟨g2, T⟩ := T
    refine R_getr (Dat dd_X_widenRows 10 rfl) rfl rfl (tok S.t0) g2 (q := 25) rfl (tnz S.t25) ?_
    refine R_aload_n (Dat dd_X_widenRows 11 rfl) rfl rfl ?_
    obtain ⟨g3, T⟩ := T
    refine R_getr (Dat dd_X_widenRows 12 rfl) rfl rfl (tok S.t0) g3 (q := 1) rfl (tnz S.t1) ?_
    refine R_geti (Dat dd_X_widenRows 13 rfl) rfl rfl (tok S.t1) ?_
    exact R_call0 (Dat dd_X_widenRows 14 rfl) rfl rfl rfl rfl rfl rfl T
  · replace T := T.2 e
    subst e
    obtain ⟨g4, g5, T⟩ := T
    refine R_putm (Dat dd_X_widenRows 7 rfl) rfl rfl rfl (tok S.t0) (q := 24) rfl g5 g4 ?_
    refine R_aload_n (Dat dd_X_widenRows 8 rfl) rfl rfl ?_
    refine R_aload_n (Dat dd_X_widenRows 9 rfl) rfl rfl ?_
    obtain ⟨g6, T⟩ := T
    obtain ⟨g7, T⟩ := T
    obtain ⟨g8, T⟩ := T
    refine R_getr (Dat dd_X_widenRows 10 rfl) rfl rfl (tok g6) g7 (q := 25) rfl g8 ?_
    refine R_aload_n (Dat dd_X_widenRows 11 rfl) rfl rfl ?_
    obtain ⟨g9, T⟩ := T
    obtain ⟨g10, T⟩ := T
    obtain ⟨g11, T⟩ := T
    refine R_getr (Dat dd_X_widenRows 12 rfl) rfl rfl (tok g9) g10 (q := 1) rfl g11 ?_
    obtain ⟨g12, T⟩ := T
    refine R_geti (Dat dd_X_widenRows 13 rfl) rfl rfl (tok g12) ?_
    exact R_call0 (Dat dd_X_widenRows 14 rfl) rfl rfl rfl rfl rfl rfl T
theorem t_X_widenRows_33 {h : Hp} {P : Value → Hp → Prop} {s0 : Nat} (S : XS h) (T : (s0 = 25 ∨ s0 = 38) ∧ ((s0 = 25 → (fl (setF h 0 15) 0 16 = true) ∧ (fl (setF h 0 15) 0 0 = true) ∧ R 23 0 [.ref 26, .int (I (iv (setF h 0 15) 1 2))] [] (setF h 0 15) (fun v h2 => R 25 51 [.ref 0] (v :: [.ref 0]) h2 P)) ∧ (s0 = 38 → (mv 25 && gw 25 && !gw 0 && decide (25 < 37 ∨ 38 < 25) && tg h 38 == 20 && ng [.ref 0] && ng []) = true ∧ 25 ≠ 38 ∧ (tg (mov h 0 15 25 38) 0 = 12) ∧ (fl (mov h 0 15 25 38) 0 16 = true) ∧ (tg (mov h 0 15 25 38) 26 ≠ 0) ∧ (tg (mov h 0 15 25 38) 0 = 12) ∧ (fl (mov h 0 15 25 38) 0 0 = true) ∧ (tg (mov h 0 15 25 38) 1 ≠ 0) ∧ (tg (mov h 0 15 25 38) 1 = 1) ∧ R 23 0 [.ref 26, .int (I (iv (mov h 0 15 25 38) 1 2))] [] (mov h 0 15 25 38) (fun v h2 => R 25 51 [.ref 0] (v :: [.ref 0]) h2 P)))) : R 25 33 [.ref 0] [.ref s0, .ref 0] h P := by
  obtain ⟨g1, T⟩ := T
  rcases g1 with e | e
  · replace T := T.1 e
    subst e
    refine R_putr (Dat dd_X_widenRows 15 rfl) rfl rfl rfl (tok S.t0) rfl ?_
    refine R_aload_n (Dat dd_X_widenRows 16 rfl) rfl rfl ?_
    refine R_aload_n (Dat dd_X_widenRows 17 rfl) rfl rfl ?_
    obtain ⟨g2, T⟩ := T
    refine R_getr (Dat dd_X_widenRows 18 rfl) rfl rfl (tok S.t0) g2 (q := 26) rfl (tnz S.t26) ?_
    refine R_aload_n (Dat dd_X_widenRows 19 rfl) rfl rfl ?_
    obtain ⟨g3, T⟩ := T
    refine R_getr (Dat dd_X_widenRows 20 rfl) rfl rfl (tok S.t0) g3 (q := 1) rfl (tnz S.t1) ?_
    refine R_geti (Dat dd_X_widenRows 21 rfl) rfl rfl (tok S.t1) ?_
    exact R_call0 (Dat dd_X_widenRows 22 rfl) rfl rfl rfl rfl rfl rfl T
  · replace T := T.2 e
    subst e
    obtain ⟨g4, g5, T⟩ := T
    refine R_putm (Dat dd_X_widenRows 15 rfl) rfl rfl rfl (tok S.t0) (q := 25) rfl g5 g4 ?_
    refine R_aload_n (Dat dd_X_widenRows 16 rfl) rfl rfl ?_
    refine R_aload_n (Dat dd_X_widenRows 17 rfl) rfl rfl ?_
    obtain ⟨g6, T⟩ := T
    obtain ⟨g7, T⟩ := T
    obtain ⟨g8, T⟩ := T
    refine R_getr (Dat dd_X_widenRows 18 rfl) rfl rfl (tok g6) g7 (q := 26) rfl g8 ?_
    refine R_aload_n (Dat dd_X_widenRows 19 rfl) rfl rfl ?_
    obtain ⟨g9, T⟩ := T
    obtain ⟨g10, T⟩ := T
    obtain ⟨g11, T⟩ := T
    refine R_getr (Dat dd_X_widenRows 20 rfl) rfl rfl (tok g9) g10 (q := 1) rfl g11 ?_
    obtain ⟨g12, T⟩ := T
    refine R_geti (Dat dd_X_widenRows 21 rfl) rfl rfl (tok g12) ?_
    exact R_call0 (Dat dd_X_widenRows 22 rfl) rfl rfl rfl rfl rfl rfl T
theorem t_X_widenRows_51 {h : Hp} {P : Value → Hp → Prop} {s0 : Nat} (S : XS h) (T : (s0 = 26 ∨ s0 = 38) ∧ ((s0 = 26 → (fl (setF h 0 16) 0 13 = true) ∧ (fl (setF h 0 16) 0 0 = true) ∧ R 26 0 [.ref 19, .int (I (iv (setF h 0 16) 1 2))] [] (setF h 0 16) (fun _ h2 => R 25 68 [.ref 0] [] h2 P)) ∧ (s0 = 38 → (mv 25 && gw 26 && !gw 0 && decide (26 < 37 ∨ 38 < 26) && tg h 38 == 20 && ng [.ref 0] && ng []) = true ∧ 26 ≠ 38 ∧ (tg (mov h 0 16 26 38) 0 = 12) ∧ (fl (mov h 0 16 26 38) 0 13 = true) ∧ (tg (mov h 0 16 26 38) 19 ≠ 0) ∧ (tg (mov h 0 16 26 38) 0 = 12) ∧ (fl (mov h 0 16 26 38) 0 0 = true) ∧ (tg (mov h 0 16 26 38) 1 ≠ 0) ∧ (tg (mov h 0 16 26 38) 1 = 1) ∧ (tg (mov h 0 16 26 38) 19 = 9) ∧ R 26 0 [.ref 19, .int (I (iv (mov h 0 16 26 38) 1 2))] [] (mov h 0 16 26 38) (fun _ h2 => R 25 68 [.ref 0] [] h2 P)))) : R 25 51 [.ref 0] [.ref s0, .ref 0] h P := by
  obtain ⟨g1, T⟩ := T
  rcases g1 with e | e
  · replace T := T.1 e
    subst e
    refine R_putr (Dat dd_X_widenRows 23 rfl) rfl rfl rfl (tok S.t0) rfl ?_
    refine R_aload_n (Dat dd_X_widenRows 24 rfl) rfl rfl ?_
    obtain ⟨g2, T⟩ := T
    refine R_getr (Dat dd_X_widenRows 25 rfl) rfl rfl (tok S.t0) g2 (q := 19) rfl (tnz S.t19) ?_
    refine R_aload_n (Dat dd_X_widenRows 26 rfl) rfl rfl ?_
    obtain ⟨g3, T⟩ := T
    refine R_getr (Dat dd_X_widenRows 27 rfl) rfl rfl (tok S.t0) g3 (q := 1) rfl (tnz S.t1) ?_
    refine R_geti (Dat dd_X_widenRows 28 rfl) rfl rfl (tok S.t1) ?_
    exact R_call1 (Dat dd_X_widenRows 29 rfl) rfl S.t19 rfl rfl rfl rfl rfl T
  · replace T := T.2 e
    subst e
    obtain ⟨g4, g5, T⟩ := T
    refine R_putm (Dat dd_X_widenRows 23 rfl) rfl rfl rfl (tok S.t0) (q := 26) rfl g5 g4 ?_
    refine R_aload_n (Dat dd_X_widenRows 24 rfl) rfl rfl ?_
    obtain ⟨g6, T⟩ := T
    obtain ⟨g7, T⟩ := T
    obtain ⟨g8, T⟩ := T
    refine R_getr (Dat dd_X_widenRows 25 rfl) rfl rfl (tok g6) g7 (q := 19) rfl g8 ?_
    refine R_aload_n (Dat dd_X_widenRows 26 rfl) rfl rfl ?_
    obtain ⟨g9, T⟩ := T
    obtain ⟨g10, T⟩ := T
    obtain ⟨g11, T⟩ := T
    refine R_getr (Dat dd_X_widenRows 27 rfl) rfl rfl (tok g9) g10 (q := 1) rfl g11 ?_
    obtain ⟨g12, T⟩ := T
    refine R_geti (Dat dd_X_widenRows 28 rfl) rfl rfl (tok g12) ?_
    obtain ⟨g13, T⟩ := T
    exact R_call1 (Dat dd_X_widenRows 29 rfl) rfl g13 rfl rfl rfl rfl rfl T
theorem t_X_widenRows_68 {h : Hp} {P : Value → Hp → Prop} {a0 : Value} (S : XS h) (T : P .null h) : R 25 68 [a0] [] h P := by
  exact R_return (Dat dd_X_widenRows 30 rfl) rfl T
def dl_Search_widen : List (Nat × Instr × Nat) := [(0, .aload_n 0, 1), (1, .aload_n 0, 1), (2, .getfield 9, 3), (5, .iload_n 1, 1), (6, .invokestatic 24, 3), (9, .putfield 9, 3), (12, .aload_n 0, 1), (13, .aload_n 0, 1), (14, .getfield 15, 3), (17, .iload_n 1, 1), (18, .invokestatic 24, 3), (21, .putfield 15, 3), (24, .aload_n 0, 1), (25, .aload_n 0, 1), (26, .getfield 18, 3), (29, .iload_n 1, 1), (30, .invokestatic 24, 3), (33, .putfield 18, 3), (36, .aload_n 0, 1), (37, .aload_n 0, 1), (38, .getfield 21, 3), (41, .iload_n 1, 1), (42, .invokestatic 24, 3), (45, .putfield 21, 3), (48, .return_, 1)]
theorem dd_Search_widen : Dall 26 dl_Search_widen = true := by decide +kernel
theorem t_Search_widen {h : Hp} {P : Value → Hp → Prop} {p0 : Int} (S : XS h) (T : R 23 0 [.ref 20, .int (I p0)] [] h (fun v h2 => R 26 9 [.ref 19, .int (I p0)] (v :: [.ref 19]) h2 P)) : R 26 0 [.ref 19, .int (I p0)] [] h P := by
  refine R_aload_n (Dat dd_Search_widen 0 rfl) rfl rfl ?_
  refine R_aload_n (Dat dd_Search_widen 1 rfl) rfl rfl ?_
  refine R_getr (Dat dd_Search_widen 2 rfl) rfl rfl (tok S.t19) S.f19_0 (q := 20) rfl (tnz S.t20) ?_
  refine R_iload_n (Dat dd_Search_widen 3 rfl) rfl ?_
  exact R_call3 (Dat dd_Search_widen 4 rfl) rfl rfl rfl rfl rfl rfl T
theorem t_Search_widen_9 {h : Hp} {P : Value → Hp → Prop} {a1 : Int} {s0 : Nat} (S : XS h) (T : (s0 = 20 ∨ s0 = 38) ∧ ((s0 = 20 → (fl (setF h 19 0) 19 1 = true) ∧ R 23 0 [.ref 21, .int (I a1)] [] (setF h 19 0) (fun v h2 => R 26 21 [.ref 19, .int (I a1)] (v :: [.ref 19]) h2 P)) ∧ (s0 = 38 → (mv 26 && gw 20 && !gw 19 && decide (20 < 37 ∨ 38 < 20) && tg h 38 == 20 && ng [.ref 19, .int (I a1)] && ng []) = true ∧ 20 ≠ 38 ∧ (tg (mov h 19 0 20 38) 19 = 9) ∧ (fl (mov h 19 0 20 38) 19 1 = true) ∧ (tg (mov h 19 0 20 38) 21 ≠ 0) ∧ R 23 0 [.ref 21, .int (I a1)] [] (mov h 19 0 20 38) (fun v h2 => R 26 21 [.ref 19, .int (I a1)] (v :: [.ref 19]) h2 P)))) : R 26 9 [.ref 19, .int (I a1)] [.ref s0, .ref 19] h P := by
  obtain ⟨g1, T⟩ := T
  rcases g1 with e | e
  · replace T := T.1 e
    subst e
    refine R_putr (Dat dd_Search_widen 5 rfl) rfl rfl rfl (tok S.t19) rfl ?_
    refine R_aload_n (Dat dd_Search_widen 6 rfl) rfl rfl ?_
    refine R_aload_n (Dat dd_Search_widen 7 rfl) rfl rfl ?_
    obtain ⟨g2, T⟩ := T
    refine R_getr (Dat dd_Search_widen 8 rfl) rfl rfl (tok S.t19) g2 (q := 21) rfl (tnz S.t21) ?_
    refine R_iload_n (Dat dd_Search_widen 9 rfl) rfl ?_
    exact R_call3 (Dat dd_Search_widen 10 rfl) rfl rfl rfl rfl rfl rfl T
  · replace T := T.2 e
    subst e
    obtain ⟨g3, g4, T⟩ := T
    refine R_putm (Dat dd_Search_widen 5 rfl) rfl rfl rfl (tok S.t19) (q := 20) rfl g4 g3 ?_
    refine R_aload_n (Dat dd_Search_widen 6 rfl) rfl rfl ?_
    refine R_aload_n (Dat dd_Search_widen 7 rfl) rfl rfl ?_
    obtain ⟨g5, T⟩ := T
    obtain ⟨g6, T⟩ := T
    obtain ⟨g7, T⟩ := T
    refine R_getr (Dat dd_Search_widen 8 rfl) rfl rfl (tok g5) g6 (q := 21) rfl g7 ?_
    refine R_iload_n (Dat dd_Search_widen 9 rfl) rfl ?_
    exact R_call3 (Dat dd_Search_widen 10 rfl) rfl rfl rfl rfl rfl rfl T
theorem t_Search_widen_21 {h : Hp} {P : Value → Hp → Prop} {a1 : Int} {s0 : Nat} (S : XS h) (T : (s0 = 21 ∨ s0 = 38) ∧ ((s0 = 21 → (fl (setF h 19 1) 19 2 = true) ∧ R 23 0 [.ref 22, .int (I a1)] [] (setF h 19 1) (fun v h2 => R 26 33 [.ref 19, .int (I a1)] (v :: [.ref 19]) h2 P)) ∧ (s0 = 38 → (mv 26 && gw 21 && !gw 19 && decide (21 < 37 ∨ 38 < 21) && tg h 38 == 20 && ng [.ref 19, .int (I a1)] && ng []) = true ∧ 21 ≠ 38 ∧ (tg (mov h 19 1 21 38) 19 = 9) ∧ (fl (mov h 19 1 21 38) 19 2 = true) ∧ (tg (mov h 19 1 21 38) 22 ≠ 0) ∧ R 23 0 [.ref 22, .int (I a1)] [] (mov h 19 1 21 38) (fun v h2 => R 26 33 [.ref 19, .int (I a1)] (v :: [.ref 19]) h2 P)))) : R 26 21 [.ref 19, .int (I a1)] [.ref s0, .ref 19] h P := by
  obtain ⟨g1, T⟩ := T
  rcases g1 with e | e
  · replace T := T.1 e
    subst e
    refine R_putr (Dat dd_Search_widen 11 rfl) rfl rfl rfl (tok S.t19) rfl ?_
    refine R_aload_n (Dat dd_Search_widen 12 rfl) rfl rfl ?_
    refine R_aload_n (Dat dd_Search_widen 13 rfl) rfl rfl ?_
    obtain ⟨g2, T⟩ := T
    refine R_getr (Dat dd_Search_widen 14 rfl) rfl rfl (tok S.t19) g2 (q := 22) rfl (tnz S.t22) ?_
    refine R_iload_n (Dat dd_Search_widen 15 rfl) rfl ?_
    exact R_call3 (Dat dd_Search_widen 16 rfl) rfl rfl rfl rfl rfl rfl T
  · replace T := T.2 e
    subst e
    obtain ⟨g3, g4, T⟩ := T
    refine R_putm (Dat dd_Search_widen 11 rfl) rfl rfl rfl (tok S.t19) (q := 21) rfl g4 g3 ?_
    refine R_aload_n (Dat dd_Search_widen 12 rfl) rfl rfl ?_
    refine R_aload_n (Dat dd_Search_widen 13 rfl) rfl rfl ?_
    obtain ⟨g5, T⟩ := T
    obtain ⟨g6, T⟩ := T
    obtain ⟨g7, T⟩ := T
    refine R_getr (Dat dd_Search_widen 14 rfl) rfl rfl (tok g5) g6 (q := 22) rfl g7 ?_
    refine R_iload_n (Dat dd_Search_widen 15 rfl) rfl ?_
    exact R_call3 (Dat dd_Search_widen 16 rfl) rfl rfl rfl rfl rfl rfl T
theorem t_Search_widen_33 {h : Hp} {P : Value → Hp → Prop} {a1 : Int} {s0 : Nat} (S : XS h) (T : (s0 = 22 ∨ s0 = 38) ∧ ((s0 = 22 → (fl (setF h 19 2) 19 3 = true) ∧ R 23 0 [.ref 23, .int (I a1)] [] (setF h 19 2) (fun v h2 => R 26 45 [.ref 19, .int (I a1)] (v :: [.ref 19]) h2 P)) ∧ (s0 = 38 → (mv 26 && gw 22 && !gw 19 && decide (22 < 37 ∨ 38 < 22) && tg h 38 == 20 && ng [.ref 19, .int (I a1)] && ng []) = true ∧ 22 ≠ 38 ∧ (tg (mov h 19 2 22 38) 19 = 9) ∧ (fl (mov h 19 2 22 38) 19 3 = true) ∧ (tg (mov h 19 2 22 38) 23 ≠ 0) ∧ R 23 0 [.ref 23, .int (I a1)] [] (mov h 19 2 22 38) (fun v h2 => R 26 45 [.ref 19, .int (I a1)] (v :: [.ref 19]) h2 P)))) : R 26 33 [.ref 19, .int (I a1)] [.ref s0, .ref 19] h P := by
  obtain ⟨g1, T⟩ := T
  rcases g1 with e | e
  · replace T := T.1 e
    subst e
    refine R_putr (Dat dd_Search_widen 17 rfl) rfl rfl rfl (tok S.t19) rfl ?_
    refine R_aload_n (Dat dd_Search_widen 18 rfl) rfl rfl ?_
    refine R_aload_n (Dat dd_Search_widen 19 rfl) rfl rfl ?_
    obtain ⟨g2, T⟩ := T
    refine R_getr (Dat dd_Search_widen 20 rfl) rfl rfl (tok S.t19) g2 (q := 23) rfl (tnz S.t23) ?_
    refine R_iload_n (Dat dd_Search_widen 21 rfl) rfl ?_
    exact R_call3 (Dat dd_Search_widen 22 rfl) rfl rfl rfl rfl rfl rfl T
  · replace T := T.2 e
    subst e
    obtain ⟨g3, g4, T⟩ := T
    refine R_putm (Dat dd_Search_widen 17 rfl) rfl rfl rfl (tok S.t19) (q := 22) rfl g4 g3 ?_
    refine R_aload_n (Dat dd_Search_widen 18 rfl) rfl rfl ?_
    refine R_aload_n (Dat dd_Search_widen 19 rfl) rfl rfl ?_
    obtain ⟨g5, T⟩ := T
    obtain ⟨g6, T⟩ := T
    obtain ⟨g7, T⟩ := T
    refine R_getr (Dat dd_Search_widen 20 rfl) rfl rfl (tok g5) g6 (q := 23) rfl g7 ?_
    refine R_iload_n (Dat dd_Search_widen 21 rfl) rfl ?_
    exact R_call3 (Dat dd_Search_widen 22 rfl) rfl rfl rfl rfl rfl rfl T
theorem t_Search_widen_45 {h : Hp} {P : Value → Hp → Prop} {s0 : Nat} {a0 a1 : Value} (S : XS h) (T : (s0 = 23 ∨ s0 = 38) ∧ ((s0 = 23 → P .null (setF h 19 3)) ∧ (s0 = 38 → (mv 26 && gw 23 && !gw 19 && decide (23 < 37 ∨ 38 < 23) && tg h 38 == 20 && ng [a0, a1] && ng []) = true ∧ 23 ≠ 38 ∧ P .null (mov h 19 3 23 38)))) : R 26 45 [a0, a1] [.ref s0, .ref 19] h P := by
  obtain ⟨g1, T⟩ := T
  rcases g1 with e | e
  · replace T := T.1 e
    subst e
    refine R_putr (Dat dd_Search_widen 23 rfl) rfl rfl rfl (tok S.t19) rfl ?_
    exact R_return (Dat dd_Search_widen 24 rfl) rfl T
  · replace T := T.2 e
    subst e
    obtain ⟨g2, g3, T⟩ := T
    refine R_putm (Dat dd_Search_widen 23 rfl) rfl rfl rfl (tok S.t19) (q := 23) rfl g3 g2 ?_
    exact R_return (Dat dd_Search_widen 24 rfl) rfl T
def dl_X_ofGrain : List (Nat × Instr × Nat) := [(0, .aload_n 0, 1), (1, .iload_n 1, 1), (2, .invokevirtual 99, 3), (5, .ifCond .eq 5, 3), (8, .iconst (-1), 1), (9, .ireturn, 1), (10, .aload_n 0, 1), (11, .getfield 12, 3), (14, .getfield 103, 3), (17, .iload_n 1, 1), (18, .aaload, 1), (19, .astore_n 3, 1), (20, .iload_n 2, 1), (21, .tableswitch 84 0 5 #[39, 44, 49, 54, 59, 64], 39), (60, .aload_n 3, 1), (61, .getfield 107, 3), (64, .ireturn, 1), (65, .aload_n 3, 1), (66, .getfield 112, 3), (69, .ireturn, 1), (70, .aload_n 3, 1), (71, .getfield 115, 3), (74, .ireturn, 1), (75, .aload_n 3, 1), (76, .getfield 118, 3), (79, .ireturn, 1), (80, .aload_n 3, 1), (81, .getfield 121, 3), (84, .ireturn, 1), (85, .aload_n 0, 1), (86, .getfield 12, 3), (89, .iload_n 1, 1), (90, .aload_n 0, 1), (91, .getfield 12, 3), (94, .aload_n 0, 1), (95, .getfield 86, 3), (98, .invokevirtual 124, 3), (101, .invokevirtual 128, 3), (104, .ireturn, 1), (105, .bipush (-2), 2), (107, .ireturn, 1)]
theorem dd_X_ofGrain : Dall 27 dl_X_ofGrain = true := by decide +kernel
theorem t_X_ofGrain {h : Hp} {P : Value → Hp → Prop} {p0 p1 : Int} (S : XS h) (T : R 28 0 [.ref 0, .int (I p0)] [] h (fun v h2 => R 27 5 [.ref 0, .int (I p0), .int (I p1), .retAddr 0] (v :: []) h2 P)) : R 27 0 [.ref 0, .int (I p0), .int (I p1), .retAddr 0] [] h P := by
  refine R_aload_n (Dat dd_X_ofGrain 0 rfl) rfl rfl ?_
  refine R_iload_n (Dat dd_X_ofGrain 1 rfl) rfl ?_
  exact R_call1 (Dat dd_X_ofGrain 2 rfl) rfl S.t0 rfl rfl rfl rfl rfl T
theorem t_X_ofGrain_5 {h : Hp} {P : Value → Hp → Prop} {a1 a2 s0 : Int} {a3 : Value} (S : XS h) (T : (rng s0) ∧ ((s0 = 0 → (0 ≤ a1) ∧ (a1 < 7) ∧ (fl h 2 (a1).toNat = true) ∧ (tg h (child 2 (a1).toNat) ≠ 0) ∧ (rng a2) ∧ (((a2 = 0 → (tagok 2 (tg h (child 2 (a1).toNat)) = true) ∧ P (.int (I (iv h (child 2 (a1).toNat) 1))) h) ∧ (a2 = 1 → (tagok 2 (tg h (child 2 (a1).toNat)) = true) ∧ P (.int (I (iv h (child 2 (a1).toNat) 2))) h) ∧ (a2 = 2 → (tagok 2 (tg h (child 2 (a1).toNat)) = true) ∧ P (.int (I (iv h (child 2 (a1).toNat) 3))) h) ∧ (a2 = 3 → (tagok 2 (tg h (child 2 (a1).toNat)) = true) ∧ P (.int (I (iv h (child 2 (a1).toNat) 4))) h) ∧ (a2 = 4 → (tagok 2 (tg h (child 2 (a1).toNat)) = true) ∧ P (.int (I (iv h (child 2 (a1).toNat) 5))) h) ∧ (a2 = 5 → R 29 0 [.ref 1, .int (I (iv h 0 4))] [] h (fun v h2 => R 27 101 [.ref 0, .int (I a1), .int (I a2), .ref (child 2 (a1).toNat)] (v :: [.int (I a1), .ref 1]) h2 P))) ∧ (a2 < 0 ∨ 5 < a2 → P (.int (I (-2))) h))) ∧ (¬ s0 = 0 → P (.int (I (-1))) h))) : R 27 5 [.ref 0, .int (I a1), .int (I a2), a3] [.int (I s0)] h P := by
  obtain ⟨g1, T⟩ := T
  refine R_if_eq (Dat dd_X_ofGrain 3 rfl) rfl g1  (fun c => ?_) (fun c => ?_)
  · replace T := T.1 c
    refine R_aload_n (Dat dd_X_ofGrain 6 rfl) rfl rfl ?_
    refine R_getr (Dat dd_X_ofGrain 7 rfl) rfl rfl (tok S.t0) S.f0_0 (q := 1) rfl (tnz S.t1) ?_
    refine R_getr (Dat dd_X_ofGrain 8 rfl) rfl rfl (tok S.t1) S.f1_0 (q := 2) rfl (tnz S.t2) ?_
    refine R_iload_n (Dat dd_X_ofGrain 9 rfl) rfl ?_
    obtain ⟨g2, T⟩ := T
    obtain ⟨g3, T⟩ := T
    obtain ⟨g4, T⟩ := T
    obtain ⟨g5, T⟩ := T
    refine R_aaload (Dat dd_X_ofGrain 10 rfl) (by rw [show tg h 2 = 21 from S.t2]; decide) (lnle (show ln h 2 = 7 from S.l2) (by decide)) g2 (lnlt (show ln h 2 = 7 from S.l2) g3) g4 rfl g5 ?_
    refine R_astore_n (Dat dd_X_ofGrain 11 rfl) rfl rfl rfl ?_
    refine R_iload_n (Dat dd_X_ofGrain 12 rfl) rfl ?_
    obtain ⟨g6, T⟩ := T
    refine R_tsw (lo := 0) (hi := 5) (Dat dd_X_ofGrain 13 rfl) (td := 105) (ts := [60, 65, 70, 75, 80, 85]) g6 rfl rfl rfl rfl (fun i hi hc => ?_) (fun c => ?_)
    · obtain ⟨T, -⟩ := T
      have hi : i < 6 := hi
      rcases (show i = 0 ∨ i = 1 ∨ i = 2 ∨ i = 3 ∨ i = 4 ∨ i = 5 by omega) with rfl | rfl | rfl | rfl | rfl | rfl
      · replace T := T.1 (by exact hc)
        refine R_aload_n (Dat dd_X_ofGrain 14 rfl) rfl rfl ?_
        obtain ⟨g7, T⟩ := T
        refine R_geti (Dat dd_X_ofGrain 15 rfl) rfl rfl g7 ?_
        exact R_ireturn (Dat dd_X_ofGrain 16 rfl) rfl T
      · replace T := T.2.1 (by exact hc)
        refine R_aload_n (Dat dd_X_ofGrain 17 rfl) rfl rfl ?_
        obtain ⟨g8, T⟩ := T
        refine R_geti (Dat dd_X_ofGrain 18 rfl) rfl rfl g8 ?_
        exact R_ireturn (Dat dd_X_ofGrain 19 rfl) rfl T
      · replace T := T.2.2.1 (by exact hc)
        refine R_aload_n (Dat dd_X_ofGrain 20 rfl) rfl rfl ?_
        obtain ⟨g9, T⟩ := T
        refine R_geti (Dat dd_X_ofGrain 21 rfl) rfl rfl g9 ?_
        exact R_ireturn (Dat dd_X_ofGrain 22 rfl) rfl T
      · replace T := T.2.2.2.1 (by exact hc)
        refine R_aload_n (Dat dd_X_ofGrain 23 rfl) rfl rfl ?_
        obtain ⟨g10, T⟩ := T
        refine R_geti (Dat dd_X_ofGrain 24 rfl) rfl rfl g10 ?_
        exact R_ireturn (Dat dd_X_ofGrain 25 rfl) rfl T
      · replace T := T.2.2.2.2.1 (by exact hc)
        refine R_aload_n (Dat dd_X_ofGrain 26 rfl) rfl rfl ?_
        obtain ⟨g11, T⟩ := T
        refine R_geti (Dat dd_X_ofGrain 27 rfl) rfl rfl g11 ?_
        exact R_ireturn (Dat dd_X_ofGrain 28 rfl) rfl T
      · replace T := T.2.2.2.2.2 (by exact hc)
        refine R_aload_n (Dat dd_X_ofGrain 29 rfl) rfl rfl ?_
        refine R_getr (Dat dd_X_ofGrain 30 rfl) rfl rfl (tok S.t0) S.f0_0 (q := 1) rfl (tnz S.t1) ?_
        refine R_iload_n (Dat dd_X_ofGrain 31 rfl) rfl ?_
        refine R_aload_n (Dat dd_X_ofGrain 32 rfl) rfl rfl ?_
        refine R_getr (Dat dd_X_ofGrain 33 rfl) rfl rfl (tok S.t0) S.f0_0 (q := 1) rfl (tnz S.t1) ?_
        refine R_aload_n (Dat dd_X_ofGrain 34 rfl) rfl rfl ?_
        refine R_geti (Dat dd_X_ofGrain 35 rfl) rfl rfl (tok S.t0) ?_
        exact R_call1 (Dat dd_X_ofGrain 36 rfl) rfl S.t1 rfl rfl rfl rfl rfl T
    · replace T := T.2 c
      refine R_bipush (Dat dd_X_ofGrain 39 rfl) (a := (-2)) rfl ?_
      exact R_ireturn (Dat dd_X_ofGrain 40 rfl) rfl T
  · replace T := T.2 c
    refine R_iconst (Dat dd_X_ofGrain 4 rfl) ?_
    exact R_ireturn (Dat dd_X_ofGrain 5 rfl) rfl T
theorem t_X_ofGrain_101 {h : Hp} {P : Value → Hp → Prop} {s0 s1 : Int} {a0 a1 a2 a3 : Value} (S : XS h) (T : R 31 0 [.ref 1, .int (I s1), .int (I s0), .retAddr 0] [] h (fun v h2 => R 27 104 [a0, a1, a2, a3] (v :: []) h2 P)) : R 27 101 [a0, a1, a2, a3] [.int (I s0), .int (I s1), .ref 1] h P := by
  exact R_call1 (Dat dd_X_ofGrain 37 rfl) rfl S.t1 rfl rfl rfl rfl rfl T
theorem t_X_ofGrain_104 {h : Hp} {P : Value → Hp → Prop} {s0 : Int} {a0 a1 a2 a3 : Value} (S : XS h) (T : P (.int (I s0)) h) : R 27 104 [a0, a1, a2, a3] [.int (I s0)] h P := by
  exact R_ireturn (Dat dd_X_ofGrain 38 rfl) rfl T
def dl_X_noGrain : List (Nat × Instr × Nat) := [(0, .iload_n 1, 1), (1, .ifCond .lt 14, 3), (4, .iload_n 1, 1), (5, .aload_n 0, 1), (6, .getfield 12, 3), (9, .getfield 96, 3), (12, .if_icmp .lt 7, 3), (15, .iconst 1, 1), (16, .goto 4, 3), (19, .iconst 0, 1), (20, .ireturn, 1)]
theorem dd_X_noGrain : Dall 28 dl_X_noGrain = true := by decide +kernel
theorem t_X_noGrain {h : Hp} {P : Value → Hp → Prop} {p0 : Int} (S : XS h) (T : (rng p0) ∧ ((p0 < 0 → P (.int (I 1)) h) ∧ (¬ p0 < 0 → (rng p0) ∧ (rng (iv h 1 1)) ∧ ((p0 < (iv h 1 1) → P (.int (I 0)) h) ∧ (¬ p0 < (iv h 1 1) → P (.int (I 1)) h))))) : R 28 0 [.ref 0, .int (I p0)] [] h P := by
  refine R_iload_n (Dat dd_X_noGrain 0 rfl) rfl ?_
  obtain ⟨g1, T⟩ := T
  refine R_if_lt (Dat dd_X_noGrain 1 rfl) rfl g1  (fun c => ?_) (fun c => ?_)
  · replace T := T.1 c
    refine R_iconst (Dat dd_X_noGrain 7 rfl) ?_
    refine R_goto (Dat dd_X_noGrain 8 rfl) rfl ?_
    exact R_ireturn (Dat dd_X_noGrain 10 rfl) rfl T
  · replace T := T.2 c
    refine R_iload_n (Dat dd_X_noGrain 2 rfl) rfl ?_
    refine R_aload_n (Dat dd_X_noGrain 3 rfl) rfl rfl ?_
    refine R_getr (Dat dd_X_noGrain 4 rfl) rfl rfl (tok S.t0) S.f0_0 (q := 1) rfl (tnz S.t1) ?_
    refine R_geti (Dat dd_X_noGrain 5 rfl) rfl rfl (tok S.t1) ?_
    obtain ⟨g2, T⟩ := T
    obtain ⟨g3, T⟩ := T
    refine R_ic_lt (Dat dd_X_noGrain 6 rfl) rfl g2 g3 (fun c => ?_) (fun c => ?_)
    · replace T := T.1 c
      refine R_iconst (Dat dd_X_noGrain 9 rfl) ?_
      exact R_ireturn (Dat dd_X_noGrain 10 rfl) rfl T
    · replace T := T.2 c
      refine R_iconst (Dat dd_X_noGrain 7 rfl) ?_
      refine R_goto (Dat dd_X_noGrain 8 rfl) rfl ?_
      exact R_ireturn (Dat dd_X_noGrain 10 rfl) rfl T
def dl_X_at : List (Nat × Instr × Nat) := [(0, .aload_n 0, 1), (1, .iload_n 1, 1), (2, .invokevirtual 132, 3), (5, .ifCond .eq 7, 3), (8, .iconst (-1), 1), (9, .goto 18, 3), (12, .aload_n 0, 1), (13, .getfield 12, 3), (16, .aload_n 0, 1), (17, .getfield 86, 3), (20, .invokevirtual 124, 3), (23, .iload_n 1, 1), (24, .invokestatic 135, 3), (27, .ireturn, 1)]
theorem dd_X_at : Dall 33 dl_X_at = true := by decide +kernel
theorem t_X_at {h : Hp} {P : Value → Hp → Prop} {p0 : Int} (S : XS h) (T : R 34 0 [.ref 0, .int (I p0)] [] h (fun v h2 => R 33 5 [.ref 0, .int (I p0)] (v :: []) h2 P)) : R 33 0 [.ref 0, .int (I p0)] [] h P := by
  refine R_aload_n (Dat dd_X_at 0 rfl) rfl rfl ?_
  refine R_iload_n (Dat dd_X_at 1 rfl) rfl ?_
  exact R_call1 (Dat dd_X_at 2 rfl) rfl S.t0 rfl rfl rfl rfl rfl T
theorem t_X_at_5 {h : Hp} {P : Value → Hp → Prop} {a1 s0 : Int} (S : XS h) (T : (rng s0) ∧ ((s0 = 0 → R 29 0 [.ref 1, .int (I (iv h 0 4))] [] h (fun v h2 => R 33 23 [.ref 0, .int (I a1)] (v :: []) h2 P)) ∧ (¬ s0 = 0 → P (.int (I (-1))) h))) : R 33 5 [.ref 0, .int (I a1)] [.int (I s0)] h P := by
  obtain ⟨g1, T⟩ := T
  refine R_if_eq (Dat dd_X_at 3 rfl) rfl g1  (fun c => ?_) (fun c => ?_)
  · replace T := T.1 c
    refine R_aload_n (Dat dd_X_at 6 rfl) rfl rfl ?_
    refine R_getr (Dat dd_X_at 7 rfl) rfl rfl (tok S.t0) S.f0_0 (q := 1) rfl (tnz S.t1) ?_
    refine R_aload_n (Dat dd_X_at 8 rfl) rfl rfl ?_
    refine R_geti (Dat dd_X_at 9 rfl) rfl rfl (tok S.t0) ?_
    exact R_call1 (Dat dd_X_at 10 rfl) rfl S.t1 rfl rfl rfl rfl rfl T
  · replace T := T.2 c
    refine R_iconst (Dat dd_X_at 4 rfl) ?_
    refine R_goto (Dat dd_X_at 5 rfl) rfl ?_
    exact R_ireturn (Dat dd_X_at 13 rfl) rfl T
theorem t_X_at_23 {h : Hp} {P : Value → Hp → Prop} {a1 s0 : Int} {a0 : Value} (S : XS h) (T : R 32 0 [.int (I s0), .int (I a1)] [] h (fun v h2 => R 33 27 [a0, .int (I a1)] (v :: []) h2 P)) : R 33 23 [a0, .int (I a1)] [.int (I s0)] h P := by
  refine R_iload_n (Dat dd_X_at 11 rfl) rfl ?_
  exact R_call0 (Dat dd_X_at 12 rfl) rfl rfl rfl rfl rfl rfl T
theorem t_X_at_27 {h : Hp} {P : Value → Hp → Prop} {s0 : Int} {a0 a1 : Value} (S : XS h) (T : P (.int (I s0)) h) : R 33 27 [a0, a1] [.int (I s0)] h P := by
  exact R_ireturn (Dat dd_X_at 13 rfl) rfl T
def dl_X_noPlace : List (Nat × Instr × Nat) := [(0, .iload_n 1, 1), (1, .ifCond .lt 14, 3), (4, .iload_n 1, 1), (5, .aload_n 0, 1), (6, .getfield 12, 3), (9, .getfield 96, 3), (12, .if_icmp .lt 7, 3), (15, .iconst 1, 1), (16, .goto 4, 3), (19, .iconst 0, 1), (20, .ireturn, 1)]
theorem dd_X_noPlace : Dall 34 dl_X_noPlace = true := by decide +kernel
theorem t_X_noPlace {h : Hp} {P : Value → Hp → Prop} {p0 : Int} (S : XS h) (T : (rng p0) ∧ ((p0 < 0 → P (.int (I 1)) h) ∧ (¬ p0 < 0 → (rng p0) ∧ (rng (iv h 1 1)) ∧ ((p0 < (iv h 1 1) → P (.int (I 0)) h) ∧ (¬ p0 < (iv h 1 1) → P (.int (I 1)) h))))) : R 34 0 [.ref 0, .int (I p0)] [] h P := by
  refine R_iload_n (Dat dd_X_noPlace 0 rfl) rfl ?_
  obtain ⟨g1, T⟩ := T
  refine R_if_lt (Dat dd_X_noPlace 1 rfl) rfl g1  (fun c => ?_) (fun c => ?_)
  · replace T := T.1 c
    refine R_iconst (Dat dd_X_noPlace 7 rfl) ?_
    refine R_goto (Dat dd_X_noPlace 8 rfl) rfl ?_
    exact R_ireturn (Dat dd_X_noPlace 10 rfl) rfl T
  · replace T := T.2 c
    refine R_iload_n (Dat dd_X_noPlace 2 rfl) rfl ?_
    refine R_aload_n (Dat dd_X_noPlace 3 rfl) rfl rfl ?_
    refine R_getr (Dat dd_X_noPlace 4 rfl) rfl rfl (tok S.t0) S.f0_0 (q := 1) rfl (tnz S.t1) ?_
    refine R_geti (Dat dd_X_noPlace 5 rfl) rfl rfl (tok S.t1) ?_
    obtain ⟨g2, T⟩ := T
    obtain ⟨g3, T⟩ := T
    refine R_ic_lt (Dat dd_X_noPlace 6 rfl) rfl g2 g3 (fun c => ?_) (fun c => ?_)
    · replace T := T.1 c
      refine R_iconst (Dat dd_X_noPlace 9 rfl) ?_
      exact R_ireturn (Dat dd_X_noPlace 10 rfl) rfl T
    · replace T := T.2 c
      refine R_iconst (Dat dd_X_noPlace 7 rfl) ?_
      refine R_goto (Dat dd_X_noPlace 8 rfl) rfl ?_
      exact R_ireturn (Dat dd_X_noPlace 10 rfl) rfl T
def dl_X_lie : List (Nat × Instr × Nat) := [(0, .aload_n 0, 1), (1, .invokevirtual 138, 3), (4, .ifCond .eq 8, 3), (7, .bipush (-3), 2), (9, .goto 7, 3), (12, .aload_n 0, 1), (13, .getfield 86, 3), (16, .ireturn, 1)]
theorem dd_X_lie : Dall 35 dl_X_lie = true := by decide +kernel
theorem t_X_lie {h : Hp} {P : Value → Hp → Prop}  (S : XS h) (T : R 36 0 [.ref 0] [] h (fun v h2 => R 35 4 [.ref 0] (v :: []) h2 P)) : R 35 0 [.ref 0] [] h P := by
  refine R_aload_n (Dat dd_X_lie 0 rfl) rfl rfl ?_
  exact R_call1 (Dat dd_X_lie 1 rfl) rfl S.t0 rfl rfl rfl rfl rfl T
theorem t_X_lie_4 {h : Hp} {P : Value → Hp → Prop} {s0 : Int} (S : XS h) (T : (rng s0) ∧ ((s0 = 0 → P (.int (I (iv h 0 4))) h) ∧ (¬ s0 = 0 → P (.int (I (-3))) h))) : R 35 4 [.ref 0] [.int (I s0)] h P := by
  obtain ⟨g1, T⟩ := T
  refine R_if_eq (Dat dd_X_lie 2 rfl) rfl g1  (fun c => ?_) (fun c => ?_)
  · replace T := T.1 c
    refine R_aload_n (Dat dd_X_lie 5 rfl) rfl rfl ?_
    refine R_geti (Dat dd_X_lie 6 rfl) rfl rfl (tok S.t0) ?_
    exact R_ireturn (Dat dd_X_lie 7 rfl) rfl T
  · replace T := T.2 c
    refine R_bipush (Dat dd_X_lie 3 rfl) (a := (-3)) rfl ?_
    refine R_goto (Dat dd_X_lie 4 rfl) rfl ?_
    exact R_ireturn (Dat dd_X_lie 7 rfl) rfl T
def dl_X_noBox : List (Nat × Instr × Nat) := [(0, .aload_n 0, 1), (1, .getfield 12, 3), (4, .getfield 96, 3), (7, .ifCond .ne 7, 3), (10, .iconst 1, 1), (11, .goto 4, 3), (14, .iconst 0, 1), (15, .ireturn, 1)]
theorem dd_X_noBox : Dall 36 dl_X_noBox = true := by decide +kernel
theorem t_X_noBox {h : Hp} {P : Value → Hp → Prop}  (S : XS h) (T : (rng (iv h 1 1)) ∧ (((iv h 1 1) = 0 → P (.int (I 1)) h) ∧ (¬ (iv h 1 1) = 0 → P (.int (I 0)) h))) : R 36 0 [.ref 0] [] h P := by
  refine R_aload_n (Dat dd_X_noBox 0 rfl) rfl rfl ?_
  refine R_getr (Dat dd_X_noBox 1 rfl) rfl rfl (tok S.t0) S.f0_0 (q := 1) rfl (tnz S.t1) ?_
  refine R_geti (Dat dd_X_noBox 2 rfl) rfl rfl (tok S.t1) ?_
  obtain ⟨g1, T⟩ := T
  refine R_if_ne (Dat dd_X_noBox 3 rfl) rfl g1  (fun c => ?_) (fun c => ?_)
  · replace T := T.1 c
    refine R_iconst (Dat dd_X_noBox 4 rfl) ?_
    refine R_goto (Dat dd_X_noBox 5 rfl) rfl ?_
    exact R_ireturn (Dat dd_X_noBox 7 rfl) rfl T
  · replace T := T.2 c
    refine R_iconst (Dat dd_X_noBox 6 rfl) ?_
    exact R_ireturn (Dat dd_X_noBox 7 rfl) rfl T
def dl_X_lay : List (Nat × Instr × Nat) := [(0, .aload_n 0, 1), (1, .iload_n 1, 1), (2, .invokevirtual 142, 3), (5, .ifCond .eq 5, 3), (8, .iconst (-1), 1), (9, .ireturn, 1), (10, .aload_n 0, 1), (11, .getfield 86, 3), (14, .istore_n 2, 1), (15, .aload_n 0, 1), (16, .iload_n 1, 1), (17, .putfield 86, 3), (20, .iload_n 2, 1), (21, .ireturn, 1)]
theorem dd_X_lay : Dall 37 dl_X_lay = true := by decide +kernel
theorem t_X_lay {h : Hp} {P : Value → Hp → Prop} {p0 : Int} (S : XS h) (T : R 38 0 [.ref 0, .int (I p0)] [] h (fun v h2 => R 37 5 [.ref 0, .int (I p0), .retAddr 0] (v :: []) h2 P)) : R 37 0 [.ref 0, .int (I p0), .retAddr 0] [] h P := by
  refine R_aload_n (Dat dd_X_lay 0 rfl) rfl rfl ?_
  refine R_iload_n (Dat dd_X_lay 1 rfl) rfl ?_
  exact R_call1 (Dat dd_X_lay 2 rfl) rfl S.t0 rfl rfl rfl rfl rfl T
theorem t_X_lay_5 {h : Hp} {P : Value → Hp → Prop} {a1 s0 : Int} {a2 : Value} (S : XS h) (T : (rng s0) ∧ ((s0 = 0 → P (.int (I (iv h 0 4))) (setI h 0 4 (wr a1))) ∧ (¬ s0 = 0 → P (.int (I (-1))) h))) : R 37 5 [.ref 0, .int (I a1), a2] [.int (I s0)] h P := by
  obtain ⟨g1, T⟩ := T
  refine R_if_eq (Dat dd_X_lay 3 rfl) rfl g1  (fun c => ?_) (fun c => ?_)
  · replace T := T.1 c
    refine R_aload_n (Dat dd_X_lay 6 rfl) rfl rfl ?_
    refine R_geti (Dat dd_X_lay 7 rfl) rfl rfl (tok S.t0) ?_
    refine R_istore_n (Dat dd_X_lay 8 rfl) rfl rfl ?_
    refine R_aload_n (Dat dd_X_lay 9 rfl) rfl rfl ?_
    refine R_iload_n (Dat dd_X_lay 10 rfl) rfl ?_
    refine R_puti (Dat dd_X_lay 11 rfl) rfl rfl rfl (tok S.t0) rfl (v := wr a1) rfl ?_
    refine R_iload_n (Dat dd_X_lay 12 rfl) rfl ?_
    exact R_ireturn (Dat dd_X_lay 13 rfl) rfl T
  · replace T := T.2 c
    refine R_iconst (Dat dd_X_lay 4 rfl) ?_
    exact R_ireturn (Dat dd_X_lay 5 rfl) rfl T
def dl_X_noLie : List (Nat × Instr × Nat) := [(0, .iload_n 1, 1), (1, .ifCond .lt 14, 3), (4, .iload_n 1, 1), (5, .aload_n 0, 1), (6, .getfield 12, 3), (9, .getfield 204, 3), (12, .if_icmp .lt 7, 3), (15, .iconst 1, 1), (16, .goto 4, 3), (19, .iconst 0, 1), (20, .ireturn, 1)]
theorem dd_X_noLie : Dall 38 dl_X_noLie = true := by decide +kernel
theorem t_X_noLie {h : Hp} {P : Value → Hp → Prop} {p0 : Int} (S : XS h) (T : (rng p0) ∧ ((p0 < 0 → P (.int (I 1)) h) ∧ (¬ p0 < 0 → (rng p0) ∧ (rng (iv h 1 2)) ∧ ((p0 < (iv h 1 2) → P (.int (I 0)) h) ∧ (¬ p0 < (iv h 1 2) → P (.int (I 1)) h))))) : R 38 0 [.ref 0, .int (I p0)] [] h P := by
  refine R_iload_n (Dat dd_X_noLie 0 rfl) rfl ?_
  obtain ⟨g1, T⟩ := T
  refine R_if_lt (Dat dd_X_noLie 1 rfl) rfl g1  (fun c => ?_) (fun c => ?_)
  · replace T := T.1 c
    refine R_iconst (Dat dd_X_noLie 7 rfl) ?_
    refine R_goto (Dat dd_X_noLie 8 rfl) rfl ?_
    exact R_ireturn (Dat dd_X_noLie 10 rfl) rfl T
  · replace T := T.2 c
    refine R_iload_n (Dat dd_X_noLie 2 rfl) rfl ?_
    refine R_aload_n (Dat dd_X_noLie 3 rfl) rfl rfl ?_
    refine R_getr (Dat dd_X_noLie 4 rfl) rfl rfl (tok S.t0) S.f0_0 (q := 1) rfl (tnz S.t1) ?_
    refine R_geti (Dat dd_X_noLie 5 rfl) rfl rfl (tok S.t1) ?_
    obtain ⟨g2, T⟩ := T
    obtain ⟨g3, T⟩ := T
    refine R_ic_lt (Dat dd_X_noLie 6 rfl) rfl g2 g3 (fun c => ?_) (fun c => ?_)
    · replace T := T.1 c
      refine R_iconst (Dat dd_X_noLie 9 rfl) ?_
      exact R_ireturn (Dat dd_X_noLie 10 rfl) rfl T
    · replace T := T.2 c
      refine R_iconst (Dat dd_X_noLie 7 rfl) ?_
      refine R_goto (Dat dd_X_noLie 8 rfl) rfl ?_
      exact R_ireturn (Dat dd_X_noLie 10 rfl) rfl T
def dl_X_of : List (Nat × Instr × Nat) := [(0, .aload_n 0, 1), (1, .iload_n 1, 1), (2, .invokevirtual 142, 3), (5, .ifCond .ne 11, 3), (8, .aload_n 0, 1), (9, .iload_n 2, 1), (10, .invokevirtual 132, 3), (13, .ifCond .eq 7, 3), (16, .iconst (-1), 1), (17, .goto 15, 3), (20, .aload_n 0, 1), (21, .getfield 12, 3), (24, .iload_n 1, 1), (25, .invokevirtual 124, 3), (28, .iload_n 2, 1), (29, .invokestatic 135, 3), (32, .ireturn, 1)]
theorem dd_X_of : Dall 39 dl_X_of = true := by decide +kernel
theorem t_X_of {h : Hp} {P : Value → Hp → Prop} {p0 p1 : Int} (S : XS h) (T : R 38 0 [.ref 0, .int (I p0)] [] h (fun v h2 => R 39 5 [.ref 0, .int (I p0), .int (I p1)] (v :: []) h2 P)) : R 39 0 [.ref 0, .int (I p0), .int (I p1)] [] h P := by
  refine R_aload_n (Dat dd_X_of 0 rfl) rfl rfl ?_
  refine R_iload_n (Dat dd_X_of 1 rfl) rfl ?_
  exact R_call1 (Dat dd_X_of 2 rfl) rfl S.t0 rfl rfl rfl rfl rfl T
theorem t_X_of_5 {h : Hp} {P : Value → Hp → Prop} {a1 a2 s0 : Int} (S : XS h) (T : (rng s0) ∧ ((s0 = 0 → R 34 0 [.ref 0, .int (I a2)] [] h (fun v h2 => R 39 13 [.ref 0, .int (I a1), .int (I a2)] (v :: []) h2 P)) ∧ (¬ s0 = 0 → P (.int (I (-1))) h))) : R 39 5 [.ref 0, .int (I a1), .int (I a2)] [.int (I s0)] h P := by
  obtain ⟨g1, T⟩ := T
  refine R_if_ne (Dat dd_X_of 3 rfl) rfl g1  (fun c => ?_) (fun c => ?_)
  · replace T := T.1 c
    refine R_aload_n (Dat dd_X_of 4 rfl) rfl rfl ?_
    refine R_iload_n (Dat dd_X_of 5 rfl) rfl ?_
    exact R_call1 (Dat dd_X_of 6 rfl) rfl S.t0 rfl rfl rfl rfl rfl T
  · replace T := T.2 c
    refine R_iconst (Dat dd_X_of 8 rfl) ?_
    refine R_goto (Dat dd_X_of 9 rfl) rfl ?_
    exact R_ireturn (Dat dd_X_of 16 rfl) rfl T
theorem t_X_of_13 {h : Hp} {P : Value → Hp → Prop} {a1 a2 s0 : Int} (S : XS h) (T : (rng s0) ∧ ((s0 = 0 → R 29 0 [.ref 1, .int (I a1)] [] h (fun v h2 => R 39 28 [.ref 0, .int (I a1), .int (I a2)] (v :: []) h2 P)) ∧ (¬ s0 = 0 → P (.int (I (-1))) h))) : R 39 13 [.ref 0, .int (I a1), .int (I a2)] [.int (I s0)] h P := by
  obtain ⟨g1, T⟩ := T
  refine R_if_eq (Dat dd_X_of 7 rfl) rfl g1  (fun c => ?_) (fun c => ?_)
  · replace T := T.1 c
    refine R_aload_n (Dat dd_X_of 10 rfl) rfl rfl ?_
    refine R_getr (Dat dd_X_of 11 rfl) rfl rfl (tok S.t0) S.f0_0 (q := 1) rfl (tnz S.t1) ?_
    refine R_iload_n (Dat dd_X_of 12 rfl) rfl ?_
    exact R_call1 (Dat dd_X_of 13 rfl) rfl S.t1 rfl rfl rfl rfl rfl T
  · replace T := T.2 c
    refine R_iconst (Dat dd_X_of 8 rfl) ?_
    refine R_goto (Dat dd_X_of 9 rfl) rfl ?_
    exact R_ireturn (Dat dd_X_of 16 rfl) rfl T
theorem t_X_of_28 {h : Hp} {P : Value → Hp → Prop} {a2 s0 : Int} {a0 a1 : Value} (S : XS h) (T : R 32 0 [.int (I s0), .int (I a2)] [] h (fun v h2 => R 39 32 [a0, a1, .int (I a2)] (v :: []) h2 P)) : R 39 28 [a0, a1, .int (I a2)] [.int (I s0)] h P := by
  refine R_iload_n (Dat dd_X_of 14 rfl) rfl ?_
  exact R_call0 (Dat dd_X_of 15 rfl) rfl rfl rfl rfl rfl rfl T
theorem t_X_of_32 {h : Hp} {P : Value → Hp → Prop} {s0 : Int} {a0 a1 a2 : Value} (S : XS h) (T : P (.int (I s0)) h) : R 39 32 [a0, a1, a2] [.int (I s0)] h P := by
  exact R_ireturn (Dat dd_X_of 16 rfl) rfl T
def dl_X_law : List (Nat × Instr × Nat) := [(0, .aload_n 0, 1), (1, .iload_n 1, 1), (2, .iload_n 2, 1), (3, .iload_n 3, 1), (4, .iload 4, 2), (6, .invokevirtual 68, 3), (9, .istore 5, 2), (11, .iload 5, 2), (13, .ifCond .eq 6, 3), (16, .iload 5, 2), (18, .ireturn, 1), (19, .aload_n 0, 1), (20, .getfield 33, 3), (23, .iload_n 1, 1), (24, .aaload, 1), (25, .getfield 72, 3), (28, .astore 6, 2), (30, .aload 6, 2), (32, .iload_n 3, 1), (33, .iload 4, 2), (35, .invokestatic 145, 3), (38, .istore 7, 2), (40, .iload 7, 2), (42, .iconst (-1), 1), (43, .if_icmp .eq 9, 3), (46, .bipush (-100), 2), (48, .iload 7, 2), (50, .isub, 1), (51, .ireturn, 1), (52, .aload_n 0, 1), (53, .getfield 146, 3), (56, .iconst 4, 1), (57, .if_icmp .lt 6, 3), (60, .bipush (-4), 2), (62, .ireturn, 1), (63, .aload_n 0, 1), (64, .getfield 20, 3), (67, .aload_n 0, 1), (68, .getfield 146, 3), (71, .new 18, 3), (74, .dup, 1), (75, .aload 6, 2), (77, .iload_n 3, 1), (78, .iload 4, 2), (80, .invokespecial 149, 3), (83, .aastore, 1), (84, .aload_n 0, 1), (85, .dup, 1), (86, .getfield 146, 3), (89, .iconst 1, 1), (90, .iadd, 1), (91, .putfield 146, 3), (94, .aload_n 0, 1), (95, .getfield 146, 3), (98, .iconst 1, 1), (99, .isub, 1), (100, .ireturn, 1)]
theorem dd_X_law : Dall 40 dl_X_law = true := by decide +kernel
theorem t_X_law {h : Hp} {P : Value → Hp → Prop} {p0 p1 p2 p3 : Int} (S : XS h) (T : R 8 0 [.ref 0, .int (I p0), .int (I p1), .int (I p2), .int (I p3), .retAddr 0] [] h (fun v h2 => R 40 9 [.ref 0, .int (I p0), .int (I p1), .int (I p2), .int (I p3), .retAddr 0, .retAddr 0, .retAddr 0] (v :: []) h2 P)) : R 40 0 [.ref 0, .int (I p0), .int (I p1), .int (I p2), .int (I p3), .retAddr 0, .retAddr 0, .retAddr 0] [] h P := by
  refine R_aload_n (Dat dd_X_law 0 rfl) rfl rfl ?_
  refine R_iload_n (Dat dd_X_law 1 rfl) rfl ?_
  refine R_iload_n (Dat dd_X_law 2 rfl) rfl ?_
  refine R_iload_n (Dat dd_X_law 3 rfl) rfl ?_
  refine R_iload (Dat dd_X_law 4 rfl) rfl ?_
  exact R_call1 (Dat dd_X_law 5 rfl) rfl S.t0 rfl rfl rfl rfl rfl T
theorem t_X_law_9 {h : Hp} {P : Value → Hp → Prop} {a1 a3 a4 s0 : Int} {a2 a5 a6 a7 : Value} (S : XS h) (T : (rng s0) ∧ ((s0 = 0 → (0 ≤ a1) ∧ (a1 < 4) ∧ (fl h 7 (a1).toNat = true) ∧ (tg h (child 7 (a1).toNat) ≠ 0) ∧ (tg h (child 7 (a1).toNat) = 10) ∧ (fl h (child 7 (a1).toNat) 0 = true) ∧ (tg h (child (child 7 (a1).toNat) 0) ≠ 0) ∧ R 41 0 [.ref (child (child 7 (a1).toNat) 0), .int (I a3), .int (I a4), .retAddr 0] [] h (fun v h2 => R 40 38 [.ref 0, .int (I a1), a2, .int (I a3), .int (I a4), .int (I s0), .ref (child (child 7 (a1).toNat) 0), a7] (v :: []) h2 P)) ∧ (¬ s0 = 0 → P (.int (I s0)) h))) : R 40 9 [.ref 0, .int (I a1), a2, .int (I a3), .int (I a4), a5, a6, a7] [.int (I s0)] h P := by
  refine R_istore (Dat dd_X_law 6 rfl) rfl rfl ?_
  refine R_iload (Dat dd_X_law 7 rfl) rfl ?_
  obtain ⟨g1, T⟩ := T
  refine R_if_eq (Dat dd_X_law 8 rfl) rfl g1  (fun c => ?_) (fun c => ?_)
  · replace T := T.1 c
    refine R_aload_n (Dat dd_X_law 11 rfl) rfl rfl ?_
    refine R_getr (Dat dd_X_law 12 rfl) rfl rfl (tok S.t0) S.f0_9 (q := 7) rfl (tnz S.t7) ?_
    refine R_iload_n (Dat dd_X_law 13 rfl) rfl ?_
    obtain ⟨g2, T⟩ := T
    obtain ⟨g3, T⟩ := T
    obtain ⟨g4, T⟩ := T
    obtain ⟨g5, T⟩ := T
    refine R_aaload (Dat dd_X_law 14 rfl) (by rw [show tg h 7 = 23 from S.t7]; decide) (lnle (show ln h 7 = 4 from S.l7) (by decide)) g2 (lnlt (show ln h 7 = 4 from S.l7) g3) g4 rfl g5 ?_
    obtain ⟨g6, T⟩ := T
    obtain ⟨g7, T⟩ := T
    obtain ⟨g8, T⟩ := T
    refine R_getr (Dat dd_X_law 15 rfl) rfl rfl (tok g6) g7 (q := child (child 7 (a1).toNat) 0) rfl g8 ?_
    refine R_astore (Dat dd_X_law 16 rfl) rfl rfl rfl ?_
    refine R_aload (Dat dd_X_law 17 rfl) rfl rfl ?_
    refine R_iload_n (Dat dd_X_law 18 rfl) rfl ?_
    refine R_iload (Dat dd_X_law 19 rfl) rfl ?_
    exact R_call0 (Dat dd_X_law 20 rfl) rfl rfl rfl rfl rfl rfl T
  · replace T := T.2 c
    refine R_iload (Dat dd_X_law 9 rfl) rfl ?_
    exact R_ireturn (Dat dd_X_law 10 rfl) rfl T
theorem t_X_law_38 {h : Hp} {P : Value → Hp → Prop} {a3 a4 s0 : Int} {a6 : Nat} {a1 a2 a5 a7 : Value} (S : XS h) (T : (rng s0) ∧ ((s0 = (-1) → (rng (iv h 0 2)) ∧ (((iv h 0 2) < 4 → (tg h (64 * ((iv h 0 2).toNat + 1)) = 0) ∧ ((64 * ((iv h 0 2).toNat + 1)) < 500) ∧ (okg 40 44 [.ref 0, a1, a2, .int (I a3), .int (I a4), a5, .ref a6, .int (I s0)] [.ref (64 * ((iv h 0 2).toNat + 1)), .int (I (iv h 0 2)), .ref 4] [.ref (64 * ((iv h 0 2).toNat + 1)), .ref a6, .int (I a3), .int (I a4)] = true) ∧ R 44 0 [.ref (64 * ((iv h 0 2).toNat + 1)), .ref a6, .int (I a3), .int (I a4), .retAddr 0, .retAddr 0] [] (mk h (64 * ((iv h 0 2).toNat + 1)) 4 0 2) (fun _ h2 => R 40 83 [.ref 0, a1, a2, .int (I a3), .int (I a4), a5, .ref a6, .int (I s0)] [.ref (64 * ((iv h 0 2).toNat + 1)), .int (I (iv h 0 2)), .ref 4] h2 P)) ∧ (¬ (iv h 0 2) < 4 → P (.int (I (-4))) h))) ∧ (¬ s0 = (-1) → P (.int (I ((-100) - s0))) h))) : R 40 38 [.ref 0, a1, a2, .int (I a3), .int (I a4), a5, .ref a6, a7] [.int (I s0)] h P := by
  refine R_istore (Dat dd_X_law 21 rfl) rfl rfl ?_
  refine R_iload (Dat dd_X_law 22 rfl) rfl ?_
  refine R_iconst (Dat dd_X_law 23 rfl) ?_
  obtain ⟨g1, T⟩ := T
  refine R_ic_eq (Dat dd_X_law 24 rfl) rfl g1 (by decide) (fun c => ?_) (fun c => ?_)
  · replace T := T.1 c
    refine R_aload_n (Dat dd_X_law 29 rfl) rfl rfl ?_
    refine R_geti (Dat dd_X_law 30 rfl) rfl rfl (tok S.t0) ?_
    refine R_iconst (Dat dd_X_law 31 rfl) ?_
    obtain ⟨g2, T⟩ := T
    refine R_ic_lt (Dat dd_X_law 32 rfl) rfl g2 (by decide) (fun c => ?_) (fun c => ?_)
    · replace T := T.1 c
      refine R_aload_n (Dat dd_X_law 35 rfl) rfl rfl ?_
      refine R_getr (Dat dd_X_law 36 rfl) rfl rfl (tok S.t0) S.f0_1 (q := 4) rfl (tnz S.t4) ?_
      refine R_aload_n (Dat dd_X_law 37 rfl) rfl rfl ?_
      refine R_geti (Dat dd_X_law 38 rfl) rfl rfl (tok S.t0) ?_
      obtain ⟨g3, T⟩ := T
      obtain ⟨g4, T⟩ := T
      refine R_new (Dat dd_X_law 39 rfl) (ci := 3) rfl rfl (q := 64 * ((iv h 0 2).toNat + 1)) rfl g3 (Or.inl g4) ?_
      refine R_dup (Dat dd_X_law 40 rfl) rfl ?_
      refine R_aload (Dat dd_X_law 41 rfl) rfl rfl ?_
      refine R_iload_n (Dat dd_X_law 42 rfl) rfl ?_
      refine R_iload (Dat dd_X_law 43 rfl) rfl ?_
      obtain ⟨g5, T⟩ := T
      exact R_call2 (Dat dd_X_law 44 rfl) rfl rfl rfl rfl g5 rfl T
    · replace T := T.2 c
      refine R_bipush (Dat dd_X_law 33 rfl) (a := (-4)) rfl ?_
      exact R_ireturn (Dat dd_X_law 34 rfl) rfl T
  · replace T := T.2 c
    refine R_bipush (Dat dd_X_law 25 rfl) (a := (-100)) rfl ?_
    refine R_iload (Dat dd_X_law 26 rfl) rfl ?_
    refine R_isub (Dat dd_X_law 27 rfl) ?_
    exact R_ireturn (Dat dd_X_law 28 rfl) rfl T
theorem t_X_law_83 {h : Hp} {P : Value → Hp → Prop} {s1 : Int} {s0 : Nat} {a1 a2 a3 a4 a5 a6 a7 : Value} (S : XS h) (T : (elok (tg h 4) (tg h s0) = true) ∧ ((ln h 4 : Int) ≤ 2147483648) ∧ (0 ≤ s1) ∧ (s1 < ln h 4) ∧ (child 4 (s1).toNat = s0) ∧ P (.int (I ((iv (setI (setF h 4 (s1).toNat) 0 2 (wr ((iv (setF h 4 (s1).toNat) 0 2) + 1))) 0 2) - 1))) (setI (setF h 4 (s1).toNat) 0 2 (wr ((iv (setF h 4 (s1).toNat) 0 2) + 1)))) : R 40 83 [.ref 0, a1, a2, a3, a4, a5, a6, a7] [.ref s0, .int (I s1), .ref 4] h P := by
  obtain ⟨g1, T⟩ := T
  obtain ⟨g2, T⟩ := T
  obtain ⟨g3, T⟩ := T
  obtain ⟨g4, T⟩ := T
  obtain ⟨g5, T⟩ := T
  refine R_aastore (Dat dd_X_law 45 rfl) g1 g2 g3 g4 g5 ?_
  refine R_aload_n (Dat dd_X_law 46 rfl) rfl rfl ?_
  refine R_dup (Dat dd_X_law 47 rfl) rfl ?_
  refine R_geti (Dat dd_X_law 48 rfl) rfl rfl (tok S.t0) ?_
  refine R_iconst (Dat dd_X_law 49 rfl) ?_
  refine R_iadd (Dat dd_X_law 50 rfl) ?_
  refine R_puti (Dat dd_X_law 51 rfl) rfl rfl rfl (tok S.t0) rfl (v := wr ((iv (setF h 4 (s1).toNat) 0 2) + 1)) rfl ?_
  refine R_aload_n (Dat dd_X_law 52 rfl) rfl rfl ?_
  refine R_geti (Dat dd_X_law 53 rfl) rfl rfl (tok S.t0) ?_
  refine R_iconst (Dat dd_X_law 54 rfl) ?_
  refine R_isub (Dat dd_X_law 55 rfl) ?_
  exact R_ireturn (Dat dd_X_law 56 rfl) rfl T
def dl_X_use : List (Nat × Instr × Nat) := [(0, .iload_n 1, 1), (1, .ifCond .lt 11, 3), (4, .iload_n 1, 1), (5, .aload_n 0, 1), (6, .getfield 146, 3), (9, .if_icmp .lt 5, 3), (12, .iconst (-1), 1), (13, .ireturn, 1), (14, .aload_n 0, 1), (15, .getfield 166, 3), (18, .istore_n 2, 1), (19, .aload_n 0, 1), (20, .iload_n 1, 1), (21, .putfield 166, 3), (24, .iload_n 2, 1), (25, .ireturn, 1)]
theorem dd_X_use : Dall 47 dl_X_use = true := by decide +kernel
theorem t_X_use {h : Hp} {P : Value → Hp → Prop} {p0 : Int} (S : XS h) (T : (rng p0) ∧ ((p0 < 0 → P (.int (I (-1))) h) ∧ (¬ p0 < 0 → (rng p0) ∧ (rng (iv h 0 2)) ∧ ((p0 < (iv h 0 2) → P (.int (I (iv h 0 3))) (setI h 0 3 (wr p0))) ∧ (¬ p0 < (iv h 0 2) → P (.int (I (-1))) h))))) : R 47 0 [.ref 0, .int (I p0), .retAddr 0] [] h P := by
  refine R_iload_n (Dat dd_X_use 0 rfl) rfl ?_
  obtain ⟨g1, T⟩ := T
  refine R_if_lt (Dat dd_X_use 1 rfl) rfl g1  (fun c => ?_) (fun c => ?_)
  · replace T := T.1 c
    refine R_iconst (Dat dd_X_use 6 rfl) ?_
    exact R_ireturn (Dat dd_X_use 7 rfl) rfl T
  · replace T := T.2 c
    refine R_iload_n (Dat dd_X_use 2 rfl) rfl ?_
    refine R_aload_n (Dat dd_X_use 3 rfl) rfl rfl ?_
    refine R_geti (Dat dd_X_use 4 rfl) rfl rfl (tok S.t0) ?_
    obtain ⟨g2, T⟩ := T
    obtain ⟨g3, T⟩ := T
    refine R_ic_lt (Dat dd_X_use 5 rfl) rfl g2 g3 (fun c => ?_) (fun c => ?_)
    · replace T := T.1 c
      refine R_aload_n (Dat dd_X_use 8 rfl) rfl rfl ?_
      refine R_geti (Dat dd_X_use 9 rfl) rfl rfl (tok S.t0) ?_
      refine R_istore_n (Dat dd_X_use 10 rfl) rfl rfl ?_
      refine R_aload_n (Dat dd_X_use 11 rfl) rfl rfl ?_
      refine R_iload_n (Dat dd_X_use 12 rfl) rfl ?_
      refine R_puti (Dat dd_X_use 13 rfl) rfl rfl rfl (tok S.t0) rfl (v := wr p0) rfl ?_
      refine R_iload_n (Dat dd_X_use 14 rfl) rfl ?_
      exact R_ireturn (Dat dd_X_use 15 rfl) rfl T
    · replace T := T.2 c
      refine R_iconst (Dat dd_X_use 6 rfl) ?_
      exact R_ireturn (Dat dd_X_use 7 rfl) rfl T
def dl_X_cause : List (Nat × Instr × Nat) := [(0, .aload_n 0, 1), (1, .iload_n 1, 1), (2, .invokevirtual 99, 3), (5, .ifCond .ne 11, 3), (8, .aload_n 0, 1), (9, .iload_n 2, 1), (10, .invokevirtual 99, 3), (13, .ifCond .eq 5, 3), (16, .iconst (-1), 1), (17, .ireturn, 1), (18, .iload_n 1, 1), (19, .iload_n 2, 1), (20, .if_icmp .eq 28, 3), (23, .iload_n 3, 1), (24, .ifCond .lt 24, 3), (27, .iload_n 3, 1), (28, .aload_n 0, 1), (29, .getfield 12, 3), (32, .getfield 96, 3), (35, .iconst 2, 1), (36, .isub, 1), (37, .if_icmp .gt 11, 3), (40, .iload 4, 2), (42, .invokestatic 169, 3), (45, .ifCond .eq 6, 3), (48, .bipush (-2), 2), (50, .ireturn, 1), (51, .aload_n 0, 1), (52, .invokevirtual 172, 3), (55, .astore 5, 2), (57, .aload 5, 2), (59, .ifnonnull 6, 3), (62, .bipush (-3), 2), (64, .ireturn, 1), (65, .aload 5, 2), (67, .aload_n 0, 1), (68, .getfield 12, 3), (71, .getfield 103, 3), (74, .iload_n 1, 1), (75, .aaload, 1), (76, .aload_n 0, 1), (77, .getfield 12, 3), (80, .getfield 103, 3), (83, .iload_n 2, 1), (84, .aaload, 1), (85, .iload_n 3, 1), (86, .iload 4, 2), (88, .bipush (-9), 2), (90, .invokevirtual 176, 3), (93, .ireturn, 1)]
theorem dd_X_cause : Dall 48 dl_X_cause = true := by decide +kernel
theorem t_X_cause {h : Hp} {P : Value → Hp → Prop} {p0 p1 p2 p3 : Int} (S : XS h) (T : R 28 0 [.ref 0, .int (I p0)] [] h (fun v h2 => R 48 5 [.ref 0, .int (I p0), .int (I p1), .int (I p2), .int (I p3), .retAddr 0] (v :: []) h2 P)) : R 48 0 [.ref 0, .int (I p0), .int (I p1), .int (I p2), .int (I p3), .retAddr 0] [] h P := by
  refine R_aload_n (Dat dd_X_cause 0 rfl) rfl rfl ?_
  refine R_iload_n (Dat dd_X_cause 1 rfl) rfl ?_
  exact R_call1 (Dat dd_X_cause 2 rfl) rfl S.t0 rfl rfl rfl rfl rfl T
theorem t_X_cause_5 {h : Hp} {P : Value → Hp → Prop} {a1 a2 a3 a4 s0 : Int} {a5 : Value} (S : XS h) (T : (rng s0) ∧ ((s0 = 0 → R 28 0 [.ref 0, .int (I a2)] [] h (fun v h2 => R 48 13 [.ref 0, .int (I a1), .int (I a2), .int (I a3), .int (I a4), a5] (v :: []) h2 P)) ∧ (¬ s0 = 0 → P (.int (I (-1))) h))) : R 48 5 [.ref 0, .int (I a1), .int (I a2), .int (I a3), .int (I a4), a5] [.int (I s0)] h P := by
  obtain ⟨g1, T⟩ := T
  refine R_if_ne (Dat dd_X_cause 3 rfl) rfl g1  (fun c => ?_) (fun c => ?_)
  · replace T := T.1 c
    refine R_aload_n (Dat dd_X_cause 4 rfl) rfl rfl ?_
    refine R_iload_n (Dat dd_X_cause 5 rfl) rfl ?_
    exact R_call1 (Dat dd_X_cause 6 rfl) rfl S.t0 rfl rfl rfl rfl rfl T
  · replace T := T.2 c
    refine R_iconst (Dat dd_X_cause 8 rfl) ?_
    exact R_ireturn (Dat dd_X_cause 9 rfl) rfl T
theorem t_X_cause_13 {h : Hp} {P : Value → Hp → Prop} {a1 a2 a3 a4 s0 : Int} {a5 : Value} (S : XS h) (T : (rng s0) ∧ ((s0 = 0 → (rng a1) ∧ (rng a2) ∧ ((a1 = a2 → P (.int (I (-2))) h) ∧ (¬ a1 = a2 → (rng a3) ∧ ((a3 < 0 → P (.int (I (-2))) h) ∧ (¬ a3 < 0 → (rng a3) ∧ (rng ((iv h 1 1) - 2)) ∧ ((((iv h 1 1) - 2) < a3 → P (.int (I (-2))) h) ∧ (¬ ((iv h 1 1) - 2) < a3 → R 49 0 [.int (I a4)] [] h (fun v h2 => R 48 45 [.ref 0, .int (I a1), .int (I a2), .int (I a3), .int (I a4), a5] (v :: []) h2 P)))))))) ∧ (¬ s0 = 0 → P (.int (I (-1))) h))) : R 48 13 [.ref 0, .int (I a1), .int (I a2), .int (I a3), .int (I a4), a5] [.int (I s0)] h P := by
  obtain ⟨g1, T⟩ := T
  refine R_if_eq (Dat dd_X_cause 7 rfl) rfl g1  (fun c => ?_) (fun c => ?_)
  · replace T := T.1 c
    refine R_iload_n (Dat dd_X_cause 10 rfl) rfl ?_
    refine R_iload_n (Dat dd_X_cause 11 rfl) rfl ?_
    obtain ⟨g2, T⟩ := T
    obtain ⟨g3, T⟩ := T
    refine R_ic_eq (Dat dd_X_cause 12 rfl) rfl g2 g3 (fun c => ?_) (fun c => ?_)
    · replace T := T.1 c
      refine R_bipush (Dat dd_X_cause 25 rfl) (a := (-2)) rfl ?_
      exact R_ireturn (Dat dd_X_cause 26 rfl) rfl T
    · replace T := T.2 c
      refine R_iload_n (Dat dd_X_cause 13 rfl) rfl ?_
      obtain ⟨g4, T⟩ := T
      refine R_if_lt (Dat dd_X_cause 14 rfl) rfl g4  (fun c => ?_) (fun c => ?_)
      · replace T := T.1 c
        refine R_bipush (Dat dd_X_cause 25 rfl) (a := (-2)) rfl ?_
        exact R_ireturn (Dat dd_X_cause 26 rfl) rfl T
      · replace T := T.2 c
        refine R_iload_n (Dat dd_X_cause 15 rfl) rfl ?_
        refine R_aload_n (Dat dd_X_cause 16 rfl) rfl rfl ?_
        refine R_getr (Dat dd_X_cause 17 rfl) rfl rfl (tok S.t0) S.f0_0 (q := 1) rfl (tnz S.t1) ?_
        refine R_geti (Dat dd_X_cause 18 rfl) rfl rfl (tok S.t1) ?_
        refine R_iconst (Dat dd_X_cause 19 rfl) ?_
        refine R_isub (Dat dd_X_cause 20 rfl) ?_
        obtain ⟨g5, T⟩ := T
        obtain ⟨g6, T⟩ := T
        refine R_ic_gt (Dat dd_X_cause 21 rfl) rfl g5 g6 (fun c => ?_) (fun c => ?_)
        · replace T := T.1 c
          refine R_bipush (Dat dd_X_cause 25 rfl) (a := (-2)) rfl ?_
          exact R_ireturn (Dat dd_X_cause 26 rfl) rfl T
        · replace T := T.2 c
          refine R_iload (Dat dd_X_cause 22 rfl) rfl ?_
          exact R_call0 (Dat dd_X_cause 23 rfl) rfl rfl rfl rfl rfl rfl T
  · replace T := T.2 c
    refine R_iconst (Dat dd_X_cause 8 rfl) ?_
    exact R_ireturn (Dat dd_X_cause 9 rfl) rfl T
theorem t_X_cause_45 {h : Hp} {P : Value → Hp → Prop} {a1 a2 a3 a4 s0 : Int} {a5 : Value} (S : XS h) (T : (rng s0) ∧ ((s0 = 0 → R 50 0 [.ref 0] [] h (fun v h2 => R 48 55 [.ref 0, .int (I a1), .int (I a2), .int (I a3), .int (I a4), a5] (v :: []) h2 P)) ∧ (¬ s0 = 0 → P (.int (I (-2))) h))) : R 48 45 [.ref 0, .int (I a1), .int (I a2), .int (I a3), .int (I a4), a5] [.int (I s0)] h P := by
  obtain ⟨g1, T⟩ := T
  refine R_if_eq (Dat dd_X_cause 24 rfl) rfl g1  (fun c => ?_) (fun c => ?_)
  · replace T := T.1 c
    refine R_aload_n (Dat dd_X_cause 27 rfl) rfl rfl ?_
    exact R_call1 (Dat dd_X_cause 28 rfl) rfl S.t0 rfl rfl rfl rfl rfl T
  · replace T := T.2 c
    refine R_bipush (Dat dd_X_cause 25 rfl) (a := (-2)) rfl ?_
    exact R_ireturn (Dat dd_X_cause 26 rfl) rfl T
theorem t_X_cause_55 {h : Hp} {P : Value → Hp → Prop} {a1 a2 a3 a4 : Int} {s0 : Nat} {a5 : Value} (S : XS h) (T : (0 ≤ a1) ∧ (a1 < 7) ∧ (fl h 2 (a1).toNat = true) ∧ (tg h (child 2 (a1).toNat) ≠ 0) ∧ (0 ≤ a2) ∧ (a2 < 7) ∧ (fl h 2 (a2).toNat = true) ∧ (tg h (child 2 (a2).toNat) ≠ 0) ∧ (tg h s0 = 4) ∧ R 51 0 [.ref s0, .ref (child 2 (a1).toNat), .ref (child 2 (a2).toNat), .int (I a3), .int (I a4), .int (I (-9)), .retAddr 0] [] h (fun v h2 => R 48 93 [.ref 0, .int (I a1), .int (I a2), .int (I a3), .int (I a4), .ref s0] (v :: []) h2 P)) : R 48 55 [.ref 0, .int (I a1), .int (I a2), .int (I a3), .int (I a4), a5] [.ref s0] h P := by
  refine R_astore (Dat dd_X_cause 29 rfl) rfl rfl rfl ?_
  refine R_aload (Dat dd_X_cause 30 rfl) rfl rfl ?_
  refine R_ifnn1 (Dat dd_X_cause 31 rfl) rfl ?_
  refine R_aload (Dat dd_X_cause 34 rfl) rfl rfl ?_
  refine R_aload_n (Dat dd_X_cause 35 rfl) rfl rfl ?_
  refine R_getr (Dat dd_X_cause 36 rfl) rfl rfl (tok S.t0) S.f0_0 (q := 1) rfl (tnz S.t1) ?_
  refine R_getr (Dat dd_X_cause 37 rfl) rfl rfl (tok S.t1) S.f1_0 (q := 2) rfl (tnz S.t2) ?_
  refine R_iload_n (Dat dd_X_cause 38 rfl) rfl ?_
  obtain ⟨g1, T⟩ := T
  obtain ⟨g2, T⟩ := T
  obtain ⟨g3, T⟩ := T
  obtain ⟨g4, T⟩ := T
  refine R_aaload (Dat dd_X_cause 39 rfl) (by rw [show tg h 2 = 21 from S.t2]; decide) (lnle (show ln h 2 = 7 from S.l2) (by decide)) g1 (lnlt (show ln h 2 = 7 from S.l2) g2) g3 rfl g4 ?_
  refine R_aload_n (Dat dd_X_cause 40 rfl) rfl rfl ?_
  refine R_getr (Dat dd_X_cause 41 rfl) rfl rfl (tok S.t0) S.f0_0 (q := 1) rfl (tnz S.t1) ?_
  refine R_getr (Dat dd_X_cause 42 rfl) rfl rfl (tok S.t1) S.f1_0 (q := 2) rfl (tnz S.t2) ?_
  refine R_iload_n (Dat dd_X_cause 43 rfl) rfl ?_
  obtain ⟨g5, T⟩ := T
  obtain ⟨g6, T⟩ := T
  obtain ⟨g7, T⟩ := T
  obtain ⟨g8, T⟩ := T
  refine R_aaload (Dat dd_X_cause 44 rfl) (by rw [show tg h 2 = 21 from S.t2]; decide) (lnle (show ln h 2 = 7 from S.l2) (by decide)) g5 (lnlt (show ln h 2 = 7 from S.l2) g6) g7 rfl g8 ?_
  refine R_iload_n (Dat dd_X_cause 45 rfl) rfl ?_
  refine R_iload (Dat dd_X_cause 46 rfl) rfl ?_
  refine R_bipush (Dat dd_X_cause 47 rfl) (a := (-9)) rfl ?_
  obtain ⟨g9, T⟩ := T
  exact R_call1 (Dat dd_X_cause 48 rfl) rfl g9 rfl rfl rfl rfl rfl T
theorem t_X_cause_55b {h : Hp} {P : Value → Hp → Prop} {a1 a2 a3 a4 : Int} {a5 : Value} (S : XS h) (T : P (.int (I (-3))) h) : R 48 55 [.ref 0, .int (I a1), .int (I a2), .int (I a3), .int (I a4), a5] [.null] h P := by
  refine R_astore (Dat dd_X_cause 29 rfl) rfl rfl rfl ?_
  refine R_aload (Dat dd_X_cause 30 rfl) rfl rfl ?_
  refine R_ifnn0 (Dat dd_X_cause 31 rfl) ?_
  refine R_bipush (Dat dd_X_cause 32 rfl) (a := (-3)) rfl ?_
  exact R_ireturn (Dat dd_X_cause 33 rfl) rfl T
theorem t_X_cause_93 {h : Hp} {P : Value → Hp → Prop} {s0 : Int} {a0 a1 a2 a3 a4 a5 : Value} (S : XS h) (T : P (.int (I s0)) h) : R 48 93 [a0, a1, a2, a3, a4, a5] [.int (I s0)] h P := by
  exact R_ireturn (Dat dd_X_cause 49 rfl) rfl T
def dl_X_noHard : List (Nat × Instr × Nat) := [(0, .iload_n 0, 1), (1, .iconst 1, 1), (2, .if_icmp .lt 8, 3), (5, .iload_n 0, 1), (6, .iconst 3, 1), (7, .if_icmp .le 7, 3), (10, .iconst 1, 1), (11, .goto 4, 3), (14, .iconst 0, 1), (15, .ireturn, 1)]
theorem dd_X_noHard : Dall 49 dl_X_noHard = true := by decide +kernel
theorem t_X_noHard {h : Hp} {P : Value → Hp → Prop} {p0 : Int} (T : (rng p0) ∧ ((p0 < 1 → P (.int (I 1)) h) ∧ (¬ p0 < 1 → (rng p0) ∧ (((3 : Int) < p0 → P (.int (I 1)) h) ∧ (¬ (3 : Int) < p0 → P (.int (I 0)) h))))) : R 49 0 [.int (I p0)] [] h P := by
  refine R_iload_n (Dat dd_X_noHard 0 rfl) rfl ?_
  refine R_iconst (Dat dd_X_noHard 1 rfl) ?_
  obtain ⟨g1, T⟩ := T
  refine R_ic_lt (Dat dd_X_noHard 2 rfl) rfl g1 (by decide) (fun c => ?_) (fun c => ?_)
  · replace T := T.1 c
    refine R_iconst (Dat dd_X_noHard 6 rfl) ?_
    refine R_goto (Dat dd_X_noHard 7 rfl) rfl ?_
    exact R_ireturn (Dat dd_X_noHard 9 rfl) rfl T
  · replace T := T.2 c
    refine R_iload_n (Dat dd_X_noHard 3 rfl) rfl ?_
    refine R_iconst (Dat dd_X_noHard 4 rfl) ?_
    obtain ⟨g2, T⟩ := T
    refine R_ic_le (Dat dd_X_noHard 5 rfl) rfl g2 (by decide) (fun c => ?_) (fun c => ?_)
    · replace T := T.1 c
      refine R_iconst (Dat dd_X_noHard 6 rfl) ?_
      refine R_goto (Dat dd_X_noHard 7 rfl) rfl ?_
      exact R_ireturn (Dat dd_X_noHard 9 rfl) rfl T
    · replace T := T.2 c
      refine R_iconst (Dat dd_X_noHard 8 rfl) ?_
      exact R_ireturn (Dat dd_X_noHard 9 rfl) rfl T
def dl_X_lawInForce : List (Nat × Instr × Nat) := [(0, .aload_n 0, 1), (1, .getfield 146, 3), (4, .ifCond .ne 7, 3), (7, .aconst_null, 1), (8, .goto 12, 3), (11, .aload_n 0, 1), (12, .getfield 20, 3), (15, .aload_n 0, 1), (16, .getfield 166, 3), (19, .aaload, 1), (20, .areturn, 1)]
theorem dd_X_lawInForce : Dall 50 dl_X_lawInForce = true := by decide +kernel
theorem t_X_lawInForce {h : Hp} {P : Value → Hp → Prop}  (S : XS h) (T : (rng (iv h 0 2)) ∧ (((iv h 0 2) = 0 → P (.null) h) ∧ (¬ (iv h 0 2) = 0 → (0 ≤ (iv h 0 3)) ∧ ((iv h 0 3) < 4) ∧ (fl h 4 (iv h 0 3).toNat = true) ∧ (tg h (child 4 (iv h 0 3).toNat) ≠ 0) ∧ P (.ref (child 4 (iv h 0 3).toNat)) h))) : R 50 0 [.ref 0] [] h P := by
  refine R_aload_n (Dat dd_X_lawInForce 0 rfl) rfl rfl ?_
  refine R_geti (Dat dd_X_lawInForce 1 rfl) rfl rfl (tok S.t0) ?_
  obtain ⟨g1, T⟩ := T
  refine R_if_ne (Dat dd_X_lawInForce 2 rfl) rfl g1  (fun c => ?_) (fun c => ?_)
  · replace T := T.1 c
    refine R_null (Dat dd_X_lawInForce 3 rfl) ?_
    refine R_goto (Dat dd_X_lawInForce 4 rfl) rfl ?_
    exact R_areturn (Dat dd_X_lawInForce 10 rfl) rfl T
  · replace T := T.2 c
    refine R_aload_n (Dat dd_X_lawInForce 5 rfl) rfl rfl ?_
    refine R_getr (Dat dd_X_lawInForce 6 rfl) rfl rfl (tok S.t0) S.f0_1 (q := 4) rfl (tnz S.t4) ?_
    refine R_aload_n (Dat dd_X_lawInForce 7 rfl) rfl rfl ?_
    refine R_geti (Dat dd_X_lawInForce 8 rfl) rfl rfl (tok S.t0) ?_
    obtain ⟨g2, T⟩ := T
    obtain ⟨g3, T⟩ := T
    obtain ⟨g4, T⟩ := T
    obtain ⟨g5, T⟩ := T
    refine R_aaload (Dat dd_X_lawInForce 9 rfl) (by rw [show tg h 4 = 22 from S.t4]; decide) (lnle (show ln h 4 = 4 from S.l4) (by decide)) g2 (lnlt (show ln h 4 = 4 from S.l4) g3) g4 rfl g5 ?_
    exact R_areturn (Dat dd_X_lawInForce 10 rfl) rfl T
def dl_X_shake : List (Nat × Instr × Nat) := [(0, .iload_n 1, 1), (1, .invokestatic 169, 3), (4, .ifCond .ne 13, 3), (7, .iload_n 2, 1), (8, .ifCond .lt 9, 3), (11, .iload_n 2, 1), (12, .bipush 99, 2), (14, .if_icmp .le 6, 3), (17, .bipush (-2), 2), (19, .ireturn, 1), (20, .aload_n 0, 1), (21, .invokevirtual 172, 3), (24, .astore_n 3, 1), (25, .aload_n 0, 1), (26, .invokevirtual 138, 3), (29, .ifCond .ne 7, 3), (32, .aload_n 3, 1), (33, .ifnonnull 6, 3), (36, .bipush (-3), 2), (38, .ireturn, 1), (39, .iconst 0, 1), (40, .istore 4, 2), (42, .iconst 0, 1), (43, .istore 5, 2), (45, .iload 5, 2), (47, .iload_n 2, 1), (48, .if_icmp .ge 20, 3), (51, .iload 4, 2), (53, .aload_n 0, 1), (54, .aload_n 3, 1), (55, .iload_n 1, 1), (56, .invokevirtual 180, 3), (59, .iadd, 1), (60, .istore 4, 2), (62, .iinc 5 1, 3), (65, .goto (-20), 3), (68, .iload 4, 2), (70, .ireturn, 1)]
theorem dd_X_shake : Dall 53 dl_X_shake = true := by decide +kernel
theorem t_X_shake {h : Hp} {P : Value → Hp → Prop} {p0 p1 : Int} (S : XS h) (T : R 49 0 [.int (I p0)] [] h (fun v h2 => R 53 4 [.ref 0, .int (I p0), .int (I p1), .retAddr 0, .retAddr 0, .retAddr 0] (v :: []) h2 P)) : R 53 0 [.ref 0, .int (I p0), .int (I p1), .retAddr 0, .retAddr 0, .retAddr 0] [] h P := by
  refine R_iload_n (Dat dd_X_shake 0 rfl) rfl ?_
  exact R_call0 (Dat dd_X_shake 1 rfl) rfl rfl rfl rfl rfl rfl T
theorem t_X_shake_4 {h : Hp} {P : Value → Hp → Prop} {a1 a2 s0 : Int} {a3 a4 a5 : Value} (S : XS h) (T : (rng s0) ∧ ((s0 = 0 → (rng a2) ∧ ((a2 < 0 → P (.int (I (-2))) h) ∧ (¬ a2 < 0 → (rng a2) ∧ (((99 : Int) < a2 → P (.int (I (-2))) h) ∧ (¬ (99 : Int) < a2 → R 50 0 [.ref 0] [] h (fun v h2 => R 53 24 [.ref 0, .int (I a1), .int (I a2), a3, a4, a5] (v :: []) h2 P)))))) ∧ (¬ s0 = 0 → P (.int (I (-2))) h))) : R 53 4 [.ref 0, .int (I a1), .int (I a2), a3, a4, a5] [.int (I s0)] h P := by
  obtain ⟨g1, T⟩ := T
  refine R_if_ne (Dat dd_X_shake 2 rfl) rfl g1  (fun c => ?_) (fun c => ?_)
  · replace T := T.1 c
    refine R_iload_n (Dat dd_X_shake 3 rfl) rfl ?_
    obtain ⟨g2, T⟩ := T
    refine R_if_lt (Dat dd_X_shake 4 rfl) rfl g2  (fun c => ?_) (fun c => ?_)
    · replace T := T.1 c
      refine R_bipush (Dat dd_X_shake 8 rfl) (a := (-2)) rfl ?_
      exact R_ireturn (Dat dd_X_shake 9 rfl) rfl T
    · replace T := T.2 c
      refine R_iload_n (Dat dd_X_shake 5 rfl) rfl ?_
      refine R_bipush (Dat dd_X_shake 6 rfl) (a := 99) rfl ?_
      obtain ⟨g3, T⟩ := T
      refine R_ic_le (Dat dd_X_shake 7 rfl) rfl g3 (by decide) (fun c => ?_) (fun c => ?_)
      · replace T := T.1 c
        refine R_bipush (Dat dd_X_shake 8 rfl) (a := (-2)) rfl ?_
        exact R_ireturn (Dat dd_X_shake 9 rfl) rfl T
      · replace T := T.2 c
        refine R_aload_n (Dat dd_X_shake 10 rfl) rfl rfl ?_
        exact R_call1 (Dat dd_X_shake 11 rfl) rfl S.t0 rfl rfl rfl rfl rfl T
  · replace T := T.2 c
    refine R_bipush (Dat dd_X_shake 8 rfl) (a := (-2)) rfl ?_
    exact R_ireturn (Dat dd_X_shake 9 rfl) rfl T
theorem t_X_shake_24 {h : Hp} {P : Value → Hp → Prop} {a1 a2 : Int} {s0 : Nat} {a3 a4 a5 : Value} (S : XS h) (T : R 36 0 [.ref 0] [] h (fun v h2 => R 53 29 [.ref 0, .int (I a1), .int (I a2), .ref s0, a4, a5] (v :: []) h2 P)) : R 53 24 [.ref 0, .int (I a1), .int (I a2), a3, a4, a5] [.ref s0] h P := by
  refine R_astore_n (Dat dd_X_shake 12 rfl) rfl rfl rfl ?_
  refine R_aload_n (Dat dd_X_shake 13 rfl) rfl rfl ?_
  exact R_call1 (Dat dd_X_shake 14 rfl) rfl S.t0 rfl rfl rfl rfl rfl T
theorem t_X_shake_24b {h : Hp} {P : Value → Hp → Prop} {a1 a2 : Int} {a3 a4 a5 : Value} (S : XS h) (T : R 36 0 [.ref 0] [] h (fun v h2 => R 53 29 [.ref 0, .int (I a1), .int (I a2), .null, a4, a5] (v :: []) h2 P)) : R 53 24 [.ref 0, .int (I a1), .int (I a2), a3, a4, a5] [.null] h P := by
  refine R_astore_n (Dat dd_X_shake 12 rfl) rfl rfl rfl ?_
  refine R_aload_n (Dat dd_X_shake 13 rfl) rfl rfl ?_
  exact R_call1 (Dat dd_X_shake 14 rfl) rfl S.t0 rfl rfl rfl rfl rfl T
theorem t_X_shake_29 {h : Hp} {P : Value → Hp → Prop} {a1 a2 s0 : Int} {a3 : Nat} {a4 a5 : Value} (S : XS h) (T : (rng s0) ∧ ((s0 = 0 → R 53 45 [.ref 0, .int (I a1), .int (I a2), .ref a3, .int (I 0), .int (I 0)] [] h P) ∧ (¬ s0 = 0 → P (.int (I (-3))) h))) : R 53 29 [.ref 0, .int (I a1), .int (I a2), .ref a3, a4, a5] [.int (I s0)] h P := by
  obtain ⟨g1, T⟩ := T
  refine R_if_ne (Dat dd_X_shake 15 rfl) rfl g1  (fun c => ?_) (fun c => ?_)
  · replace T := T.1 c
    refine R_aload_n (Dat dd_X_shake 16 rfl) rfl rfl ?_
    refine R_ifnn1 (Dat dd_X_shake 17 rfl) rfl ?_
    refine R_iconst (Dat dd_X_shake 20 rfl) ?_
    refine R_istore (Dat dd_X_shake 21 rfl) rfl rfl ?_
    refine R_iconst (Dat dd_X_shake 22 rfl) ?_
    refine R_istore (Dat dd_X_shake 23 rfl) rfl rfl ?_
    exact T
  · replace T := T.2 c
    refine R_bipush (Dat dd_X_shake 18 rfl) (a := (-3)) rfl ?_
    exact R_ireturn (Dat dd_X_shake 19 rfl) rfl T
theorem t_X_shake_29b {h : Hp} {P : Value → Hp → Prop} {a1 a2 s0 : Int} {a4 a5 : Value} (S : XS h) (T : (rng s0) ∧ ((s0 = 0 → P (.int (I (-3))) h) ∧ (¬ s0 = 0 → P (.int (I (-3))) h))) : R 53 29 [.ref 0, .int (I a1), .int (I a2), .null, a4, a5] [.int (I s0)] h P := by
  obtain ⟨g1, T⟩ := T
  refine R_if_ne (Dat dd_X_shake 15 rfl) rfl g1  (fun c => ?_) (fun c => ?_)
  · replace T := T.1 c
    refine R_aload_n (Dat dd_X_shake 16 rfl) rfl rfl ?_
    refine R_ifnn0 (Dat dd_X_shake 17 rfl) ?_
    refine R_bipush (Dat dd_X_shake 18 rfl) (a := (-3)) rfl ?_
    exact R_ireturn (Dat dd_X_shake 19 rfl) rfl T
  · replace T := T.2 c
    refine R_bipush (Dat dd_X_shake 18 rfl) (a := (-3)) rfl ?_
    exact R_ireturn (Dat dd_X_shake 19 rfl) rfl T
theorem t_X_shake_45 {h : Hp} {P : Value → Hp → Prop} {a1 a2 a4 a5 : Int} {a3 : Nat} (S : XS h) (T : (rng a5) ∧ (rng a2) ∧ ((a5 < a2 → (okg 53 54 [.ref 0, .int (I a1), .int (I a2), .ref a3, .int (I a4), .int (I a5)] [.int (I a4)] [.ref 0, .ref a3, .int (I a1)] = true) ∧ R 54 0 [.ref 0, .ref a3, .int (I a1), .retAddr 0] [] h (fun v h2 => R 53 59 [.ref 0, .int (I a1), .int (I a2), .ref a3, .int (I a4), .int (I a5)] (v :: [.int (I a4)]) h2 P)) ∧ (¬ a5 < a2 → P (.int (I a4)) h))) : R 53 45 [.ref 0, .int (I a1), .int (I a2), .ref a3, .int (I a4), .int (I a5)] [] h P := by
  refine R_iload (Dat dd_X_shake 24 rfl) rfl ?_
  refine R_iload_n (Dat dd_X_shake 25 rfl) rfl ?_
  obtain ⟨g1, T⟩ := T
  obtain ⟨g2, T⟩ := T
  refine R_ic_ge (Dat dd_X_shake 26 rfl) rfl g1 g2 (fun c => ?_) (fun c => ?_)
  · replace T := T.1 c
    refine R_iload (Dat dd_X_shake 27 rfl) rfl ?_
    refine R_aload_n (Dat dd_X_shake 28 rfl) rfl rfl ?_
    refine R_aload_n (Dat dd_X_shake 29 rfl) rfl rfl ?_
    refine R_iload_n (Dat dd_X_shake 30 rfl) rfl ?_
    obtain ⟨g3, T⟩ := T
    exact R_call1 (Dat dd_X_shake 31 rfl) rfl S.t0 rfl rfl rfl g3 rfl T
  · replace T := T.2 c
    refine R_iload (Dat dd_X_shake 36 rfl) rfl ?_
    exact R_ireturn (Dat dd_X_shake 37 rfl) rfl T
theorem t_X_shake_59 {h : Hp} {P : Value → Hp → Prop} {a1 a2 a5 s0 s1 : Int} {a3 : Nat} {a4 : Value} (S : XS h) (T : R 53 45 [.ref 0, .int (I a1), .int (I a2), .ref a3, .int (I (s1 + s0)), .int (I (a5 + 1))] [] h P) : R 53 59 [.ref 0, .int (I a1), .int (I a2), .ref a3, a4, .int (I a5)] [.int (I s0), .int (I s1)] h P := by
  refine R_iadd (Dat dd_X_shake 32 rfl) ?_
  refine R_istore (Dat dd_X_shake 33 rfl) rfl rfl ?_
  refine R_iinc (Dat dd_X_shake 34 rfl) rfl rfl rfl ?_
  refine R_goto (Dat dd_X_shake 35 rfl) rfl ?_
  exact T
def dl_X_shakeOnce : List (Nat × Instr × Nat) := [(0, .aload_n 0, 1), (1, .aload_n 1, 1), (2, .iload_n 2, 1), (3, .invokevirtual 194, 3), (6, .getfield 212, 3), (9, .astore_n 3, 1), (10, .aload_n 3, 1), (11, .iconst 0, 1), (12, .putfield 345, 3), (15, .aload_n 0, 1), (16, .aload_n 0, 1), (17, .getfield 12, 3), (20, .aload_n 3, 1), (21, .aload_n 0, 1), (22, .getfield 12, 3), (25, .aload_n 0, 1), (26, .getfield 86, 3), (29, .invokevirtual 124, 3), (32, .aload_n 0, 1), (33, .getfield 12, 3), (36, .getfield 96, 3), (39, .invokevirtual 275, 3), (42, .invokevirtual 348, 3), (45, .putfield 86, 3), (48, .aload_n 0, 1), (49, .dup, 1), (50, .getfield 93, 3), (53, .iconst 1, 1), (54, .iadd, 1), (55, .putfield 93, 3), (58, .aload_n 3, 1), (59, .getfield 345, 3), (62, .ireturn, 1)]
theorem dd_X_shakeOnce : Dall 54 dl_X_shakeOnce = true := by decide +kernel
theorem t_X_shakeOnce {h : Hp} {P : Value → Hp → Prop} {p1 : Int} {p0 : Nat} (S : XS h) (T : (okg 54 55 [.ref 0, .ref p0, .int (I p1), .retAddr 0] [] [.ref 0, .ref p0, .int (I p1)] = true) ∧ R 55 0 [.ref 0, .ref p0, .int (I p1), .retAddr 0] [] h (fun v h2 => R 54 6 [.ref 0, .ref p0, .int (I p1), .retAddr 0] (v :: []) h2 P)) : R 54 0 [.ref 0, .ref p0, .int (I p1), .retAddr 0] [] h P := by
  refine R_aload_n (Dat dd_X_shakeOnce 0 rfl) rfl rfl ?_
  refine R_aload_n (Dat dd_X_shakeOnce 1 rfl) rfl rfl ?_
  refine R_iload_n (Dat dd_X_shakeOnce 2 rfl) rfl ?_
  obtain ⟨g1, T⟩ := T
  exact R_call1 (Dat dd_X_shakeOnce 3 rfl) rfl S.t0 rfl rfl rfl g1 rfl T
theorem t_X_shakeOnce_6 {h : Hp} {P : Value → Hp → Prop} {s0 : Nat} {a1 a2 a3 : Value} (S : XS h) (T : (tg h s0 = 6) ∧ (fl h s0 0 = true) ∧ (tg h (child s0 0) ≠ 0) ∧ (tg h (child s0 0) = 8) ∧ R 29 0 [.ref 1, .int (I (iv (setI h (child s0 0) 1 0) 0 4))] [] (setI h (child s0 0) 1 0) (fun v h2 => R 54 32 [.ref 0, a1, a2, .ref (child s0 0)] (v :: [.ref (child s0 0), .ref 1, .ref 0]) h2 P)) : R 54 6 [.ref 0, a1, a2, a3] [.ref s0] h P := by
  obtain ⟨g1, T⟩ := T
  obtain ⟨g2, T⟩ := T
  obtain ⟨g3, T⟩ := T
  refine R_getr (Dat dd_X_shakeOnce 4 rfl) rfl rfl (tok g1) g2 (q := child s0 0) rfl g3 ?_
  refine R_astore_n (Dat dd_X_shakeOnce 5 rfl) rfl rfl rfl ?_
  refine R_aload_n (Dat dd_X_shakeOnce 6 rfl) rfl rfl ?_
  refine R_iconst (Dat dd_X_shakeOnce 7 rfl) ?_
  obtain ⟨g4, T⟩ := T
  refine R_puti (Dat dd_X_shakeOnce 8 rfl) rfl rfl rfl (tok g4) rfl (v := 0) rfl ?_
  refine R_aload_n (Dat dd_X_shakeOnce 9 rfl) rfl rfl ?_
  refine R_aload_n (Dat dd_X_shakeOnce 10 rfl) rfl rfl ?_
  refine R_getr (Dat dd_X_shakeOnce 11 rfl) rfl rfl (tok S.t0) S.f0_0 (q := 1) rfl (tnz S.t1) ?_
  refine R_aload_n (Dat dd_X_shakeOnce 12 rfl) rfl rfl ?_
  refine R_aload_n (Dat dd_X_shakeOnce 13 rfl) rfl rfl ?_
  refine R_getr (Dat dd_X_shakeOnce 14 rfl) rfl rfl (tok S.t0) S.f0_0 (q := 1) rfl (tnz S.t1) ?_
  refine R_aload_n (Dat dd_X_shakeOnce 15 rfl) rfl rfl ?_
  refine R_geti (Dat dd_X_shakeOnce 16 rfl) rfl rfl (tok S.t0) ?_
  exact R_call1 (Dat dd_X_shakeOnce 17 rfl) rfl S.t1 rfl rfl rfl rfl rfl T
theorem t_X_shakeOnce_32 {h : Hp} {P : Value → Hp → Prop} {s0 : Int} {a3 s1 : Nat} {a1 a2 : Value} (S : XS h) (T : (tg h s1 = 8) ∧ R 61 0 [.ref s1, .int (I s0), .int (I (iv h 1 1))] [] h (fun v h2 => R 54 42 [.ref 0, a1, a2, .ref a3] (v :: [.ref 1, .ref 0]) h2 P)) : R 54 32 [.ref 0, a1, a2, .ref a3] [.int (I s0), .ref s1, .ref 1, .ref 0] h P := by
  refine R_aload_n (Dat dd_X_shakeOnce 18 rfl) rfl rfl ?_
  refine R_getr (Dat dd_X_shakeOnce 19 rfl) rfl rfl (tok S.t0) S.f0_0 (q := 1) rfl (tnz S.t1) ?_
  refine R_geti (Dat dd_X_shakeOnce 20 rfl) rfl rfl (tok S.t1) ?_
  obtain ⟨g1, T⟩ := T
  exact R_call1 (Dat dd_X_shakeOnce 21 rfl) rfl g1 rfl rfl rfl rfl rfl T
theorem t_X_shakeOnce_42 {h : Hp} {P : Value → Hp → Prop} {s0 : Int} {a3 : Nat} {a1 a2 : Value} (S : XS h) (T : R 63 0 [.ref 1, .int (I s0), .retAddr 0, .retAddr 0, .retAddr 0, .retAddr 0] [] h (fun v h2 => R 54 45 [.ref 0, a1, a2, .ref a3] (v :: [.ref 0]) h2 P)) : R 54 42 [.ref 0, a1, a2, .ref a3] [.int (I s0), .ref 1, .ref 0] h P := by
  exact R_call1 (Dat dd_X_shakeOnce 22 rfl) rfl S.t1 rfl rfl rfl rfl rfl T
theorem t_X_shakeOnce_45 {h : Hp} {P : Value → Hp → Prop} {s0 : Int} {a3 : Nat} {a1 a2 : Value} (S : XS h) (T : (tg (setI (setI h 0 4 (wr s0)) 0 5 (wr ((iv (setI h 0 4 (wr s0)) 0 5) + 1))) a3 = 8) ∧ P (.int (I (iv (setI (setI h 0 4 (wr s0)) 0 5 (wr ((iv (setI h 0 4 (wr s0)) 0 5) + 1))) a3 1))) (setI (setI h 0 4 (wr s0)) 0 5 (wr ((iv (setI h 0 4 (wr s0)) 0 5) + 1)))) : R 54 45 [.ref 0, a1, a2, .ref a3] [.int (I s0), .ref 0] h P := by
  refine R_puti (Dat dd_X_shakeOnce 23 rfl) rfl rfl rfl (tok S.t0) rfl (v := wr s0) rfl ?_
  refine R_aload_n (Dat dd_X_shakeOnce 24 rfl) rfl rfl ?_
  refine R_dup (Dat dd_X_shakeOnce 25 rfl) rfl ?_
  refine R_geti (Dat dd_X_shakeOnce 26 rfl) rfl rfl (tok S.t0) ?_
  refine R_iconst (Dat dd_X_shakeOnce 27 rfl) ?_
  refine R_iadd (Dat dd_X_shakeOnce 28 rfl) ?_
  refine R_puti (Dat dd_X_shakeOnce 29 rfl) rfl rfl rfl (tok S.t0) rfl (v := wr ((iv (setI h 0 4 (wr s0)) 0 5) + 1)) rfl ?_
  refine R_aload_n (Dat dd_X_shakeOnce 30 rfl) rfl rfl ?_
  obtain ⟨g1, T⟩ := T
  refine R_geti (Dat dd_X_shakeOnce 31 rfl) rfl rfl (tok g1) ?_
  exact R_ireturn (Dat dd_X_shakeOnce 32 rfl) rfl T
def dl_X_motionOf : List (Nat × Instr × Nat) := [(0, .aload_n 1, 1), (1, .getfield 332, 3), (4, .iload_n 2, 1), (5, .iconst 1, 1), (6, .isub, 1), (7, .aaload, 1), (8, .astore_n 3, 1), (9, .aload_n 3, 1), (10, .getfield 336, 3), (13, .aload_n 0, 1), (14, .getfield 12, 3), (17, .getfield 339, 3), (20, .if_icmp .eq 40, 3), (23, .aload_n 3, 1), (24, .aload_n 0, 1), (25, .getfield 12, 3), (28, .getfield 339, 3), (31, .putfield 336, 3), (34, .aload_n 3, 1), (35, .getfield 212, 3), (38, .aload_n 0, 1), (39, .getfield 12, 3), (42, .aload_n 1, 1), (43, .iload_n 2, 1), (44, .bipush (-9), 2), (46, .invokevirtual 223, 3), (49, .aload_n 3, 1), (50, .aload_n 0, 1), (51, .getfield 12, 3), (54, .getfield 204, 3), (57, .invokevirtual 342, 3), (60, .aload_n 3, 1), (61, .areturn, 1)]
theorem dd_X_motionOf : Dall 55 dl_X_motionOf = true := by decide +kernel
theorem t_X_motionOf {h : Hp} {P : Value → Hp → Prop} {p1 : Int} {p0 : Nat} (S : XS h) (T : (tg h p0 = 4) ∧ (fl h p0 1 = true) ∧ (tg h (child p0 1) ≠ 0) ∧ (21 ≤ tg h (child p0 1) ∧ tg h (child p0 1) ≤ 25) ∧ ((ln h (child p0 1) : Int) ≤ 2147483648) ∧ (0 ≤ (p1 - 1)) ∧ ((p1 - 1) < ln h (child p0 1)) ∧ (fl h (child p0 1) (p1 - 1).toNat = true) ∧ (tg h (child (child p0 1) (p1 - 1).toNat) ≠ 0) ∧ (tg h (child (child p0 1) (p1 - 1).toNat) = 6) ∧ (rng (iv h (child (child p0 1) (p1 - 1).toNat) 2)) ∧ (rng (iv h 1 3)) ∧ (((iv h (child (child p0 1) (p1 - 1).toNat) 2) = (iv h 1 3) → P (.ref (child (child p0 1) (p1 - 1).toNat)) h) ∧ (¬ (iv h (child (child p0 1) (p1 - 1).toNat) 2) = (iv h 1 3) → (tg h (child (child p0 1) (p1 - 1).toNat) = 6) ∧ (tg (setI h (child (child p0 1) (p1 - 1).toNat) 2 (wr (iv h 1 3))) (child (child p0 1) (p1 - 1).toNat) = 6) ∧ (fl (setI h (child (child p0 1) (p1 - 1).toNat) 2 (wr (iv h 1 3))) (child (child p0 1) (p1 - 1).toNat) 0 = true) ∧ (tg (setI h (child (child p0 1) (p1 - 1).toNat) 2 (wr (iv h 1 3))) (child (child (child p0 1) (p1 - 1).toNat) 0) ≠ 0) ∧ (tg (setI h (child (child p0 1) (p1 - 1).toNat) 2 (wr (iv h 1 3))) (child (child (child p0 1) (p1 - 1).toNat) 0) = 8) ∧ R 56 0 [.ref (child (child (child p0 1) (p1 - 1).toNat) 0), .ref 1, .ref p0, .int (I p1), .int (I (-9)), .retAddr 0, .retAddr 0, .retAddr 0, .retAddr 0] [] (setI h (child (child p0 1) (p1 - 1).toNat) 2 (wr (iv h 1 3))) (fun _ h2 => R 55 49 [.ref 0, .ref p0, .int (I p1), .ref (child (child p0 1) (p1 - 1).toNat)] [] h2 P)))) : R 55 0 [.ref 0, .ref p0, .int (I p1), .retAddr 0] [] h P := by
  refine R_aload_n (Dat dd_X_motionOf 0 rfl) rfl rfl ?_
  obtain ⟨g1, T⟩ := T
  obtain ⟨g2, T⟩ := T
  obtain ⟨g3, T⟩ := T
  refine R_getr (Dat dd_X_motionOf 1 rfl) rfl rfl (tok g1) g2 (q := child p0 1) rfl g3 ?_
  refine R_iload_n (Dat dd_X_motionOf 2 rfl) rfl ?_
  refine R_iconst (Dat dd_X_motionOf 3 rfl) ?_
  refine R_isub (Dat dd_X_motionOf 4 rfl) ?_
  obtain ⟨g4, T⟩ := T
  obtain ⟨g5, T⟩ := T
  obtain ⟨g6, T⟩ := T
  obtain ⟨g7, T⟩ := T
  obtain ⟨g8, T⟩ := T
  obtain ⟨g9, T⟩ := T
  refine R_aaload (Dat dd_X_motionOf 5 rfl) g4 g5 g6 g7 g8 rfl g9 ?_
  refine R_astore_n (Dat dd_X_motionOf 6 rfl) rfl rfl rfl ?_
  refine R_aload_n (Dat dd_X_motionOf 7 rfl) rfl rfl ?_
  obtain ⟨g10, T⟩ := T
  refine R_geti (Dat dd_X_motionOf 8 rfl) rfl rfl (tok g10) ?_
  refine R_aload_n (Dat dd_X_motionOf 9 rfl) rfl rfl ?_
  refine R_getr (Dat dd_X_motionOf 10 rfl) rfl rfl (tok S.t0) S.f0_0 (q := 1) rfl (tnz S.t1) ?_
  refine R_geti (Dat dd_X_motionOf 11 rfl) rfl rfl (tok S.t1) ?_
  obtain ⟨g11, T⟩ := T
  obtain ⟨g12, T⟩ := T
  refine R_ic_eq (Dat dd_X_motionOf 12 rfl) rfl g11 g12 (fun c => ?_) (fun c => ?_)
  · replace T := T.1 c
    refine R_aload_n (Dat dd_X_motionOf 31 rfl) rfl rfl ?_
    exact R_areturn (Dat dd_X_motionOf 32 rfl) rfl T
  · replace T := T.2 c
    refine R_aload_n (Dat dd_X_motionOf 13 rfl) rfl rfl ?_
    refine R_aload_n (Dat dd_X_motionOf 14 rfl) rfl rfl ?_
    refine R_getr (Dat dd_X_motionOf 15 rfl) rfl rfl (tok S.t0) S.f0_0 (q := 1) rfl (tnz S.t1) ?_
    refine R_geti (Dat dd_X_motionOf 16 rfl) rfl rfl (tok S.t1) ?_
    obtain ⟨g13, T⟩ := T
    refine R_puti (Dat dd_X_motionOf 17 rfl) rfl rfl rfl (tok g13) rfl (v := wr (iv h 1 3)) rfl ?_
    refine R_aload_n (Dat dd_X_motionOf 18 rfl) rfl rfl ?_
    obtain ⟨g14, T⟩ := T
    obtain ⟨g15, T⟩ := T
    obtain ⟨g16, T⟩ := T
    refine R_getr (Dat dd_X_motionOf 19 rfl) rfl rfl (tok g14) g15 (q := child (child (child p0 1) (p1 - 1).toNat) 0) rfl g16 ?_
    refine R_aload_n (Dat dd_X_motionOf 20 rfl) rfl rfl ?_
    refine R_getr (Dat dd_X_motionOf 21 rfl) rfl rfl (tok S.t0) S.f0_0 (q := 1) rfl (tnz S.t1) ?_
    refine R_aload_n (Dat dd_X_motionOf 22 rfl) rfl rfl ?_
    refine R_iload_n (Dat dd_X_motionOf 23 rfl) rfl ?_
    refine R_bipush (Dat dd_X_motionOf 24 rfl) (a := (-9)) rfl ?_
    obtain ⟨g17, T⟩ := T
    exact R_call1 (Dat dd_X_motionOf 25 rfl) rfl g17 rfl rfl rfl rfl rfl T
theorem t_X_motionOf_49 {h : Hp} {P : Value → Hp → Prop} {a3 : Nat} {a1 a2 : Value} (S : XS h) (T : (okg 55 58 [.ref 0, a1, a2, .ref a3] [] [.ref a3, .int (I (iv h 1 2))] = true) ∧ (tg h a3 = 6) ∧ R 58 0 [.ref a3, .int (I (iv h 1 2))] [] h (fun _ h2 => R 55 60 [.ref 0, a1, a2, .ref a3] [] h2 P)) : R 55 49 [.ref 0, a1, a2, .ref a3] [] h P := by
  refine R_aload_n (Dat dd_X_motionOf 26 rfl) rfl rfl ?_
  refine R_aload_n (Dat dd_X_motionOf 27 rfl) rfl rfl ?_
  refine R_getr (Dat dd_X_motionOf 28 rfl) rfl rfl (tok S.t0) S.f0_0 (q := 1) rfl (tnz S.t1) ?_
  refine R_geti (Dat dd_X_motionOf 29 rfl) rfl rfl (tok S.t1) ?_
  obtain ⟨g1, T⟩ := T
  obtain ⟨g2, T⟩ := T
  exact R_call1 (Dat dd_X_motionOf 30 rfl) rfl g2 rfl rfl rfl g1 rfl T
theorem t_X_motionOf_60 {h : Hp} {P : Value → Hp → Prop} {a3 : Nat} {a0 a1 a2 : Value} (S : XS h) (T : P (.ref a3) h) : R 55 60 [a0, a1, a2, .ref a3] [] h P := by
  refine R_aload_n (Dat dd_X_motionOf 31 rfl) rfl rfl ?_
  exact R_areturn (Dat dd_X_motionOf 32 rfl) rfl T
def dl_Arrays_fill_4 : List (Nat × Instr × Nat) := [(0, .aload_n 0, 1), (1, .arraylength, 1), (2, .iload_n 1, 1), (3, .iload_n 2, 1), (4, .invokestatic 13, 3), (7, .iload_n 1, 1), (8, .istore 4, 2), (10, .iload 4, 2), (12, .iload_n 2, 1), (13, .if_icmp .ge 14, 3), (16, .aload_n 0, 1), (17, .iload 4, 2), (19, .iload_n 3, 1), (20, .iastore, 1), (21, .iinc 4 1, 3), (24, .goto (-14), 3), (27, .return_, 1)]
theorem dd_Arrays_fill_4 : Dall 59 dl_Arrays_fill_4 = true := by decide +kernel
theorem t_Arrays_fill_4 {h : Hp} {P : Value → Hp → Prop} {p1 p2 p3 : Int} {p0 : Nat} (T : ((20 ≤ tg h p0 ∧ tg h p0 ≤ 25) ∨ tg h p0 = 30) ∧ R 60 0 [.int (I (ln h p0 : Int)), .int (I p1), .int (I p2)] [] h (fun _ h2 => R 59 7 [.ref p0, .int (I p1), .int (I p2), .int (I p3), .retAddr 0] [] h2 P)) : R 59 0 [.ref p0, .int (I p1), .int (I p2), .int (I p3), .retAddr 0] [] h P := by
  refine R_aload_n (Dat dd_Arrays_fill_4 0 rfl) rfl rfl ?_
  obtain ⟨g1, T⟩ := T
  refine R_alen (Dat dd_Arrays_fill_4 1 rfl) g1 ?_
  refine R_iload_n (Dat dd_Arrays_fill_4 2 rfl) rfl ?_
  refine R_iload_n (Dat dd_Arrays_fill_4 3 rfl) rfl ?_
  exact R_call0 (Dat dd_Arrays_fill_4 4 rfl) rfl rfl rfl rfl rfl rfl T
theorem t_Arrays_fill_4_7 {h : Hp} {P : Value → Hp → Prop} {a1 a2 a3 : Int} {a0 : Nat} {a4 : Value} (T : R 59 10 [.ref a0, .int (I a1), .int (I a2), .int (I a3), .int (I a1)] [] h P) : R 59 7 [.ref a0, .int (I a1), .int (I a2), .int (I a3), a4] [] h P := by
  refine R_iload_n (Dat dd_Arrays_fill_4 5 rfl) rfl ?_
  refine R_istore (Dat dd_Arrays_fill_4 6 rfl) rfl rfl ?_
  exact T
theorem t_Arrays_fill_4_10 {h : Hp} {P : Value → Hp → Prop} {a2 a3 a4 : Int} {a0 : Nat} {a1 : Value} (T : (rng a4) ∧ (rng a2) ∧ ((a4 < a2 → (tg h a0 = 20) ∧ ((ln h a0 : Int) ≤ 2147483648) ∧ (0 ≤ a4) ∧ (a4 < ln h a0) ∧ R 59 10 [.ref a0, a1, .int (I a2), .int (I a3), .int (I (a4 + 1))] [] (setI h a0 a4 (wr a3)) P) ∧ (¬ a4 < a2 → P .null h))) : R 59 10 [.ref a0, a1, .int (I a2), .int (I a3), .int (I a4)] [] h P := by
  refine R_iload (Dat dd_Arrays_fill_4 7 rfl) rfl ?_
  refine R_iload_n (Dat dd_Arrays_fill_4 8 rfl) rfl ?_
  obtain ⟨g1, T⟩ := T
  obtain ⟨g2, T⟩ := T
  refine R_ic_ge (Dat dd_Arrays_fill_4 9 rfl) rfl g1 g2 (fun c => ?_) (fun c => ?_)
  · replace T := T.1 c
    refine R_aload_n (Dat dd_Arrays_fill_4 10 rfl) rfl rfl ?_
    refine R_iload (Dat dd_Arrays_fill_4 11 rfl) rfl ?_
    refine R_iload_n (Dat dd_Arrays_fill_4 12 rfl) rfl ?_
    obtain ⟨g3, T⟩ := T
    obtain ⟨g4, T⟩ := T
    obtain ⟨g5, T⟩ := T
    obtain ⟨g6, T⟩ := T
    refine R_iastore (Dat dd_Arrays_fill_4 13 rfl) g3 g4 g5 g6 (v := wr a3) rfl ?_
    refine R_iinc (Dat dd_Arrays_fill_4 14 rfl) rfl rfl rfl ?_
    refine R_goto (Dat dd_Arrays_fill_4 15 rfl) rfl ?_
    exact T
  · replace T := T.2 c
    exact R_return (Dat dd_Arrays_fill_4 16 rfl) rfl T
def dl_Integer_bitCount : List (Nat × Instr × Nat) := [(0, .iload_n 0, 1), (1, .iload_n 0, 1), (2, .iconst 1, 1), (3, .iushr, 1), (4, .ldc_w 265, 3), (7, .iand, 1), (8, .isub, 1), (9, .istore_n 0, 1), (10, .iload_n 0, 1), (11, .ldc_w 266, 3), (14, .iand, 1), (15, .iload_n 0, 1), (16, .iconst 2, 1), (17, .iushr, 1), (18, .ldc_w 266, 3), (21, .iand, 1), (22, .iadd, 1), (23, .istore_n 0, 1), (24, .iload_n 0, 1), (25, .iload_n 0, 1), (26, .iconst 4, 1), (27, .iushr, 1), (28, .iadd, 1), (29, .ldc_w 267, 3), (32, .iand, 1), (33, .istore_n 0, 1), (34, .iload_n 0, 1), (35, .iload_n 0, 1), (36, .bipush 8, 2), (38, .iushr, 1), (39, .iadd, 1), (40, .istore_n 0, 1), (41, .iload_n 0, 1), (42, .iload_n 0, 1), (43, .bipush 16, 2), (45, .iushr, 1), (46, .iadd, 1), (47, .istore_n 0, 1), (48, .iload_n 0, 1), (49, .bipush 63, 2), (51, .iand, 1), (52, .ireturn, 1)]
theorem dd_Integer_bitCount : Dall 64 dl_Integer_bitCount = true := by decide +kernel
theorem t_Integer_bitCount {h : Hp} {P : Value → Hp → Prop} {p0 : Int} (T : P (.int (I (band (((band (((band (p0 - (band (ushr p0 1) 1431655765)) 858993459) + (band (ushr (p0 - (band (ushr p0 1) 1431655765)) 2) 858993459)) + (ushr ((band (p0 - (band (ushr p0 1) 1431655765)) 858993459) + (band (ushr (p0 - (band (ushr p0 1) 1431655765)) 2) 858993459)) 4)) 252645135) + (ushr (band (((band (p0 - (band (ushr p0 1) 1431655765)) 858993459) + (band (ushr (p0 - (band (ushr p0 1) 1431655765)) 2) 858993459)) + (ushr ((band (p0 - (band (ushr p0 1) 1431655765)) 858993459) + (band (ushr (p0 - (band (ushr p0 1) 1431655765)) 2) 858993459)) 4)) 252645135) 8)) + (ushr ((band (((band (p0 - (band (ushr p0 1) 1431655765)) 858993459) + (band (ushr (p0 - (band (ushr p0 1) 1431655765)) 2) 858993459)) + (ushr ((band (p0 - (band (ushr p0 1) 1431655765)) 858993459) + (band (ushr (p0 - (band (ushr p0 1) 1431655765)) 2) 858993459)) 4)) 252645135) + (ushr (band (((band (p0 - (band (ushr p0 1) 1431655765)) 858993459) + (band (ushr (p0 - (band (ushr p0 1) 1431655765)) 2) 858993459)) + (ushr ((band (p0 - (band (ushr p0 1) 1431655765)) 858993459) + (band (ushr (p0 - (band (ushr p0 1) 1431655765)) 2) 858993459)) 4)) 252645135) 8)) 16)) 63))) h) : R 64 0 [.int (I p0)] [] h P := by
  refine R_iload_n (Dat dd_Integer_bitCount 0 rfl) rfl ?_
  refine R_iload_n (Dat dd_Integer_bitCount 1 rfl) rfl ?_
  refine R_iconst (Dat dd_Integer_bitCount 2 rfl) ?_
  refine R_iushr (Dat dd_Integer_bitCount 3 rfl) ?_
  refine R_ldc_w (Dat dd_Integer_bitCount 4 rfl) (a := 1431655765) rfl ?_
  refine R_iand (Dat dd_Integer_bitCount 5 rfl) ?_
  refine R_isub (Dat dd_Integer_bitCount 6 rfl) ?_
  refine R_istore_n (Dat dd_Integer_bitCount 7 rfl) rfl rfl ?_
  refine R_iload_n (Dat dd_Integer_bitCount 8 rfl) rfl ?_
  refine R_ldc_w (Dat dd_Integer_bitCount 9 rfl) (a := 858993459) rfl ?_
  refine R_iand (Dat dd_Integer_bitCount 10 rfl) ?_
  refine R_iload_n (Dat dd_Integer_bitCount 11 rfl) rfl ?_
  refine R_iconst (Dat dd_Integer_bitCount 12 rfl) ?_
  refine R_iushr (Dat dd_Integer_bitCount 13 rfl) ?_
  refine R_ldc_w (Dat dd_Integer_bitCount 14 rfl) (a := 858993459) rfl ?_
  refine R_iand (Dat dd_Integer_bitCount 15 rfl) ?_
  refine R_iadd (Dat dd_Integer_bitCount 16 rfl) ?_
  refine R_istore_n (Dat dd_Integer_bitCount 17 rfl) rfl rfl ?_
  refine R_iload_n (Dat dd_Integer_bitCount 18 rfl) rfl ?_
  refine R_iload_n (Dat dd_Integer_bitCount 19 rfl) rfl ?_
  refine R_iconst (Dat dd_Integer_bitCount 20 rfl) ?_
  refine R_iushr (Dat dd_Integer_bitCount 21 rfl) ?_
  refine R_iadd (Dat dd_Integer_bitCount 22 rfl) ?_
  refine R_ldc_w (Dat dd_Integer_bitCount 23 rfl) (a := 252645135) rfl ?_
  refine R_iand (Dat dd_Integer_bitCount 24 rfl) ?_
  refine R_istore_n (Dat dd_Integer_bitCount 25 rfl) rfl rfl ?_
  refine R_iload_n (Dat dd_Integer_bitCount 26 rfl) rfl ?_
  refine R_iload_n (Dat dd_Integer_bitCount 27 rfl) rfl ?_
  refine R_bipush (Dat dd_Integer_bitCount 28 rfl) (a := 8) rfl ?_
  refine R_iushr (Dat dd_Integer_bitCount 29 rfl) ?_
  refine R_iadd (Dat dd_Integer_bitCount 30 rfl) ?_
  refine R_istore_n (Dat dd_Integer_bitCount 31 rfl) rfl rfl ?_
  refine R_iload_n (Dat dd_Integer_bitCount 32 rfl) rfl ?_
  refine R_iload_n (Dat dd_Integer_bitCount 33 rfl) rfl ?_
  refine R_bipush (Dat dd_Integer_bitCount 34 rfl) (a := 16) rfl ?_
  refine R_iushr (Dat dd_Integer_bitCount 35 rfl) ?_
  refine R_iadd (Dat dd_Integer_bitCount 36 rfl) ?_
  refine R_istore_n (Dat dd_Integer_bitCount 37 rfl) rfl rfl ?_
  refine R_iload_n (Dat dd_Integer_bitCount 38 rfl) rfl ?_
  refine R_bipush (Dat dd_Integer_bitCount 39 rfl) (a := 63) rfl ?_
  refine R_iand (Dat dd_Integer_bitCount 40 rfl) ?_
  exact R_ireturn (Dat dd_Integer_bitCount 41 rfl) rfl T
def dl_X_doing : List (Nat × Instr × Nat) := [(0, .aload_n 0, 1), (1, .iload_n 1, 1), (2, .iload_n 2, 1), (3, .iload_n 3, 1), (4, .iload 4, 2), (6, .invokevirtual 68, 3), (9, .istore 5, 2), (11, .iload 5, 2), (13, .ifCond .eq 6, 3), (16, .iload 5, 2), (18, .ireturn, 1), (19, .aload_n 0, 1), (20, .getfield 33, 3), (23, .iload_n 1, 1), (24, .aaload, 1), (25, .getfield 72, 3), (28, .astore 6, 2), (30, .aload 6, 2), (32, .iload_n 3, 1), (33, .iload 4, 2), (35, .invokestatic 184, 3), (38, .ifCond .ne 6, 3), (41, .bipush (-2), 2), (43, .ireturn, 1), (44, .aload_n 0, 1), (45, .invokevirtual 172, 3), (48, .astore 7, 2), (50, .aload_n 0, 1), (51, .invokevirtual 138, 3), (54, .ifCond .ne 8, 3), (57, .aload 7, 2), (59, .ifnonnull 6, 3), (62, .bipush (-3), 2), (64, .ireturn, 1), (65, .iconst 0, 1), (66, .istore 8, 2), (68, .iconst 0, 1), (69, .istore 9, 2), (71, .iload 9, 2), (73, .iload 4, 2), (75, .if_icmp .ge 27, 3), (78, .iload 8, 2), (80, .aload_n 0, 1), (81, .aload 7, 2), (83, .aload 6, 2), (85, .iload_n 3, 1), (86, .iload 9, 2), (88, .iadd, 1), (89, .iaload, 1), (90, .invokevirtual 180, 3), (93, .iadd, 1), (94, .istore 8, 2), (96, .iinc 9 1, 3), (99, .goto (-28), 3), (102, .iload 8, 2), (104, .ireturn, 1)]
theorem dd_X_doing : Dall 65 dl_X_doing = true := by decide +kernel
theorem t_X_doing {h : Hp} {P : Value → Hp → Prop} {p0 p1 p2 p3 : Int} (S : XS h) (T : R 8 0 [.ref 0, .int (I p0), .int (I p1), .int (I p2), .int (I p3), .retAddr 0] [] h (fun v h2 => R 65 9 [.ref 0, .int (I p0), .int (I p1), .int (I p2), .int (I p3), .retAddr 0, .retAddr 0, .retAddr 0, .retAddr 0, .retAddr 0] (v :: []) h2 P)) : R 65 0 [.ref 0, .int (I p0), .int (I p1), .int (I p2), .int (I p3), .retAddr 0, .retAddr 0, .retAddr 0, .retAddr 0, .retAddr 0] [] h P := by
  refine R_aload_n (Dat dd_X_doing 0 rfl) rfl rfl ?_
  refine R_iload_n (Dat dd_X_doing 1 rfl) rfl ?_
  refine R_iload_n (Dat dd_X_doing 2 rfl) rfl ?_
  refine R_iload_n (Dat dd_X_doing 3 rfl) rfl ?_
  refine R_iload (Dat dd_X_doing 4 rfl) rfl ?_
  exact R_call1 (Dat dd_X_doing 5 rfl) rfl S.t0 rfl rfl rfl rfl rfl T
theorem t_X_doing_9 {h : Hp} {P : Value → Hp → Prop} {a1 a3 a4 s0 : Int} {a2 a5 a6 a7 a8 a9 : Value} (S : XS h) (T : (rng s0) ∧ ((s0 = 0 → (0 ≤ a1) ∧ (a1 < 4) ∧ (fl h 7 (a1).toNat = true) ∧ (tg h (child 7 (a1).toNat) ≠ 0) ∧ (tg h (child 7 (a1).toNat) = 10) ∧ (fl h (child 7 (a1).toNat) 0 = true) ∧ (tg h (child (child 7 (a1).toNat) 0) ≠ 0) ∧ R 66 0 [.ref (child (child 7 (a1).toNat) 0), .int (I a3), .int (I a4), .retAddr 0] [] h (fun v h2 => R 65 38 [.ref 0, .int (I a1), a2, .int (I a3), .int (I a4), .int (I s0), .ref (child (child 7 (a1).toNat) 0), a7, a8, a9] (v :: []) h2 P)) ∧ (¬ s0 = 0 → P (.int (I s0)) h))) : R 65 9 [.ref 0, .int (I a1), a2, .int (I a3), .int (I a4), a5, a6, a7, a8, a9] [.int (I s0)] h P := by
  refine R_istore (Dat dd_X_doing 6 rfl) rfl rfl ?_
  refine R_iload (Dat dd_X_doing 7 rfl) rfl ?_
  obtain ⟨g1, T⟩ := T
  refine R_if_eq (Dat dd_X_doing 8 rfl) rfl g1  (fun c => ?_) (fun c => ?_)
  · replace T := T.1 c
    refine R_aload_n (Dat dd_X_doing 11 rfl) rfl rfl ?_
    refine R_getr (Dat dd_X_doing 12 rfl) rfl rfl (tok S.t0) S.f0_9 (q := 7) rfl (tnz S.t7) ?_
    refine R_iload_n (Dat dd_X_doing 13 rfl) rfl ?_
    obtain ⟨g2, T⟩ := T
    obtain ⟨g3, T⟩ := T
    obtain ⟨g4, T⟩ := T
    obtain ⟨g5, T⟩ := T
    refine R_aaload (Dat dd_X_doing 14 rfl) (by rw [show tg h 7 = 23 from S.t7]; decide) (lnle (show ln h 7 = 4 from S.l7) (by decide)) g2 (lnlt (show ln h 7 = 4 from S.l7) g3) g4 rfl g5 ?_
    obtain ⟨g6, T⟩ := T
    obtain ⟨g7, T⟩ := T
    obtain ⟨g8, T⟩ := T
    refine R_getr (Dat dd_X_doing 15 rfl) rfl rfl (tok g6) g7 (q := child (child 7 (a1).toNat) 0) rfl g8 ?_
    refine R_astore (Dat dd_X_doing 16 rfl) rfl rfl rfl ?_
    refine R_aload (Dat dd_X_doing 17 rfl) rfl rfl ?_
    refine R_iload_n (Dat dd_X_doing 18 rfl) rfl ?_
    refine R_iload (Dat dd_X_doing 19 rfl) rfl ?_
    exact R_call0 (Dat dd_X_doing 20 rfl) rfl rfl rfl rfl rfl rfl T
  · replace T := T.2 c
    refine R_iload (Dat dd_X_doing 9 rfl) rfl ?_
    exact R_ireturn (Dat dd_X_doing 10 rfl) rfl T
theorem t_X_doing_38 {h : Hp} {P : Value → Hp → Prop} {a3 a4 s0 : Int} {a6 : Nat} {a1 a2 a5 a7 a8 a9 : Value} (S : XS h) (T : (rng s0) ∧ ((s0 = 0 → P (.int (I (-2))) h) ∧ (¬ s0 = 0 → R 50 0 [.ref 0] [] h (fun v h2 => R 65 48 [.ref 0, a1, a2, .int (I a3), .int (I a4), a5, .ref a6, a7, a8, a9] (v :: []) h2 P)))) : R 65 38 [.ref 0, a1, a2, .int (I a3), .int (I a4), a5, .ref a6, a7, a8, a9] [.int (I s0)] h P := by
  obtain ⟨g1, T⟩ := T
  refine R_if_ne (Dat dd_X_doing 21 rfl) rfl g1  (fun c => ?_) (fun c => ?_)
  · replace T := T.1 c
    refine R_bipush (Dat dd_X_doing 22 rfl) (a := (-2)) rfl ?_
    exact R_ireturn (Dat dd_X_doing 23 rfl) rfl T
  · replace T := T.2 c
    refine R_aload_n (Dat dd_X_doing 24 rfl) rfl rfl ?_
    exact R_call1 (Dat dd_X_doing 25 rfl) rfl S.t0 rfl rfl rfl rfl rfl T
theorem t_X_doing_48 {h : Hp} {P : Value → Hp → Prop} {a3 a4 : Int} {a6 s0 : Nat} {a1 a2 a5 a7 a8 a9 : Value} (S : XS h) (T : R 36 0 [.ref 0] [] h (fun v h2 => R 65 54 [.ref 0, a1, a2, .int (I a3), .int (I a4), a5, .ref a6, .ref s0, a8, a9] (v :: []) h2 P)) : R 65 48 [.ref 0, a1, a2, .int (I a3), .int (I a4), a5, .ref a6, a7, a8, a9] [.ref s0] h P := by
  refine R_astore (Dat dd_X_doing 26 rfl) rfl rfl rfl ?_
  refine R_aload_n (Dat dd_X_doing 27 rfl) rfl rfl ?_
  exact R_call1 (Dat dd_X_doing 28 rfl) rfl S.t0 rfl rfl rfl rfl rfl T
theorem t_X_doing_48b {h : Hp} {P : Value → Hp → Prop} {a3 a4 : Int} {a6 : Nat} {a1 a2 a5 a7 a8 a9 : Value} (S : XS h) (T : R 36 0 [.ref 0] [] h (fun v h2 => R 65 54 [.ref 0, a1, a2, .int (I a3), .int (I a4), a5, .ref a6, .null, a8, a9] (v :: []) h2 P)) : R 65 48 [.ref 0, a1, a2, .int (I a3), .int (I a4), a5, .ref a6, a7, a8, a9] [.null] h P := by
  refine R_astore (Dat dd_X_doing 26 rfl) rfl rfl rfl ?_
  refine R_aload_n (Dat dd_X_doing 27 rfl) rfl rfl ?_
  exact R_call1 (Dat dd_X_doing 28 rfl) rfl S.t0 rfl rfl rfl rfl rfl T
theorem t_X_doing_54 {h : Hp} {P : Value → Hp → Prop} {a3 a4 s0 : Int} {a6 a7 : Nat} {a1 a2 a5 a8 a9 : Value} (S : XS h) (T : (rng s0) ∧ ((s0 = 0 → R 65 71 [.ref 0, a1, a2, .int (I a3), .int (I a4), a5, .ref a6, .ref a7, .int (I 0), .int (I 0)] [] h P) ∧ (¬ s0 = 0 → P (.int (I (-3))) h))) : R 65 54 [.ref 0, a1, a2, .int (I a3), .int (I a4), a5, .ref a6, .ref a7, a8, a9] [.int (I s0)] h P := by
  obtain ⟨g1, T⟩ := T
  refine R_if_ne (Dat dd_X_doing 29 rfl) rfl g1  (fun c => ?_) (fun c => ?_)
  · replace T := T.1 c
    refine R_aload (Dat dd_X_doing 30 rfl) rfl rfl ?_
    refine R_ifnn1 (Dat dd_X_doing 31 rfl) rfl ?_
    refine R_iconst (Dat dd_X_doing 34 rfl) ?_
    refine R_istore (Dat dd_X_doing 35 rfl) rfl rfl ?_
    refine R_iconst (Dat dd_X_doing 36 rfl) ?_
    refine R_istore (Dat dd_X_doing 37 rfl) rfl rfl ?_
    exact T
  · replace T := T.2 c
    refine R_bipush (Dat dd_X_doing 32 rfl) (a := (-3)) rfl ?_
    exact R_ireturn (Dat dd_X_doing 33 rfl) rfl T
theorem t_X_doing_54b {h : Hp} {P : Value → Hp → Prop} {a3 a4 s0 : Int} {a6 : Nat} {a1 a2 a5 a8 a9 : Value} (S : XS h) (T : (rng s0) ∧ ((s0 = 0 → P (.int (I (-3))) h) ∧ (¬ s0 = 0 → P (.int (I (-3))) h))) : R 65 54 [.ref 0, a1, a2, .int (I a3), .int (I a4), a5, .ref a6, .null, a8, a9] [.int (I s0)] h P := by
  obtain ⟨g1, T⟩ := T
  refine R_if_ne (Dat dd_X_doing 29 rfl) rfl g1  (fun c => ?_) (fun c => ?_)
  · replace T := T.1 c
    refine R_aload (Dat dd_X_doing 30 rfl) rfl rfl ?_
    refine R_ifnn0 (Dat dd_X_doing 31 rfl) ?_
    refine R_bipush (Dat dd_X_doing 32 rfl) (a := (-3)) rfl ?_
    exact R_ireturn (Dat dd_X_doing 33 rfl) rfl T
  · replace T := T.2 c
    refine R_bipush (Dat dd_X_doing 32 rfl) (a := (-3)) rfl ?_
    exact R_ireturn (Dat dd_X_doing 33 rfl) rfl T
theorem t_X_doing_71 {h : Hp} {P : Value → Hp → Prop} {a3 a4 a8 a9 : Int} {a6 a7 : Nat} {a1 a2 a5 : Value} (S : XS h) (T : (rng a9) ∧ (rng a4) ∧ ((a9 < a4 → (tg h a6 = 20 ∨ tg h a6 = 30) ∧ ((ln h a6 : Int) ≤ 2147483648) ∧ (0 ≤ (a3 + a9)) ∧ ((a3 + a9) < ln h a6) ∧ (okg 65 54 [.ref 0, a1, a2, .int (I a3), .int (I a4), a5, .ref a6, .ref a7, .int (I a8), .int (I a9)] [.int (I a8)] [.ref 0, .ref a7, .int (I (iv h a6 (a3 + a9)))] = true) ∧ R 54 0 [.ref 0, .ref a7, .int (I (iv h a6 (a3 + a9))), .retAddr 0] [] h (fun v h2 => R 65 93 [.ref 0, a1, a2, .int (I a3), .int (I a4), a5, .ref a6, .ref a7, .int (I a8), .int (I a9)] (v :: [.int (I a8)]) h2 P)) ∧ (¬ a9 < a4 → P (.int (I a8)) h))) : R 65 71 [.ref 0, a1, a2, .int (I a3), .int (I a4), a5, .ref a6, .ref a7, .int (I a8), .int (I a9)] [] h P := by
  refine R_iload (Dat dd_X_doing 38 rfl) rfl ?_
  refine R_iload (Dat dd_X_doing 39 rfl) rfl ?_
  obtain ⟨g1, T⟩ := T
  obtain ⟨g2, T⟩ := T
  refine R_ic_ge (Dat dd_X_doing 40 rfl) rfl g1 g2 (fun c => ?_) (fun c => ?_)
  · replace T := T.1 c
    refine R_iload (Dat dd_X_doing 41 rfl) rfl ?_
    refine R_aload_n (Dat dd_X_doing 42 rfl) rfl rfl ?_
    refine R_aload (Dat dd_X_doing 43 rfl) rfl rfl ?_
    refine R_aload (Dat dd_X_doing 44 rfl) rfl rfl ?_
    refine R_iload_n (Dat dd_X_doing 45 rfl) rfl ?_
    refine R_iload (Dat dd_X_doing 46 rfl) rfl ?_
    refine R_iadd (Dat dd_X_doing 47 rfl) ?_
    obtain ⟨g3, T⟩ := T
    obtain ⟨g4, T⟩ := T
    obtain ⟨g5, T⟩ := T
    obtain ⟨g6, T⟩ := T
    refine R_iaload (Dat dd_X_doing 48 rfl) g3 g4 g5 g6 ?_
    obtain ⟨g7, T⟩ := T
    exact R_call1 (Dat dd_X_doing 49 rfl) rfl S.t0 rfl rfl rfl g7 rfl T
  · replace T := T.2 c
    refine R_iload (Dat dd_X_doing 54 rfl) rfl ?_
    exact R_ireturn (Dat dd_X_doing 55 rfl) rfl T
theorem t_X_doing_93 {h : Hp} {P : Value → Hp → Prop} {a3 a4 a9 s0 s1 : Int} {a6 a7 : Nat} {a1 a2 a5 a8 : Value} (S : XS h) (T : R 65 71 [.ref 0, a1, a2, .int (I a3), .int (I a4), a5, .ref a6, .ref a7, .int (I (s1 + s0)), .int (I (a9 + 1))] [] h P) : R 65 93 [.ref 0, a1, a2, .int (I a3), .int (I a4), a5, .ref a6, .ref a7, a8, .int (I a9)] [.int (I s0), .int (I s1)] h P := by
  refine R_iadd (Dat dd_X_doing 50 rfl) ?_
  refine R_istore (Dat dd_X_doing 51 rfl) rfl rfl ?_
  refine R_iinc (Dat dd_X_doing 52 rfl) rfl rfl rfl ?_
  refine R_goto (Dat dd_X_doing 53 rfl) rfl ?_
  exact T
def dl_X_allHard : List (Nat × Instr × Nat) := [(0, .iload_n 1, 1), (1, .istore_n 3, 1), (2, .iload_n 3, 1), (3, .iload_n 1, 1), (4, .iload_n 2, 1), (5, .iadd, 1), (6, .if_icmp .ge 20, 3), (9, .aload_n 0, 1), (10, .iload_n 3, 1), (11, .iaload, 1), (12, .invokestatic 169, 3), (15, .ifCond .eq 5, 3), (18, .iconst 0, 1), (19, .ireturn, 1), (20, .iinc 3 1, 3), (23, .goto (-21), 3), (26, .iconst 1, 1), (27, .ireturn, 1)]
theorem dd_X_allHard : Dall 66 dl_X_allHard = true := by decide +kernel
theorem t_X_allHard {h : Hp} {P : Value → Hp → Prop} {p1 p2 : Int} {p0 : Nat} (T : R 66 2 [.ref p0, .int (I p1), .int (I p2), .int (I p1)] [] h P) : R 66 0 [.ref p0, .int (I p1), .int (I p2), .retAddr 0] [] h P := by
  refine R_iload_n (Dat dd_X_allHard 0 rfl) rfl ?_
  refine R_istore_n (Dat dd_X_allHard 1 rfl) rfl rfl ?_
  exact T
theorem t_X_allHard_2 {h : Hp} {P : Value → Hp → Prop} {a1 a2 a3 : Int} {a0 : Nat} (T : (rng a3) ∧ (rng (a1 + a2)) ∧ ((a3 < (a1 + a2) → (tg h a0 = 20 ∨ tg h a0 = 30) ∧ ((ln h a0 : Int) ≤ 2147483648) ∧ (0 ≤ a3) ∧ (a3 < ln h a0) ∧ R 49 0 [.int (I (iv h a0 a3))] [] h (fun v h2 => R 66 15 [.ref a0, .int (I a1), .int (I a2), .int (I a3)] (v :: []) h2 P)) ∧ (¬ a3 < (a1 + a2) → P (.int (I 1)) h))) : R 66 2 [.ref a0, .int (I a1), .int (I a2), .int (I a3)] [] h P := by
  refine R_iload_n (Dat dd_X_allHard 2 rfl) rfl ?_
  refine R_iload_n (Dat dd_X_allHard 3 rfl) rfl ?_
  refine R_iload_n (Dat dd_X_allHard 4 rfl) rfl ?_
  refine R_iadd (Dat dd_X_allHard 5 rfl) ?_
  obtain ⟨g1, T⟩ := T
  obtain ⟨g2, T⟩ := T
  refine R_ic_ge (Dat dd_X_allHard 6 rfl) rfl g1 g2 (fun c => ?_) (fun c => ?_)
  · replace T := T.1 c
    refine R_aload_n (Dat dd_X_allHard 7 rfl) rfl rfl ?_
    refine R_iload_n (Dat dd_X_allHard 8 rfl) rfl ?_
    obtain ⟨g3, T⟩ := T
    obtain ⟨g4, T⟩ := T
    obtain ⟨g5, T⟩ := T
    obtain ⟨g6, T⟩ := T
    refine R_iaload (Dat dd_X_allHard 9 rfl) g3 g4 g5 g6 ?_
    exact R_call0 (Dat dd_X_allHard 10 rfl) rfl rfl rfl rfl rfl rfl T
  · replace T := T.2 c
    refine R_iconst (Dat dd_X_allHard 16 rfl) ?_
    exact R_ireturn (Dat dd_X_allHard 17 rfl) rfl T
theorem t_X_allHard_15 {h : Hp} {P : Value → Hp → Prop} {a1 a2 a3 s0 : Int} {a0 : Nat} (T : (rng s0) ∧ ((s0 = 0 → R 66 2 [.ref a0, .int (I a1), .int (I a2), .int (I (a3 + 1))] [] h P) ∧ (¬ s0 = 0 → P (.int (I 0)) h))) : R 66 15 [.ref a0, .int (I a1), .int (I a2), .int (I a3)] [.int (I s0)] h P := by
  obtain ⟨g1, T⟩ := T
  refine R_if_eq (Dat dd_X_allHard 11 rfl) rfl g1  (fun c => ?_) (fun c => ?_)
  · replace T := T.1 c
    refine R_iinc (Dat dd_X_allHard 14 rfl) rfl rfl rfl ?_
    refine R_goto (Dat dd_X_allHard 15 rfl) rfl ?_
    exact T
  · replace T := T.2 c
    refine R_iconst (Dat dd_X_allHard 12 rfl) ?_
    exact R_ireturn (Dat dd_X_allHard 13 rfl) rfl T
def dl_X_turn : List (Nat × Instr × Nat) := [(0, .aload_n 0, 1), (1, .invokevirtual 138, 3), (4, .ifCond .eq 6, 3), (7, .bipush (-3), 2), (9, .ireturn, 1), (10, .aload_n 0, 1), (11, .aload_n 0, 1), (12, .aload_n 0, 1), (13, .getfield 86, 3), (16, .invokevirtual 188, 3), (19, .putfield 86, 3), (22, .aload_n 0, 1), (23, .getfield 86, 3), (26, .ireturn, 1)]
theorem dd_X_turn : Dall 67 dl_X_turn = true := by decide +kernel
theorem t_X_turn {h : Hp} {P : Value → Hp → Prop}  (S : XS h) (T : R 36 0 [.ref 0] [] h (fun v h2 => R 67 4 [.ref 0] (v :: []) h2 P)) : R 67 0 [.ref 0] [] h P := by
  refine R_aload_n (Dat dd_X_turn 0 rfl) rfl rfl ?_
  exact R_call1 (Dat dd_X_turn 1 rfl) rfl S.t0 rfl rfl rfl rfl rfl T
theorem t_X_turn_4 {h : Hp} {P : Value → Hp → Prop} {s0 : Int} (S : XS h) (T : (rng s0) ∧ ((s0 = 0 → R 68 0 [.ref 0, .int (I (iv h 0 4))] [] h (fun v h2 => R 67 19 [.ref 0] (v :: [.ref 0]) h2 P)) ∧ (¬ s0 = 0 → P (.int (I (-3))) h))) : R 67 4 [.ref 0] [.int (I s0)] h P := by
  obtain ⟨g1, T⟩ := T
  refine R_if_eq (Dat dd_X_turn 2 rfl) rfl g1  (fun c => ?_) (fun c => ?_)
  · replace T := T.1 c
    refine R_aload_n (Dat dd_X_turn 5 rfl) rfl rfl ?_
    refine R_aload_n (Dat dd_X_turn 6 rfl) rfl rfl ?_
    refine R_aload_n (Dat dd_X_turn 7 rfl) rfl rfl ?_
    refine R_geti (Dat dd_X_turn 8 rfl) rfl rfl (tok S.t0) ?_
    exact R_call1 (Dat dd_X_turn 9 rfl) rfl S.t0 rfl rfl rfl rfl rfl T
  · replace T := T.2 c
    refine R_bipush (Dat dd_X_turn 3 rfl) (a := (-3)) rfl ?_
    exact R_ireturn (Dat dd_X_turn 4 rfl) rfl T
theorem t_X_turn_19 {h : Hp} {P : Value → Hp → Prop} {s0 : Int} (S : XS h) (T : P (.int (I (iv (setI h 0 4 (wr s0)) 0 4))) (setI h 0 4 (wr s0))) : R 67 19 [.ref 0] [.int (I s0), .ref 0] h P := by
  refine R_puti (Dat dd_X_turn 10 rfl) rfl rfl rfl (tok S.t0) rfl (v := wr s0) rfl ?_
  refine R_aload_n (Dat dd_X_turn 11 rfl) rfl rfl ?_
  refine R_geti (Dat dd_X_turn 12 rfl) rfl rfl (tok S.t0) ?_
  exact R_ireturn (Dat dd_X_turn 13 rfl) rfl T
def dl_X_turned : List (Nat × Instr × Nat) := [(0, .aload_n 0, 1), (1, .getfield 12, 3), (4, .aload_n 0, 1), (5, .getfield 12, 3), (8, .aload_n 0, 1), (9, .getfield 12, 3), (12, .iload_n 1, 1), (13, .invokevirtual 124, 3), (16, .invokevirtual 351, 3), (19, .invokevirtual 348, 3), (22, .ireturn, 1)]
theorem dd_X_turned : Dall 68 dl_X_turned = true := by decide +kernel
theorem t_X_turned {h : Hp} {P : Value → Hp → Prop} {p0 : Int} (S : XS h) (T : R 29 0 [.ref 1, .int (I p0)] [] h (fun v h2 => R 68 16 [.ref 0, .int (I p0)] (v :: [.ref 1, .ref 1]) h2 P)) : R 68 0 [.ref 0, .int (I p0)] [] h P := by
  refine R_aload_n (Dat dd_X_turned 0 rfl) rfl rfl ?_
  refine R_getr (Dat dd_X_turned 1 rfl) rfl rfl (tok S.t0) S.f0_0 (q := 1) rfl (tnz S.t1) ?_
  refine R_aload_n (Dat dd_X_turned 2 rfl) rfl rfl ?_
  refine R_getr (Dat dd_X_turned 3 rfl) rfl rfl (tok S.t0) S.f0_0 (q := 1) rfl (tnz S.t1) ?_
  refine R_aload_n (Dat dd_X_turned 4 rfl) rfl rfl ?_
  refine R_getr (Dat dd_X_turned 5 rfl) rfl rfl (tok S.t0) S.f0_0 (q := 1) rfl (tnz S.t1) ?_
  refine R_iload_n (Dat dd_X_turned 6 rfl) rfl ?_
  exact R_call1 (Dat dd_X_turned 7 rfl) rfl S.t1 rfl rfl rfl rfl rfl T
theorem t_X_turned_16 {h : Hp} {P : Value → Hp → Prop} {s0 : Int} {a0 a1 : Value} (S : XS h) (T : R 69 0 [.ref 1, .int (I s0), .retAddr 0, .retAddr 0] [] h (fun v h2 => R 68 19 [a0, a1] (v :: [.ref 1]) h2 P)) : R 68 16 [a0, a1] [.int (I s0), .ref 1, .ref 1] h P := by
  exact R_call1 (Dat dd_X_turned 8 rfl) rfl S.t1 rfl rfl rfl rfl rfl T
theorem t_X_turned_19 {h : Hp} {P : Value → Hp → Prop} {s0 : Int} {a0 a1 : Value} (S : XS h) (T : R 63 0 [.ref 1, .int (I s0), .retAddr 0, .retAddr 0, .retAddr 0, .retAddr 0] [] h (fun v h2 => R 68 22 [a0, a1] (v :: []) h2 P)) : R 68 19 [a0, a1] [.int (I s0), .ref 1] h P := by
  exact R_call1 (Dat dd_X_turned 9 rfl) rfl S.t1 rfl rfl rfl rfl rfl T
theorem t_X_turned_22 {h : Hp} {P : Value → Hp → Prop} {s0 : Int} {a0 a1 : Value} (S : XS h) (T : P (.int (I s0)) h) : R 68 22 [a0, a1] [.int (I s0)] h P := by
  exact R_ireturn (Dat dd_X_turned 10 rfl) rfl T
def dl_X_spoon : List (Nat × Instr × Nat) := [(0, .aload_n 0, 1), (1, .invokevirtual 138, 3), (4, .ifCond .eq 6, 3), (7, .bipush (-3), 2), (9, .ireturn, 1), (10, .aload_n 0, 1), (11, .getfield 12, 3), (14, .aload_n 0, 1), (15, .getfield 86, 3), (18, .invokevirtual 124, 3), (21, .iconst 0, 1), (22, .invokestatic 135, 3), (25, .istore_n 1, 1), (26, .aload_n 0, 1), (27, .aload_n 0, 1), (28, .aload_n 0, 1), (29, .getfield 86, 3), (32, .invokevirtual 191, 3), (35, .putfield 86, 3), (38, .iload_n 1, 1), (39, .ireturn, 1)]
theorem dd_X_spoon : Dall 70 dl_X_spoon = true := by decide +kernel
theorem t_X_spoon {h : Hp} {P : Value → Hp → Prop}  (S : XS h) (T : R 36 0 [.ref 0] [] h (fun v h2 => R 70 4 [.ref 0, .retAddr 0] (v :: []) h2 P)) : R 70 0 [.ref 0, .retAddr 0] [] h P := by
  refine R_aload_n (Dat dd_X_spoon 0 rfl) rfl rfl ?_
  exact R_call1 (Dat dd_X_spoon 1 rfl) rfl S.t0 rfl rfl rfl rfl rfl T
theorem t_X_spoon_4 {h : Hp} {P : Value → Hp → Prop} {s0 : Int} {a1 : Value} (S : XS h) (T : (rng s0) ∧ ((s0 = 0 → R 29 0 [.ref 1, .int (I (iv h 0 4))] [] h (fun v h2 => R 70 21 [.ref 0, a1] (v :: []) h2 P)) ∧ (¬ s0 = 0 → P (.int (I (-3))) h))) : R 70 4 [.ref 0, a1] [.int (I s0)] h P := by
  obtain ⟨g1, T⟩ := T
  refine R_if_eq (Dat dd_X_spoon 2 rfl) rfl g1  (fun c => ?_) (fun c => ?_)
  · replace T := T.1 c
    refine R_aload_n (Dat dd_X_spoon 5 rfl) rfl rfl ?_
    refine R_getr (Dat dd_X_spoon 6 rfl) rfl rfl (tok S.t0) S.f0_0 (q := 1) rfl (tnz S.t1) ?_
    refine R_aload_n (Dat dd_X_spoon 7 rfl) rfl rfl ?_
    refine R_geti (Dat dd_X_spoon 8 rfl) rfl rfl (tok S.t0) ?_
    exact R_call1 (Dat dd_X_spoon 9 rfl) rfl S.t1 rfl rfl rfl rfl rfl T
  · replace T := T.2 c
    refine R_bipush (Dat dd_X_spoon 3 rfl) (a := (-3)) rfl ?_
    exact R_ireturn (Dat dd_X_spoon 4 rfl) rfl T
theorem t_X_spoon_21 {h : Hp} {P : Value → Hp → Prop} {s0 : Int} {a1 : Value} (S : XS h) (T : R 32 0 [.int (I s0), .int (I 0)] [] h (fun v h2 => R 70 25 [.ref 0, a1] (v :: []) h2 P)) : R 70 21 [.ref 0, a1] [.int (I s0)] h P := by
  refine R_iconst (Dat dd_X_spoon 10 rfl) ?_
  exact R_call0 (Dat dd_X_spoon 11 rfl) rfl rfl rfl rfl rfl rfl T
theorem t_X_spoon_25 {h : Hp} {P : Value → Hp → Prop} {s0 : Int} {a1 : Value} (S : XS h) (T : R 71 0 [.ref 0, .int (I (iv h 0 4))] [] h (fun v h2 => R 70 35 [.ref 0, .int (I s0)] (v :: [.ref 0]) h2 P)) : R 70 25 [.ref 0, a1] [.int (I s0)] h P := by
  refine R_istore_n (Dat dd_X_spoon 12 rfl) rfl rfl ?_
  refine R_aload_n (Dat dd_X_spoon 13 rfl) rfl rfl ?_
  refine R_aload_n (Dat dd_X_spoon 14 rfl) rfl rfl ?_
  refine R_aload_n (Dat dd_X_spoon 15 rfl) rfl rfl ?_
  refine R_geti (Dat dd_X_spoon 16 rfl) rfl rfl (tok S.t0) ?_
  exact R_call1 (Dat dd_X_spoon 17 rfl) rfl S.t0 rfl rfl rfl rfl rfl T
theorem t_X_spoon_35 {h : Hp} {P : Value → Hp → Prop} {a1 s0 : Int} {a0 : Value} (S : XS h) (T : P (.int (I a1)) (setI h 0 4 (wr s0))) : R 70 35 [a0, .int (I a1)] [.int (I s0), .ref 0] h P := by
  refine R_puti (Dat dd_X_spoon 18 rfl) rfl rfl rfl (tok S.t0) rfl (v := wr s0) rfl ?_
  refine R_iload_n (Dat dd_X_spoon 19 rfl) rfl ?_
  exact R_ireturn (Dat dd_X_spoon 20 rfl) rfl T
def dl_X_spooned : List (Nat × Instr × Nat) := [(0, .aload_n 0, 1), (1, .getfield 12, 3), (4, .aload_n 0, 1), (5, .getfield 12, 3), (8, .aload_n 0, 1), (9, .getfield 12, 3), (12, .iload_n 1, 1), (13, .invokevirtual 124, 3), (16, .invokevirtual 354, 3), (19, .invokevirtual 348, 3), (22, .ireturn, 1)]
theorem dd_X_spooned : Dall 71 dl_X_spooned = true := by decide +kernel
theorem t_X_spooned {h : Hp} {P : Value → Hp → Prop} {p0 : Int} (S : XS h) (T : R 29 0 [.ref 1, .int (I p0)] [] h (fun v h2 => R 71 16 [.ref 0, .int (I p0)] (v :: [.ref 1, .ref 1]) h2 P)) : R 71 0 [.ref 0, .int (I p0)] [] h P := by
  refine R_aload_n (Dat dd_X_spooned 0 rfl) rfl rfl ?_
  refine R_getr (Dat dd_X_spooned 1 rfl) rfl rfl (tok S.t0) S.f0_0 (q := 1) rfl (tnz S.t1) ?_
  refine R_aload_n (Dat dd_X_spooned 2 rfl) rfl rfl ?_
  refine R_getr (Dat dd_X_spooned 3 rfl) rfl rfl (tok S.t0) S.f0_0 (q := 1) rfl (tnz S.t1) ?_
  refine R_aload_n (Dat dd_X_spooned 4 rfl) rfl rfl ?_
  refine R_getr (Dat dd_X_spooned 5 rfl) rfl rfl (tok S.t0) S.f0_0 (q := 1) rfl (tnz S.t1) ?_
  refine R_iload_n (Dat dd_X_spooned 6 rfl) rfl ?_
  exact R_call1 (Dat dd_X_spooned 7 rfl) rfl S.t1 rfl rfl rfl rfl rfl T
theorem t_X_spooned_16 {h : Hp} {P : Value → Hp → Prop} {s0 : Int} {a0 a1 : Value} (S : XS h) (T : R 72 0 [.ref 1, .int (I s0)] [] h (fun v h2 => R 71 19 [a0, a1] (v :: [.ref 1]) h2 P)) : R 71 16 [a0, a1] [.int (I s0), .ref 1, .ref 1] h P := by
  exact R_call1 (Dat dd_X_spooned 8 rfl) rfl S.t1 rfl rfl rfl rfl rfl T
theorem t_X_spooned_19 {h : Hp} {P : Value → Hp → Prop} {s0 : Int} {a0 a1 : Value} (S : XS h) (T : R 63 0 [.ref 1, .int (I s0), .retAddr 0, .retAddr 0, .retAddr 0, .retAddr 0] [] h (fun v h2 => R 71 22 [a0, a1] (v :: []) h2 P)) : R 71 19 [a0, a1] [.int (I s0), .ref 1] h P := by
  exact R_call1 (Dat dd_X_spooned 9 rfl) rfl S.t1 rfl rfl rfl rfl rfl T
theorem t_X_spooned_22 {h : Hp} {P : Value → Hp → Prop} {s0 : Int} {a0 a1 : Value} (S : XS h) (T : P (.int (I s0)) h) : R 71 22 [a0, a1] [.int (I s0)] h P := by
  exact R_ireturn (Dat dd_X_spooned 10 rfl) rfl T
def dl_X_next : List (Nat × Instr × Nat) := [(0, .aload_n 0, 1), (1, .iload_n 1, 1), (2, .invokevirtual 142, 3), (5, .ifCond .eq 5, 3), (8, .iconst (-1), 1), (9, .ireturn, 1), (10, .iload_n 2, 1), (11, .invokestatic 169, 3), (14, .ifCond .eq 6, 3), (17, .bipush (-2), 2), (19, .ireturn, 1), (20, .aload_n 0, 1), (21, .invokevirtual 172, 3), (24, .astore_n 3, 1), (25, .aload_n 3, 1), (26, .ifnonnull 6, 3), (29, .bipush (-3), 2), (31, .ireturn, 1), (32, .aload_n 0, 1), (33, .aload_n 3, 1), (34, .iload_n 2, 1), (35, .invokevirtual 194, 3), (38, .aload_n 0, 1), (39, .getfield 12, 3), (42, .iload_n 1, 1), (43, .invokevirtual 198, 3), (46, .ireturn, 1)]
theorem dd_X_next : Dall 73 dl_X_next = true := by decide +kernel
theorem t_X_next {h : Hp} {P : Value → Hp → Prop} {p0 p1 : Int} (S : XS h) (T : R 38 0 [.ref 0, .int (I p0)] [] h (fun v h2 => R 73 5 [.ref 0, .int (I p0), .int (I p1), .retAddr 0] (v :: []) h2 P)) : R 73 0 [.ref 0, .int (I p0), .int (I p1), .retAddr 0] [] h P := by
  refine R_aload_n (Dat dd_X_next 0 rfl) rfl rfl ?_
  refine R_iload_n (Dat dd_X_next 1 rfl) rfl ?_
  exact R_call1 (Dat dd_X_next 2 rfl) rfl S.t0 rfl rfl rfl rfl rfl T
theorem t_X_next_5 {h : Hp} {P : Value → Hp → Prop} {a1 a2 s0 : Int} {a3 : Value} (S : XS h) (T : (rng s0) ∧ ((s0 = 0 → R 49 0 [.int (I a2)] [] h (fun v h2 => R 73 14 [.ref 0, .int (I a1), .int (I a2), a3] (v :: []) h2 P)) ∧ (¬ s0 = 0 → P (.int (I (-1))) h))) : R 73 5 [.ref 0, .int (I a1), .int (I a2), a3] [.int (I s0)] h P := by
  obtain ⟨g1, T⟩ := T
  refine R_if_eq (Dat dd_X_next 3 rfl) rfl g1  (fun c => ?_) (fun c => ?_)
  · replace T := T.1 c
    refine R_iload_n (Dat dd_X_next 6 rfl) rfl ?_
    exact R_call0 (Dat dd_X_next 7 rfl) rfl rfl rfl rfl rfl rfl T
  · replace T := T.2 c
    refine R_iconst (Dat dd_X_next 4 rfl) ?_
    exact R_ireturn (Dat dd_X_next 5 rfl) rfl T
theorem t_X_next_14 {h : Hp} {P : Value → Hp → Prop} {a1 a2 s0 : Int} {a3 : Value} (S : XS h) (T : (rng s0) ∧ ((s0 = 0 → R 50 0 [.ref 0] [] h (fun v h2 => R 73 24 [.ref 0, .int (I a1), .int (I a2), a3] (v :: []) h2 P)) ∧ (¬ s0 = 0 → P (.int (I (-2))) h))) : R 73 14 [.ref 0, .int (I a1), .int (I a2), a3] [.int (I s0)] h P := by
  obtain ⟨g1, T⟩ := T
  refine R_if_eq (Dat dd_X_next 8 rfl) rfl g1  (fun c => ?_) (fun c => ?_)
  · replace T := T.1 c
    refine R_aload_n (Dat dd_X_next 11 rfl) rfl rfl ?_
    exact R_call1 (Dat dd_X_next 12 rfl) rfl S.t0 rfl rfl rfl rfl rfl T
  · replace T := T.2 c
    refine R_bipush (Dat dd_X_next 9 rfl) (a := (-2)) rfl ?_
    exact R_ireturn (Dat dd_X_next 10 rfl) rfl T
theorem t_X_next_24 {h : Hp} {P : Value → Hp → Prop} {a1 a2 : Int} {s0 : Nat} {a3 : Value} (S : XS h) (T : (okg 73 55 [.ref 0, .int (I a1), .int (I a2), .ref s0] [] [.ref 0, .ref s0, .int (I a2)] = true) ∧ R 55 0 [.ref 0, .ref s0, .int (I a2), .retAddr 0] [] h (fun v h2 => R 73 38 [.ref 0, .int (I a1), .int (I a2), .ref s0] (v :: []) h2 P)) : R 73 24 [.ref 0, .int (I a1), .int (I a2), a3] [.ref s0] h P := by
  refine R_astore_n (Dat dd_X_next 13 rfl) rfl rfl rfl ?_
  refine R_aload_n (Dat dd_X_next 14 rfl) rfl rfl ?_
  refine R_ifnn1 (Dat dd_X_next 15 rfl) rfl ?_
  refine R_aload_n (Dat dd_X_next 18 rfl) rfl rfl ?_
  refine R_aload_n (Dat dd_X_next 19 rfl) rfl rfl ?_
  refine R_iload_n (Dat dd_X_next 20 rfl) rfl ?_
  obtain ⟨g1, T⟩ := T
  exact R_call1 (Dat dd_X_next 21 rfl) rfl S.t0 rfl rfl rfl g1 rfl T
theorem t_X_next_24b {h : Hp} {P : Value → Hp → Prop} {a1 a2 : Int} {a3 : Value} (S : XS h) (T : P (.int (I (-3))) h) : R 73 24 [.ref 0, .int (I a1), .int (I a2), a3] [.null] h P := by
  refine R_astore_n (Dat dd_X_next 13 rfl) rfl rfl rfl ?_
  refine R_aload_n (Dat dd_X_next 14 rfl) rfl rfl ?_
  refine R_ifnn0 (Dat dd_X_next 15 rfl) ?_
  refine R_bipush (Dat dd_X_next 16 rfl) (a := (-3)) rfl ?_
  exact R_ireturn (Dat dd_X_next 17 rfl) rfl T
theorem t_X_next_38 {h : Hp} {P : Value → Hp → Prop} {a1 : Int} {s0 : Nat} {a2 a3 : Value} (S : XS h) (T : (tg h s0 = 6) ∧ R 74 0 [.ref s0, .ref 1, .int (I a1)] [] h (fun v h2 => R 73 46 [.ref 0, .int (I a1), a2, a3] (v :: []) h2 P)) : R 73 38 [.ref 0, .int (I a1), a2, a3] [.ref s0] h P := by
  refine R_aload_n (Dat dd_X_next 22 rfl) rfl rfl ?_
  refine R_getr (Dat dd_X_next 23 rfl) rfl rfl (tok S.t0) S.f0_0 (q := 1) rfl (tnz S.t1) ?_
  refine R_iload_n (Dat dd_X_next 24 rfl) rfl ?_
  obtain ⟨g1, T⟩ := T
  exact R_call1 (Dat dd_X_next 25 rfl) rfl g1 rfl rfl rfl rfl rfl T
theorem t_X_next_46 {h : Hp} {P : Value → Hp → Prop} {s0 : Int} {a0 a1 a2 a3 : Value} (S : XS h) (T : P (.int (I s0)) h) : R 73 46 [a0, a1, a2, a3] [.int (I s0)] h P := by
  exact R_ireturn (Dat dd_X_next 26 rfl) rfl T
def dl_X_still : List (Nat × Instr × Nat) := [(0, .aload_n 0, 1), (1, .iload_n 1, 1), (2, .invokevirtual 142, 3), (5, .ifCond .eq 5, 3), (8, .iconst (-1), 1), (9, .ireturn, 1), (10, .iload_n 2, 1), (11, .invokestatic 169, 3), (14, .ifCond .ne 12, 3), (17, .iload_n 3, 1), (18, .ifCond .lt 8, 3), (21, .iload_n 3, 1), (22, .iconst 1, 1), (23, .if_icmp .le 6, 3), (26, .bipush (-2), 2), (28, .ireturn, 1), (29, .aload_n 0, 1), (30, .invokevirtual 172, 3), (33, .astore 4, 2), (35, .aload 4, 2), (37, .ifnonnull 6, 3), (40, .bipush (-3), 2), (42, .ireturn, 1), (43, .aload_n 0, 1), (44, .aload 4, 2), (46, .iload_n 2, 1), (47, .invokevirtual 194, 3), (50, .astore 5, 2), (52, .aload_n 0, 1), (53, .getfield 64, 3), (56, .iconst 0, 1), (57, .aload_n 0, 1), (58, .getfield 12, 3), (61, .getfield 204, 3), (64, .iconst 0, 1), (65, .invokestatic 207, 3), (68, .iload_n 1, 1), (69, .istore 6, 2), (71, .iconst 1, 1), (72, .istore 7, 2), (74, .iload 7, 2), (76, .aload_n 0, 1), (77, .getfield 12, 3), (80, .getfield 204, 3), (83, .if_icmp .gt 41, 3), (86, .aload_n 0, 1), (87, .getfield 64, 3), (90, .iload 6, 2), (92, .iaload, 1), (93, .ifCond .ne 31, 3), (96, .aload_n 0, 1), (97, .getfield 64, 3), (100, .iload 6, 2), (102, .iload 7, 2), (104, .iastore, 1), (105, .aload 5, 2), (107, .aload_n 0, 1), (108, .getfield 12, 3), (111, .iload 6, 2), (113, .invokevirtual 198, 3), (116, .istore 6, 2), (118, .iinc 7 1, 3), (121, .goto (-47), 3), (124, .iload_n 3, 1), (125, .ifCond .ne 15, 3), (128, .aload_n 0, 1), (129, .getfield 64, 3), (132, .iload 6, 2), (134, .iaload, 1), (135, .iconst 1, 1), (136, .isub, 1), (137, .goto 13, 3), (140, .iload 7, 2), (142, .aload_n 0, 1), (143, .getfield 64, 3), (146, .iload 6, 2), (148, .iaload, 1), (149, .isub, 1), (150, .ireturn, 1)]
theorem dd_X_still : Dall 75 dl_X_still = true := by decide +kernel
theorem t_X_still {h : Hp} {P : Value → Hp → Prop} {p0 p1 p2 : Int} (S : XS h) (T : R 38 0 [.ref 0, .int (I p0)] [] h (fun v h2 => R 75 5 [.ref 0, .int (I p0), .int (I p1), .int (I p2), .retAddr 0, .retAddr 0, .retAddr 0, .retAddr 0] (v :: []) h2 P)) : R 75 0 [.ref 0, .int (I p0), .int (I p1), .int (I p2), .retAddr 0, .retAddr 0, .retAddr 0, .retAddr 0] [] h P := by
  refine R_aload_n (Dat dd_X_still 0 rfl) rfl rfl ?_
  refine R_iload_n (Dat dd_X_still 1 rfl) rfl ?_
  exact R_call1 (Dat dd_X_still 2 rfl) rfl S.t0 rfl rfl rfl rfl rfl T
theorem t_X_still_5 {h : Hp} {P : Value → Hp → Prop} {a1 a2 a3 s0 : Int} {a4 a5 a6 a7 : Value} (S : XS h) (T : (rng s0) ∧ ((s0 = 0 → R 49 0 [.int (I a2)] [] h (fun v h2 => R 75 14 [.ref 0, .int (I a1), .int (I a2), .int (I a3), a4, a5, a6, a7] (v :: []) h2 P)) ∧ (¬ s0 = 0 → P (.int (I (-1))) h))) : R 75 5 [.ref 0, .int (I a1), .int (I a2), .int (I a3), a4, a5, a6, a7] [.int (I s0)] h P := by
  obtain ⟨g1, T⟩ := T
  refine R_if_eq (Dat dd_X_still 3 rfl) rfl g1  (fun c => ?_) (fun c => ?_)
  · replace T := T.1 c
    refine R_iload_n (Dat dd_X_still 6 rfl) rfl ?_
    exact R_call0 (Dat dd_X_still 7 rfl) rfl rfl rfl rfl rfl rfl T
  · replace T := T.2 c
    refine R_iconst (Dat dd_X_still 4 rfl) ?_
    exact R_ireturn (Dat dd_X_still 5 rfl) rfl T
theorem t_X_still_14 {h : Hp} {P : Value → Hp → Prop} {a1 a2 a3 s0 : Int} {a4 a5 a6 a7 : Value} (S : XS h) (T : (rng s0) ∧ ((s0 = 0 → (rng a3) ∧ ((a3 < 0 → P (.int (I (-2))) h) ∧ (¬ a3 < 0 → (rng a3) ∧ (((1 : Int) < a3 → P (.int (I (-2))) h) ∧ (¬ (1 : Int) < a3 → R 50 0 [.ref 0] [] h (fun v h2 => R 75 33 [.ref 0, .int (I a1), .int (I a2), .int (I a3), a4, a5, a6, a7] (v :: []) h2 P)))))) ∧ (¬ s0 = 0 → P (.int (I (-2))) h))) : R 75 14 [.ref 0, .int (I a1), .int (I a2), .int (I a3), a4, a5, a6, a7] [.int (I s0)] h P := by
  obtain ⟨g1, T⟩ := T
  refine R_if_ne (Dat dd_X_still 8 rfl) rfl g1  (fun c => ?_) (fun c => ?_)
  · replace T := T.1 c
    refine R_iload_n (Dat dd_X_still 9 rfl) rfl ?_
    obtain ⟨g2, T⟩ := T
    refine R_if_lt (Dat dd_X_still 10 rfl) rfl g2  (fun c => ?_) (fun c => ?_)
    · replace T := T.1 c
      refine R_bipush (Dat dd_X_still 14 rfl) (a := (-2)) rfl ?_
      exact R_ireturn (Dat dd_X_still 15 rfl) rfl T
    · replace T := T.2 c
      refine R_iload_n (Dat dd_X_still 11 rfl) rfl ?_
      refine R_iconst (Dat dd_X_still 12 rfl) ?_
      obtain ⟨g3, T⟩ := T
      refine R_ic_le (Dat dd_X_still 13 rfl) rfl g3 (by decide) (fun c => ?_) (fun c => ?_)
      · replace T := T.1 c
        refine R_bipush (Dat dd_X_still 14 rfl) (a := (-2)) rfl ?_
        exact R_ireturn (Dat dd_X_still 15 rfl) rfl T
      · replace T := T.2 c
        refine R_aload_n (Dat dd_X_still 16 rfl) rfl rfl ?_
        exact R_call1 (Dat dd_X_still 17 rfl) rfl S.t0 rfl rfl rfl rfl rfl T
  · replace T := T.2 c
    refine R_bipush (Dat dd_X_still 14 rfl) (a := (-2)) rfl ?_
    exact R_ireturn (Dat dd_X_still 15 rfl) rfl T
theorem t_X_still_33 {h : Hp} {P : Value → Hp → Prop} {a1 a2 a3 : Int} {s0 : Nat} {a4 a5 a6 a7 : Value} (S : XS h) (T : (okg 75 55 [.ref 0, .int (I a1), .int (I a2), .int (I a3), .ref s0, a5, a6, a7] [] [.ref 0, .ref s0, .int (I a2)] = true) ∧ R 55 0 [.ref 0, .ref s0, .int (I a2), .retAddr 0] [] h (fun v h2 => R 75 50 [.ref 0, .int (I a1), .int (I a2), .int (I a3), .ref s0, a5, a6, a7] (v :: []) h2 P)) : R 75 33 [.ref 0, .int (I a1), .int (I a2), .int (I a3), a4, a5, a6, a7] [.ref s0] h P := by
  refine R_astore (Dat dd_X_still 18 rfl) rfl rfl rfl ?_
  refine R_aload (Dat dd_X_still 19 rfl) rfl rfl ?_
  refine R_ifnn1 (Dat dd_X_still 20 rfl) rfl ?_
  refine R_aload_n (Dat dd_X_still 23 rfl) rfl rfl ?_
  refine R_aload (Dat dd_X_still 24 rfl) rfl rfl ?_
  refine R_iload_n (Dat dd_X_still 25 rfl) rfl ?_
  obtain ⟨g1, T⟩ := T
  exact R_call1 (Dat dd_X_still 26 rfl) rfl S.t0 rfl rfl rfl g1 rfl T
theorem t_X_still_33b {h : Hp} {P : Value → Hp → Prop} {a1 a2 a3 : Int} {a4 a5 a6 a7 : Value} (S : XS h) (T : P (.int (I (-3))) h) : R 75 33 [.ref 0, .int (I a1), .int (I a2), .int (I a3), a4, a5, a6, a7] [.null] h P := by
  refine R_astore (Dat dd_X_still 18 rfl) rfl rfl rfl ?_
  refine R_aload (Dat dd_X_still 19 rfl) rfl rfl ?_
  refine R_ifnn0 (Dat dd_X_still 20 rfl) ?_
  refine R_bipush (Dat dd_X_still 21 rfl) (a := (-3)) rfl ?_
  exact R_ireturn (Dat dd_X_still 22 rfl) rfl T
theorem t_X_still_50 {h : Hp} {P : Value → Hp → Prop} {a1 a3 : Int} {s0 : Nat} {a2 a4 a5 a6 a7 : Value} (S : XS h) (T : R 59 0 [.ref 26, .int (I 0), .int (I (iv h 1 2)), .int (I 0), .retAddr 0] [] h (fun _ h2 => R 75 68 [.ref 0, .int (I a1), a2, .int (I a3), a4, .ref s0, a6, a7] [] h2 P)) : R 75 50 [.ref 0, .int (I a1), a2, .int (I a3), a4, a5, a6, a7] [.ref s0] h P := by
  refine R_astore (Dat dd_X_still 27 rfl) rfl rfl rfl ?_
  refine R_aload_n (Dat dd_X_still 28 rfl) rfl rfl ?_
  refine R_getr (Dat dd_X_still 29 rfl) rfl rfl (tok S.t0) S.f0_16 (q := 26) rfl (tnz S.t26) ?_
  refine R_iconst (Dat dd_X_still 30 rfl) ?_
  refine R_aload_n (Dat dd_X_still 31 rfl) rfl rfl ?_
  refine R_getr (Dat dd_X_still 32 rfl) rfl rfl (tok S.t0) S.f0_0 (q := 1) rfl (tnz S.t1) ?_
  refine R_geti (Dat dd_X_still 33 rfl) rfl rfl (tok S.t1) ?_
  refine R_iconst (Dat dd_X_still 34 rfl) ?_
  exact R_call0 (Dat dd_X_still 35 rfl) rfl rfl rfl rfl rfl rfl T
theorem t_X_still_68 {h : Hp} {P : Value → Hp → Prop} {a1 a3 : Int} {a5 : Nat} {a2 a4 a6 a7 : Value} (S : XS h) (T : R 75 74 [.ref 0, .int (I a1), a2, .int (I a3), a4, .ref a5, .int (I a1), .int (I 1)] [] h P) : R 75 68 [.ref 0, .int (I a1), a2, .int (I a3), a4, .ref a5, a6, a7] [] h P := by
  refine R_iload_n (Dat dd_X_still 36 rfl) rfl ?_
  refine R_istore (Dat dd_X_still 37 rfl) rfl rfl ?_
  refine R_iconst (Dat dd_X_still 38 rfl) ?_
  refine R_istore (Dat dd_X_still 39 rfl) rfl rfl ?_
  exact T
theorem t_X_still_74 {h : Hp} {P : Value → Hp → Prop} {a3 a6 a7 : Int} {a5 : Nat} {a1 a2 a4 : Value} (S : XS h) (T : (rng a7) ∧ (rng (iv h 1 2)) ∧ (((iv h 1 2) < a7 → (rng a3) ∧ ((a3 = 0 → ((ln h 26 : Int) ≤ 2147483648) ∧ (0 ≤ a6) ∧ (a6 < ln h 26) ∧ P (.int (I ((iv h 26 a6) - 1))) h) ∧ (¬ a3 = 0 → ((ln h 26 : Int) ≤ 2147483648) ∧ (0 ≤ a6) ∧ (a6 < ln h 26) ∧ P (.int (I (a7 - (iv h 26 a6)))) h))) ∧ (¬ (iv h 1 2) < a7 → ((ln h 26 : Int) ≤ 2147483648) ∧ (0 ≤ a6) ∧ (a6 < ln h 26) ∧ (rng (iv h 26 a6)) ∧ (((iv h 26 a6) = 0 → ((ln h 26 : Int) ≤ 2147483648) ∧ (0 ≤ a6) ∧ (a6 < ln h 26) ∧ (tg (setI h 26 a6 (wr a7)) a5 = 6) ∧ R 74 0 [.ref a5, .ref 1, .int (I a6)] [] (setI h 26 a6 (wr a7)) (fun v h2 => R 75 116 [.ref 0, a1, a2, .int (I a3), a4, .ref a5, .int (I a6), .int (I a7)] (v :: []) h2 P)) ∧ (¬ (iv h 26 a6) = 0 → (rng a3) ∧ ((a3 = 0 → ((ln h 26 : Int) ≤ 2147483648) ∧ (0 ≤ a6) ∧ (a6 < ln h 26) ∧ P (.int (I ((iv h 26 a6) - 1))) h) ∧ (¬ a3 = 0 → ((ln h 26 : Int) ≤ 2147483648) ∧ (0 ≤ a6) ∧ (a6 < ln h 26) ∧ P (.int (I (a7 - (iv h 26 a6)))) h))))))) : R 75 74 [.ref 0, a1, a2, .int (I a3), a4, .ref a5, .int (I a6), .int (I a7)] [] h P := by
  refine R_iload (Dat dd_X_still 40 rfl) rfl ?_
  refine R_aload_n (Dat dd_X_still 41 rfl) rfl rfl ?_
  refine R_getr (Dat dd_X_still 42 rfl) rfl rfl (tok S.t0) S.f0_0 (q := 1) rfl (tnz S.t1) ?_
  refine R_geti (Dat dd_X_still 43 rfl) rfl rfl (tok S.t1) ?_
  obtain ⟨g1, T⟩ := T
  obtain ⟨g2, T⟩ := T
  refine R_ic_gt (Dat dd_X_still 44 rfl) rfl g1 g2 (fun c => ?_) (fun c => ?_)
  · replace T := T.1 c
    refine R_iload_n (Dat dd_X_still 63 rfl) rfl ?_
    obtain ⟨g3, T⟩ := T
    refine R_if_ne (Dat dd_X_still 64 rfl) rfl g3  (fun c => ?_) (fun c => ?_)
    · replace T := T.1 c
      refine R_aload_n (Dat dd_X_still 65 rfl) rfl rfl ?_
      refine R_getr (Dat dd_X_still 66 rfl) rfl rfl (tok S.t0) S.f0_16 (q := 26) rfl (tnz S.t26) ?_
      refine R_iload (Dat dd_X_still 67 rfl) rfl ?_
      obtain ⟨g4, T⟩ := T
      obtain ⟨g5, T⟩ := T
      obtain ⟨g6, T⟩ := T
      refine R_iaload (Dat dd_X_still 68 rfl) (Or.inl S.t26) g4 g5 g6 ?_
      refine R_iconst (Dat dd_X_still 69 rfl) ?_
      refine R_isub (Dat dd_X_still 70 rfl) ?_
      refine R_goto (Dat dd_X_still 71 rfl) rfl ?_
      exact R_ireturn (Dat dd_X_still 78 rfl) rfl T
    · replace T := T.2 c
      refine R_iload (Dat dd_X_still 72 rfl) rfl ?_
      refine R_aload_n (Dat dd_X_still 73 rfl) rfl rfl ?_
      refine R_getr (Dat dd_X_still 74 rfl) rfl rfl (tok S.t0) S.f0_16 (q := 26) rfl (tnz S.t26) ?_
      refine R_iload (Dat dd_X_still 75 rfl) rfl ?_
      obtain ⟨g7, T⟩ := T
      obtain ⟨g8, T⟩ := T
      obtain ⟨g9, T⟩ := T
      refine R_iaload (Dat dd_X_still 76 rfl) (Or.inl S.t26) g7 g8 g9 ?_
      refine R_isub (Dat dd_X_still 77 rfl) ?_
      exact R_ireturn (Dat dd_X_still 78 rfl) rfl T
  · replace T := T.2 c
    refine R_aload_n (Dat dd_X_still 45 rfl) rfl rfl ?_
    refine R_getr (Dat dd_X_still 46 rfl) rfl rfl (tok S.t0) S.f0_16 (q := 26) rfl (tnz S.t26) ?_
    refine R_iload (Dat dd_X_still 47 rfl) rfl ?_
    obtain ⟨g10, T⟩ := T
    obtain ⟨g11, T⟩ := T
    obtain ⟨g12, T⟩ := T
    refine R_iaload (Dat dd_X_still 48 rfl) (Or.inl S.t26) g10 g11 g12 ?_
    obtain ⟨g13, T⟩ := T
    refine R_if_ne (Dat dd_X_still 49 rfl) rfl g13  (fun c => ?_) (fun c => ?_)
    · replace T := T.1 c
      refine R_aload_n (Dat dd_X_still 50 rfl) rfl rfl ?_
      refine R_getr (Dat dd_X_still 51 rfl) rfl rfl (tok S.t0) S.f0_16 (q := 26) rfl (tnz S.t26) ?_
      refine R_iload (Dat dd_X_still 52 rfl) rfl ?_
      refine R_iload (Dat dd_X_still 53 rfl) rfl ?_
      obtain ⟨g14, T⟩ := T
      obtain ⟨g15, T⟩ := T
      obtain ⟨g16, T⟩ := T
      refine R_iastore (Dat dd_X_still 54 rfl) S.t26 g14 g15 g16 (v := wr a7) rfl ?_
      refine R_aload (Dat dd_X_still 55 rfl) rfl rfl ?_
      refine R_aload_n (Dat dd_X_still 56 rfl) rfl rfl ?_
      refine R_getr (Dat dd_X_still 57 rfl) rfl rfl (tok S.t0) S.f0_0 (q := 1) rfl (tnz S.t1) ?_
      refine R_iload (Dat dd_X_still 58 rfl) rfl ?_
      obtain ⟨g17, T⟩ := T
      exact R_call1 (Dat dd_X_still 59 rfl) rfl g17 rfl rfl rfl rfl rfl T
    · replace T := T.2 c
      refine R_iload_n (Dat dd_X_still 63 rfl) rfl ?_
      obtain ⟨g18, T⟩ := T
      refine R_if_ne (Dat dd_X_still 64 rfl) rfl g18  (fun c => ?_) (fun c => ?_)
      · replace T := T.1 c
        refine R_aload_n (Dat dd_X_still 65 rfl) rfl rfl ?_
        refine R_getr (Dat dd_X_still 66 rfl) rfl rfl (tok S.t0) S.f0_16 (q := 26) rfl (tnz S.t26) ?_
        refine R_iload (Dat dd_X_still 67 rfl) rfl ?_
        obtain ⟨g19, T⟩ := T
        obtain ⟨g20, T⟩ := T
        obtain ⟨g21, T⟩ := T
        refine R_iaload (Dat dd_X_still 68 rfl) (Or.inl S.t26) g19 g20 g21 ?_
        refine R_iconst (Dat dd_X_still 69 rfl) ?_
        refine R_isub (Dat dd_X_still 70 rfl) ?_
        refine R_goto (Dat dd_X_still 71 rfl) rfl ?_
        exact R_ireturn (Dat dd_X_still 78 rfl) rfl T
      · replace T := T.2 c
        refine R_iload (Dat dd_X_still 72 rfl) rfl ?_
        refine R_aload_n (Dat dd_X_still 73 rfl) rfl rfl ?_
        refine R_getr (Dat dd_X_still 74 rfl) rfl rfl (tok S.t0) S.f0_16 (q := 26) rfl (tnz S.t26) ?_
        refine R_iload (Dat dd_X_still 75 rfl) rfl ?_
        obtain ⟨g22, T⟩ := T
        obtain ⟨g23, T⟩ := T
        obtain ⟨g24, T⟩ := T
        refine R_iaload (Dat dd_X_still 76 rfl) (Or.inl S.t26) g22 g23 g24 ?_
        refine R_isub (Dat dd_X_still 77 rfl) ?_
        exact R_ireturn (Dat dd_X_still 78 rfl) rfl T
theorem t_X_still_116 {h : Hp} {P : Value → Hp → Prop} {a3 a7 s0 : Int} {a5 : Nat} {a1 a2 a4 a6 : Value} (S : XS h) (T : R 75 74 [.ref 0, a1, a2, .int (I a3), a4, .ref a5, .int (I s0), .int (I (a7 + 1))] [] h P) : R 75 116 [.ref 0, a1, a2, .int (I a3), a4, .ref a5, a6, .int (I a7)] [.int (I s0)] h P := by
  refine R_istore (Dat dd_X_still 60 rfl) rfl rfl ?_
  refine R_iinc (Dat dd_X_still 61 rfl) rfl rfl rfl ?_
  refine R_goto (Dat dd_X_still 62 rfl) rfl ?_
  exact T
def dl_X_soon : List (Nat × Instr × Nat) := [(0, .aload_n 0, 1), (1, .iload_n 1, 1), (2, .invokevirtual 99, 3), (5, .ifCond .ne 11, 3), (8, .aload_n 0, 1), (9, .iload_n 2, 1), (10, .invokevirtual 142, 3), (13, .ifCond .eq 5, 3), (16, .iconst (-1), 1), (17, .ireturn, 1), (18, .iload_n 3, 1), (19, .invokestatic 169, 3), (22, .ifCond .eq 6, 3), (25, .bipush (-2), 2), (27, .ireturn, 1), (28, .aload_n 0, 1), (29, .invokevirtual 172, 3), (32, .astore 4, 2), (34, .aload 4, 2), (36, .ifnonnull 6, 3), (39, .bipush (-3), 2), (41, .ireturn, 1), (42, .aload_n 0, 1), (43, .aload_n 0, 1), (44, .aload 4, 2), (46, .iload_n 3, 1), (47, .invokevirtual 194, 3), (50, .getfield 212, 3), (53, .iload_n 1, 1), (54, .iload_n 2, 1), (55, .invokevirtual 215, 3), (58, .ireturn, 1)]
theorem dd_X_soon : Dall 76 dl_X_soon = true := by decide +kernel
theorem t_X_soon {h : Hp} {P : Value → Hp → Prop} {p0 p1 p2 : Int} (S : XS h) (T : R 28 0 [.ref 0, .int (I p0)] [] h (fun v h2 => R 76 5 [.ref 0, .int (I p0), .int (I p1), .int (I p2), .retAddr 0] (v :: []) h2 P)) : R 76 0 [.ref 0, .int (I p0), .int (I p1), .int (I p2), .retAddr 0] [] h P := by
  refine R_aload_n (Dat dd_X_soon 0 rfl) rfl rfl ?_
  refine R_iload_n (Dat dd_X_soon 1 rfl) rfl ?_
  exact R_call1 (Dat dd_X_soon 2 rfl) rfl S.t0 rfl rfl rfl rfl rfl T
theorem t_X_soon_5 {h : Hp} {P : Value → Hp → Prop} {a1 a2 a3 s0 : Int} {a4 : Value} (S : XS h) (T : (rng s0) ∧ ((s0 = 0 → R 38 0 [.ref 0, .int (I a2)] [] h (fun v h2 => R 76 13 [.ref 0, .int (I a1), .int (I a2), .int (I a3), a4] (v :: []) h2 P)) ∧ (¬ s0 = 0 → P (.int (I (-1))) h))) : R 76 5 [.ref 0, .int (I a1), .int (I a2), .int (I a3), a4] [.int (I s0)] h P := by
  obtain ⟨g1, T⟩ := T
  refine R_if_ne (Dat dd_X_soon 3 rfl) rfl g1  (fun c => ?_) (fun c => ?_)
  · replace T := T.1 c
    refine R_aload_n (Dat dd_X_soon 4 rfl) rfl rfl ?_
    refine R_iload_n (Dat dd_X_soon 5 rfl) rfl ?_
    exact R_call1 (Dat dd_X_soon 6 rfl) rfl S.t0 rfl rfl rfl rfl rfl T
  · replace T := T.2 c
    refine R_iconst (Dat dd_X_soon 8 rfl) ?_
    exact R_ireturn (Dat dd_X_soon 9 rfl) rfl T
theorem t_X_soon_13 {h : Hp} {P : Value → Hp → Prop} {a1 a2 a3 s0 : Int} {a4 : Value} (S : XS h) (T : (rng s0) ∧ ((s0 = 0 → R 49 0 [.int (I a3)] [] h (fun v h2 => R 76 22 [.ref 0, .int (I a1), .int (I a2), .int (I a3), a4] (v :: []) h2 P)) ∧ (¬ s0 = 0 → P (.int (I (-1))) h))) : R 76 13 [.ref 0, .int (I a1), .int (I a2), .int (I a3), a4] [.int (I s0)] h P := by
  obtain ⟨g1, T⟩ := T
  refine R_if_eq (Dat dd_X_soon 7 rfl) rfl g1  (fun c => ?_) (fun c => ?_)
  · replace T := T.1 c
    refine R_iload_n (Dat dd_X_soon 10 rfl) rfl ?_
    exact R_call0 (Dat dd_X_soon 11 rfl) rfl rfl rfl rfl rfl rfl T
  · replace T := T.2 c
    refine R_iconst (Dat dd_X_soon 8 rfl) ?_
    exact R_ireturn (Dat dd_X_soon 9 rfl) rfl T
theorem t_X_soon_22 {h : Hp} {P : Value → Hp → Prop} {a1 a2 a3 s0 : Int} {a4 : Value} (S : XS h) (T : (rng s0) ∧ ((s0 = 0 → R 50 0 [.ref 0] [] h (fun v h2 => R 76 32 [.ref 0, .int (I a1), .int (I a2), .int (I a3), a4] (v :: []) h2 P)) ∧ (¬ s0 = 0 → P (.int (I (-2))) h))) : R 76 22 [.ref 0, .int (I a1), .int (I a2), .int (I a3), a4] [.int (I s0)] h P := by
  obtain ⟨g1, T⟩ := T
  refine R_if_eq (Dat dd_X_soon 12 rfl) rfl g1  (fun c => ?_) (fun c => ?_)
  · replace T := T.1 c
    refine R_aload_n (Dat dd_X_soon 15 rfl) rfl rfl ?_
    exact R_call1 (Dat dd_X_soon 16 rfl) rfl S.t0 rfl rfl rfl rfl rfl T
  · replace T := T.2 c
    refine R_bipush (Dat dd_X_soon 13 rfl) (a := (-2)) rfl ?_
    exact R_ireturn (Dat dd_X_soon 14 rfl) rfl T
theorem t_X_soon_32 {h : Hp} {P : Value → Hp → Prop} {a1 a2 a3 : Int} {s0 : Nat} {a4 : Value} (S : XS h) (T : (okg 76 55 [.ref 0, .int (I a1), .int (I a2), .int (I a3), .ref s0] [.ref 0] [.ref 0, .ref s0, .int (I a3)] = true) ∧ R 55 0 [.ref 0, .ref s0, .int (I a3), .retAddr 0] [] h (fun v h2 => R 76 50 [.ref 0, .int (I a1), .int (I a2), .int (I a3), .ref s0] (v :: [.ref 0]) h2 P)) : R 76 32 [.ref 0, .int (I a1), .int (I a2), .int (I a3), a4] [.ref s0] h P := by
  refine R_astore (Dat dd_X_soon 17 rfl) rfl rfl rfl ?_
  refine R_aload (Dat dd_X_soon 18 rfl) rfl rfl ?_
  refine R_ifnn1 (Dat dd_X_soon 19 rfl) rfl ?_
  refine R_aload_n (Dat dd_X_soon 22 rfl) rfl rfl ?_
  refine R_aload_n (Dat dd_X_soon 23 rfl) rfl rfl ?_
  refine R_aload (Dat dd_X_soon 24 rfl) rfl rfl ?_
  refine R_iload_n (Dat dd_X_soon 25 rfl) rfl ?_
  obtain ⟨g1, T⟩ := T
  exact R_call1 (Dat dd_X_soon 26 rfl) rfl S.t0 rfl rfl rfl g1 rfl T
theorem t_X_soon_32b {h : Hp} {P : Value → Hp → Prop} {a1 a2 a3 : Int} {a4 : Value} (S : XS h) (T : P (.int (I (-3))) h) : R 76 32 [.ref 0, .int (I a1), .int (I a2), .int (I a3), a4] [.null] h P := by
  refine R_astore (Dat dd_X_soon 17 rfl) rfl rfl rfl ?_
  refine R_aload (Dat dd_X_soon 18 rfl) rfl rfl ?_
  refine R_ifnn0 (Dat dd_X_soon 19 rfl) ?_
  refine R_bipush (Dat dd_X_soon 20 rfl) (a := (-3)) rfl ?_
  exact R_ireturn (Dat dd_X_soon 21 rfl) rfl T
theorem t_X_soon_50 {h : Hp} {P : Value → Hp → Prop} {a1 a2 : Int} {s0 : Nat} {a0 a3 a4 : Value} (S : XS h) (T : (tg h s0 = 6) ∧ (fl h s0 0 = true) ∧ (tg h (child s0 0) ≠ 0) ∧ R 77 0 [.ref 0, .ref (child s0 0), .int (I a1), .int (I a2), .retAddr 0, .retAddr 0, .retAddr 0] [] h (fun v h2 => R 76 58 [a0, .int (I a1), .int (I a2), a3, a4] (v :: []) h2 P)) : R 76 50 [a0, .int (I a1), .int (I a2), a3, a4] [.ref s0, .ref 0] h P := by
  obtain ⟨g1, T⟩ := T
  obtain ⟨g2, T⟩ := T
  obtain ⟨g3, T⟩ := T
  refine R_getr (Dat dd_X_soon 27 rfl) rfl rfl (tok g1) g2 (q := child s0 0) rfl g3 ?_
  refine R_iload_n (Dat dd_X_soon 28 rfl) rfl ?_
  refine R_iload_n (Dat dd_X_soon 29 rfl) rfl ?_
  exact R_call1 (Dat dd_X_soon 30 rfl) rfl S.t0 rfl rfl rfl rfl rfl T
theorem t_X_soon_58 {h : Hp} {P : Value → Hp → Prop} {s0 : Int} {a0 a1 a2 a3 a4 : Value} (S : XS h) (T : P (.int (I s0)) h) : R 76 58 [a0, a1, a2, a3, a4] [.int (I s0)] h P := by
  exact R_ireturn (Dat dd_X_soon 31 rfl) rfl T
def dl_X_soonBy : List (Nat × Instr × Nat) := [(0, .aload_n 0, 1), (1, .getfield 12, 3), (4, .iload_n 3, 1), (5, .invokevirtual 124, 3), (8, .istore 4, 2), (10, .bipush (-9), 2), (12, .istore 5, 2), (14, .iconst 0, 1), (15, .istore 6, 2), (17, .iload 6, 2), (19, .aload_n 0, 1), (20, .getfield 12, 3), (23, .getfield 204, 3), (26, .if_icmp .gt 72, 3), (29, .iload 4, 2), (31, .aload_n 0, 1), (32, .getfield 12, 3), (35, .getfield 96, 3), (38, .iconst 1, 1), (39, .isub, 1), (40, .invokestatic 135, 3), (43, .iload_n 2, 1), (44, .if_icmp .ne 6, 3), (47, .iload 6, 2), (49, .ireturn, 1), (50, .iload 4, 2), (52, .iload 5, 2), (54, .if_icmp .ne 6, 3), (57, .bipush (-9), 2), (59, .ireturn, 1), (60, .iload 6, 2), (62, .invokestatic 272, 3), (65, .ifCond .eq 8, 3), (68, .iload 4, 2), (70, .goto 5, 3), (73, .iload 5, 2), (75, .istore 5, 2), (77, .aload_n 1, 1), (78, .iload 4, 2), (80, .aload_n 0, 1), (81, .getfield 12, 3), (84, .getfield 96, 3), (87, .invokevirtual 275, 3), (90, .istore 4, 2), (92, .iinc 6 1, 3), (95, .goto (-78), 3), (98, .bipush (-9), 2), (100, .ireturn, 1)]
theorem dd_X_soonBy : Dall 77 dl_X_soonBy = true := by decide +kernel
theorem t_X_soonBy {h : Hp} {P : Value → Hp → Prop} {p1 p2 : Int} {p0 : Nat} (S : XS h) (T : R 29 0 [.ref 1, .int (I p2)] [] h (fun v h2 => R 77 8 [.ref 0, .ref p0, .int (I p1), .int (I p2), .retAddr 0, .retAddr 0, .retAddr 0] (v :: []) h2 P)) : R 77 0 [.ref 0, .ref p0, .int (I p1), .int (I p2), .retAddr 0, .retAddr 0, .retAddr 0] [] h P := by
  refine R_aload_n (Dat dd_X_soonBy 0 rfl) rfl rfl ?_
  refine R_getr (Dat dd_X_soonBy 1 rfl) rfl rfl (tok S.t0) S.f0_0 (q := 1) rfl (tnz S.t1) ?_
  refine R_iload_n (Dat dd_X_soonBy 2 rfl) rfl ?_
  exact R_call1 (Dat dd_X_soonBy 3 rfl) rfl S.t1 rfl rfl rfl rfl rfl T
theorem t_X_soonBy_8 {h : Hp} {P : Value → Hp → Prop} {a2 s0 : Int} {a1 : Nat} {a3 a4 a5 a6 : Value} (S : XS h) (T : R 77 17 [.ref 0, .ref a1, .int (I a2), a3, .int (I s0), .int (I (-9)), .int (I 0)] [] h P) : R 77 8 [.ref 0, .ref a1, .int (I a2), a3, a4, a5, a6] [.int (I s0)] h P := by
  refine R_istore (Dat dd_X_soonBy 4 rfl) rfl rfl ?_
  refine R_bipush (Dat dd_X_soonBy 5 rfl) (a := (-9)) rfl ?_
  refine R_istore (Dat dd_X_soonBy 6 rfl) rfl rfl ?_
  refine R_iconst (Dat dd_X_soonBy 7 rfl) ?_
  refine R_istore (Dat dd_X_soonBy 8 rfl) rfl rfl ?_
  exact T
theorem t_X_soonBy_17 {h : Hp} {P : Value → Hp → Prop} {a2 a4 a5 a6 : Int} {a1 : Nat} {a3 : Value} (S : XS h) (T : (rng a6) ∧ (rng (iv h 1 2)) ∧ (((iv h 1 2) < a6 → P (.int (I (-9))) h) ∧ (¬ (iv h 1 2) < a6 → R 32 0 [.int (I a4), .int (I ((iv h 1 1) - 1))] [] h (fun v h2 => R 77 43 [.ref 0, .ref a1, .int (I a2), a3, .int (I a4), .int (I a5), .int (I a6)] (v :: []) h2 P)))) : R 77 17 [.ref 0, .ref a1, .int (I a2), a3, .int (I a4), .int (I a5), .int (I a6)] [] h P := by
  refine R_iload (Dat dd_X_soonBy 9 rfl) rfl ?_
  refine R_aload_n (Dat dd_X_soonBy 10 rfl) rfl rfl ?_
  refine R_getr (Dat dd_X_soonBy 11 rfl) rfl rfl (tok S.t0) S.f0_0 (q := 1) rfl (tnz S.t1) ?_
  refine R_geti (Dat dd_X_soonBy 12 rfl) rfl rfl (tok S.t1) ?_
  obtain ⟨g1, T⟩ := T
  obtain ⟨g2, T⟩ := T
  refine R_ic_gt (Dat dd_X_soonBy 13 rfl) rfl g1 g2 (fun c => ?_) (fun c => ?_)
  · replace T := T.1 c
    refine R_bipush (Dat dd_X_soonBy 46 rfl) (a := (-9)) rfl ?_
    exact R_ireturn (Dat dd_X_soonBy 47 rfl) rfl T
  · replace T := T.2 c
    refine R_iload (Dat dd_X_soonBy 14 rfl) rfl ?_
    refine R_aload_n (Dat dd_X_soonBy 15 rfl) rfl rfl ?_
    refine R_getr (Dat dd_X_soonBy 16 rfl) rfl rfl (tok S.t0) S.f0_0 (q := 1) rfl (tnz S.t1) ?_
    refine R_geti (Dat dd_X_soonBy 17 rfl) rfl rfl (tok S.t1) ?_
    refine R_iconst (Dat dd_X_soonBy 18 rfl) ?_
    refine R_isub (Dat dd_X_soonBy 19 rfl) ?_
    exact R_call0 (Dat dd_X_soonBy 20 rfl) rfl rfl rfl rfl rfl rfl T
theorem t_X_soonBy_43 {h : Hp} {P : Value → Hp → Prop} {a2 a4 a5 a6 s0 : Int} {a1 : Nat} {a3 : Value} (S : XS h) (T : (rng s0) ∧ (rng a2) ∧ ((s0 = a2 → P (.int (I a6)) h) ∧ (¬ s0 = a2 → (rng a4) ∧ (rng a5) ∧ ((a4 = a5 → P (.int (I (-9))) h) ∧ (¬ a4 = a5 → R 78 0 [.int (I a6)] [] h (fun v h2 => R 77 65 [.ref 0, .ref a1, .int (I a2), a3, .int (I a4), .int (I a5), .int (I a6)] (v :: []) h2 P)))))) : R 77 43 [.ref 0, .ref a1, .int (I a2), a3, .int (I a4), .int (I a5), .int (I a6)] [.int (I s0)] h P := by
  refine R_iload_n (Dat dd_X_soonBy 21 rfl) rfl ?_
  obtain ⟨g1, T⟩ := T
  obtain ⟨g2, T⟩ := T
  refine R_ic_ne (Dat dd_X_soonBy 22 rfl) rfl g1 g2 (fun c => ?_) (fun c => ?_)
  · replace T := T.1 c
    refine R_iload (Dat dd_X_soonBy 23 rfl) rfl ?_
    exact R_ireturn (Dat dd_X_soonBy 24 rfl) rfl T
  · replace T := T.2 c
    refine R_iload (Dat dd_X_soonBy 25 rfl) rfl ?_
    refine R_iload (Dat dd_X_soonBy 26 rfl) rfl ?_
    obtain ⟨g3, T⟩ := T
    obtain ⟨g4, T⟩ := T
    refine R_ic_ne (Dat dd_X_soonBy 27 rfl) rfl g3 g4 (fun c => ?_) (fun c => ?_)
    · replace T := T.1 c
      refine R_bipush (Dat dd_X_soonBy 28 rfl) (a := (-9)) rfl ?_
      exact R_ireturn (Dat dd_X_soonBy 29 rfl) rfl T
    · replace T := T.2 c
      refine R_iload (Dat dd_X_soonBy 30 rfl) rfl ?_
      exact R_call0 (Dat dd_X_soonBy 31 rfl) rfl rfl rfl rfl rfl rfl T
theorem t_X_soonBy_65 {h : Hp} {P : Value → Hp → Prop} {a2 a4 a5 a6 s0 : Int} {a1 : Nat} {a3 : Value} (S : XS h) (T : (rng s0) ∧ ((s0 = 0 → (tg h a1 = 8) ∧ R 61 0 [.ref a1, .int (I a4), .int (I (iv h 1 1))] [] h (fun v h2 => R 77 90 [.ref 0, .ref a1, .int (I a2), a3, .int (I a4), .int (I a5), .int (I a6)] (v :: []) h2 P)) ∧ (¬ s0 = 0 → (tg h a1 = 8) ∧ R 61 0 [.ref a1, .int (I a4), .int (I (iv h 1 1))] [] h (fun v h2 => R 77 90 [.ref 0, .ref a1, .int (I a2), a3, .int (I a4), .int (I a4), .int (I a6)] (v :: []) h2 P)))) : R 77 65 [.ref 0, .ref a1, .int (I a2), a3, .int (I a4), .int (I a5), .int (I a6)] [.int (I s0)] h P := by
  obtain ⟨g1, T⟩ := T
  refine R_if_eq (Dat dd_X_soonBy 32 rfl) rfl g1  (fun c => ?_) (fun c => ?_)
  · replace T := T.1 c
    refine R_iload (Dat dd_X_soonBy 35 rfl) rfl ?_
    refine R_istore (Dat dd_X_soonBy 36 rfl) rfl rfl ?_
    refine R_aload_n (Dat dd_X_soonBy 37 rfl) rfl rfl ?_
    refine R_iload (Dat dd_X_soonBy 38 rfl) rfl ?_
    refine R_aload_n (Dat dd_X_soonBy 39 rfl) rfl rfl ?_
    refine R_getr (Dat dd_X_soonBy 40 rfl) rfl rfl (tok S.t0) S.f0_0 (q := 1) rfl (tnz S.t1) ?_
    refine R_geti (Dat dd_X_soonBy 41 rfl) rfl rfl (tok S.t1) ?_
    obtain ⟨g2, T⟩ := T
    exact R_call1 (Dat dd_X_soonBy 42 rfl) rfl g2 rfl rfl rfl rfl rfl T
  · replace T := T.2 c
    refine R_iload (Dat dd_X_soonBy 33 rfl) rfl ?_
    refine R_goto (Dat dd_X_soonBy 34 rfl) rfl ?_
    refine R_istore (Dat dd_X_soonBy 36 rfl) rfl rfl ?_
    refine R_aload_n (Dat dd_X_soonBy 37 rfl) rfl rfl ?_
    refine R_iload (Dat dd_X_soonBy 38 rfl) rfl ?_
    refine R_aload_n (Dat dd_X_soonBy 39 rfl) rfl rfl ?_
    refine R_getr (Dat dd_X_soonBy 40 rfl) rfl rfl (tok S.t0) S.f0_0 (q := 1) rfl (tnz S.t1) ?_
    refine R_geti (Dat dd_X_soonBy 41 rfl) rfl rfl (tok S.t1) ?_
    obtain ⟨g3, T⟩ := T
    exact R_call1 (Dat dd_X_soonBy 42 rfl) rfl g3 rfl rfl rfl rfl rfl T
theorem t_X_soonBy_90 {h : Hp} {P : Value → Hp → Prop} {a2 a5 a6 s0 : Int} {a1 : Nat} {a3 a4 : Value} (S : XS h) (T : R 77 17 [.ref 0, .ref a1, .int (I a2), a3, .int (I s0), .int (I a5), .int (I (a6 + 1))] [] h P) : R 77 90 [.ref 0, .ref a1, .int (I a2), a3, a4, .int (I a5), .int (I a6)] [.int (I s0)] h P := by
  refine R_istore (Dat dd_X_soonBy 43 rfl) rfl rfl ?_
  refine R_iinc (Dat dd_X_soonBy 44 rfl) rfl rfl rfl ?_
  refine R_goto (Dat dd_X_soonBy 45 rfl) rfl ?_
  exact T
def dl_X_isTimeToMark : List (Nat × Instr × Nat) := [(0, .iload_n 0, 1), (1, .iload_n 0, 1), (2, .iconst 1, 1), (3, .isub, 1), (4, .iand, 1), (5, .ifCond .ne 7, 3), (8, .iconst 1, 1), (9, .goto 4, 3), (12, .iconst 0, 1), (13, .ireturn, 1)]
theorem dd_X_isTimeToMark : Dall 78 dl_X_isTimeToMark = true := by decide +kernel
theorem t_X_isTimeToMark {h : Hp} {P : Value → Hp → Prop} {p0 : Int} (T : (rng (band p0 (p0 - 1))) ∧ (((band p0 (p0 - 1)) = 0 → P (.int (I 1)) h) ∧ (¬ (band p0 (p0 - 1)) = 0 → P (.int (I 0)) h))) : R 78 0 [.int (I p0)] [] h P := by
  refine R_iload_n (Dat dd_X_isTimeToMark 0 rfl) rfl ?_
  refine R_iload_n (Dat dd_X_isTimeToMark 1 rfl) rfl ?_
  refine R_iconst (Dat dd_X_isTimeToMark 2 rfl) ?_
  refine R_isub (Dat dd_X_isTimeToMark 3 rfl) ?_
  refine R_iand (Dat dd_X_isTimeToMark 4 rfl) ?_
  obtain ⟨g1, T⟩ := T
  refine R_if_ne (Dat dd_X_isTimeToMark 5 rfl) rfl g1  (fun c => ?_) (fun c => ?_)
  · replace T := T.1 c
    refine R_iconst (Dat dd_X_isTimeToMark 6 rfl) ?_
    refine R_goto (Dat dd_X_isTimeToMark 7 rfl) rfl ?_
    exact R_ireturn (Dat dd_X_isTimeToMark 9 rfl) rfl T
  · replace T := T.2 c
    refine R_iconst (Dat dd_X_isTimeToMark 8 rfl) ?_
    exact R_ireturn (Dat dd_X_isTimeToMark 9 rfl) rfl T
def dl_X_boss : List (Nat × Instr × Nat) := [(0, .aload_n 0, 1), (1, .iload_n 1, 1), (2, .iload_n 2, 1), (3, .iload_n 3, 1), (4, .invokevirtual 219, 3), (7, .istore 4, 2), (9, .aload_n 0, 1), (10, .invokevirtual 172, 3), (13, .astore 5, 2), (15, .iload 4, 2), (17, .ifCond .ge 10, 3), (20, .iload 4, 2), (22, .bipush (-9), 2), (24, .if_icmp .ne 8, 3), (27, .aload 5, 2), (29, .ifnonnull 6, 3), (32, .iload 4, 2), (34, .ireturn, 1), (35, .bipush (-9), 2), (37, .istore 6, 2), (39, .iconst 0, 1), (40, .istore 7, 2), (42, .iconst 0, 1), (43, .istore 8, 2), (45, .iload 8, 2), (47, .aload 5, 2), (49, .getfield 151, 3), (52, .arraylength, 1), (53, .if_icmp .ge 68, 3), (56, .aload_n 0, 1), (57, .getfield 47, 3), (60, .aload_n 0, 1), (61, .getfield 12, 3), (64, .aload 5, 2), (66, .iload_n 3, 1), (67, .iload 8, 2), (69, .invokevirtual 223, 3), (72, .aload_n 0, 1), (73, .aload_n 0, 1), (74, .getfield 47, 3), (77, .iload_n 1, 1), (78, .iload_n 2, 1), (79, .invokevirtual 215, 3), (82, .istore 9, 2), (84, .iload 9, 2), (86, .invokestatic 227, 3), (89, .iload 4, 2), (91, .invokestatic 227, 3), (94, .isub, 1), (95, .invokestatic 230, 3), (98, .istore 10, 2), (100, .iload 10, 2), (102, .iload 7, 2), (104, .if_icmp .le 11, 3), (107, .iload 10, 2), (109, .istore 7, 2), (111, .iload 8, 2), (113, .istore 6, 2), (115, .iinc 8 1, 3), (118, .goto (-73), 3), (121, .iload 6, 2), (123, .ireturn, 1)]
theorem dd_X_boss : Dall 79 dl_X_boss = true := by decide +kernel
theorem t_X_boss {h : Hp} {P : Value → Hp → Prop} {p0 p1 p2 : Int} (S : XS h) (T : R 76 0 [.ref 0, .int (I p0), .int (I p1), .int (I p2), .retAddr 0] [] h (fun v h2 => R 79 7 [.ref 0, .int (I p0), .int (I p1), .int (I p2), .retAddr 0, .retAddr 0, .retAddr 0, .retAddr 0, .retAddr 0, .retAddr 0, .retAddr 0] (v :: []) h2 P)) : R 79 0 [.ref 0, .int (I p0), .int (I p1), .int (I p2), .retAddr 0, .retAddr 0, .retAddr 0, .retAddr 0, .retAddr 0, .retAddr 0, .retAddr 0] [] h P := by
  refine R_aload_n (Dat dd_X_boss 0 rfl) rfl rfl ?_
  refine R_iload_n (Dat dd_X_boss 1 rfl) rfl ?_
  refine R_iload_n (Dat dd_X_boss 2 rfl) rfl ?_
  refine R_iload_n (Dat dd_X_boss 3 rfl) rfl ?_
  exact R_call1 (Dat dd_X_boss 4 rfl) rfl S.t0 rfl rfl rfl rfl rfl T
theorem t_X_boss_7 {h : Hp} {P : Value → Hp → Prop} {a1 a2 a3 s0 : Int} {a4 a5 a6 a7 a8 a9 a10 : Value} (S : XS h) (T : R 50 0 [.ref 0] [] h (fun v h2 => R 79 13 [.ref 0, .int (I a1), .int (I a2), .int (I a3), .int (I s0), a5, a6, a7, a8, a9, a10] (v :: []) h2 P)) : R 79 7 [.ref 0, .int (I a1), .int (I a2), .int (I a3), a4, a5, a6, a7, a8, a9, a10] [.int (I s0)] h P := by
  refine R_istore (Dat dd_X_boss 5 rfl) rfl rfl ?_
  refine R_aload_n (Dat dd_X_boss 6 rfl) rfl rfl ?_
  exact R_call1 (Dat dd_X_boss 7 rfl) rfl S.t0 rfl rfl rfl rfl rfl T
theorem t_X_boss_13 {h : Hp} {P : Value → Hp → Prop} {a1 a2 a3 a4 : Int} {s0 : Nat} {a5 a6 a7 a8 a9 a10 : Value} (S : XS h) (T : (rng a4) ∧ ((a4 < 0 → (rng a4) ∧ ((a4 = (-9) → R 79 45 [.ref 0, .int (I a1), .int (I a2), .int (I a3), .int (I a4), .ref s0, .int (I (-9)), .int (I 0), .int (I 0), a9, a10] [] h P) ∧ (¬ a4 = (-9) → P (.int (I a4)) h))) ∧ (¬ a4 < 0 → R 79 45 [.ref 0, .int (I a1), .int (I a2), .int (I a3), .int (I a4), .ref s0, .int (I (-9)), .int (I 0), .int (I 0), a9, a10] [] h P))) : R 79 13 [.ref 0, .int (I a1), .int (I a2), .int (I a3), .int (I a4), a5, a6, a7, a8, a9, a10] [.ref s0] h P := by
  refine R_astore (Dat dd_X_boss 8 rfl) rfl rfl rfl ?_
  refine R_iload (Dat dd_X_boss 9 rfl) rfl ?_
  obtain ⟨g1, T⟩ := T
  refine R_if_ge (Dat dd_X_boss 10 rfl) rfl g1  (fun c => ?_) (fun c => ?_)
  · replace T := T.1 c
    refine R_iload (Dat dd_X_boss 11 rfl) rfl ?_
    refine R_bipush (Dat dd_X_boss 12 rfl) (a := (-9)) rfl ?_
    obtain ⟨g2, T⟩ := T
    refine R_ic_ne (Dat dd_X_boss 13 rfl) rfl g2 (by decide) (fun c => ?_) (fun c => ?_)
    · replace T := T.1 c
      refine R_aload (Dat dd_X_boss 14 rfl) rfl rfl ?_
      refine R_ifnn1 (Dat dd_X_boss 15 rfl) rfl ?_
      refine R_bipush (Dat dd_X_boss 18 rfl) (a := (-9)) rfl ?_
      refine R_istore (Dat dd_X_boss 19 rfl) rfl rfl ?_
      refine R_iconst (Dat dd_X_boss 20 rfl) ?_
      refine R_istore (Dat dd_X_boss 21 rfl) rfl rfl ?_
      refine R_iconst (Dat dd_X_boss 22 rfl) ?_
      refine R_istore (Dat dd_X_boss 23 rfl) rfl rfl ?_
      exact T
    · replace T := T.2 c
      refine R_iload (Dat dd_X_boss 16 rfl) rfl ?_
      exact R_ireturn (Dat dd_X_boss 17 rfl) rfl T
  · replace T := T.2 c
    refine R_aload (Dat dd_X_boss 14 rfl) rfl rfl ?_
    refine R_ifnn1 (Dat dd_X_boss 15 rfl) rfl ?_
    refine R_bipush (Dat dd_X_boss 18 rfl) (a := (-9)) rfl ?_
    refine R_istore (Dat dd_X_boss 19 rfl) rfl rfl ?_
    refine R_iconst (Dat dd_X_boss 20 rfl) ?_
    refine R_istore (Dat dd_X_boss 21 rfl) rfl rfl ?_
    refine R_iconst (Dat dd_X_boss 22 rfl) ?_
    refine R_istore (Dat dd_X_boss 23 rfl) rfl rfl ?_
    exact T
theorem t_X_boss_13b {h : Hp} {P : Value → Hp → Prop} {a1 a2 a3 a4 : Int} {a5 a6 a7 a8 a9 a10 : Value} (S : XS h) (T : (rng a4) ∧ ((a4 < 0 → (rng a4) ∧ ((a4 = (-9) → P (.int (I a4)) h) ∧ (¬ a4 = (-9) → P (.int (I a4)) h))) ∧ (¬ a4 < 0 → P (.int (I a4)) h))) : R 79 13 [.ref 0, .int (I a1), .int (I a2), .int (I a3), .int (I a4), a5, a6, a7, a8, a9, a10] [.null] h P := by
  refine R_astore (Dat dd_X_boss 8 rfl) rfl rfl rfl ?_
  refine R_iload (Dat dd_X_boss 9 rfl) rfl ?_
  obtain ⟨g1, T⟩ := T
  refine R_if_ge (Dat dd_X_boss 10 rfl) rfl g1  (fun c => ?_) (fun c => ?_)
  · replace T := T.1 c
    refine R_iload (Dat dd_X_boss 11 rfl) rfl ?_
    refine R_bipush (Dat dd_X_boss 12 rfl) (a := (-9)) rfl ?_
    obtain ⟨g2, T⟩ := T
    refine R_ic_ne (Dat dd_X_boss 13 rfl) rfl g2 (by decide) (fun c => ?_) (fun c => ?_)
    · replace T := T.1 c
      refine R_aload (Dat dd_X_boss 14 rfl) rfl rfl ?_
      refine R_ifnn0 (Dat dd_X_boss 15 rfl) ?_
      refine R_iload (Dat dd_X_boss 16 rfl) rfl ?_
      exact R_ireturn (Dat dd_X_boss 17 rfl) rfl T
    · replace T := T.2 c
      refine R_iload (Dat dd_X_boss 16 rfl) rfl ?_
      exact R_ireturn (Dat dd_X_boss 17 rfl) rfl T
  · replace T := T.2 c
    refine R_aload (Dat dd_X_boss 14 rfl) rfl rfl ?_
    refine R_ifnn0 (Dat dd_X_boss 15 rfl) ?_
    refine R_iload (Dat dd_X_boss 16 rfl) rfl ?_
    exact R_ireturn (Dat dd_X_boss 17 rfl) rfl T
theorem t_X_boss_45 {h : Hp} {P : Value → Hp → Prop} {a1 a2 a3 a4 a6 a7 a8 : Int} {a5 : Nat} {a9 a10 : Value} (S : XS h) (T : (tg h a5 = 4) ∧ (fl h a5 0 = true) ∧ (tg h (child a5 0) ≠ 0) ∧ ((20 ≤ tg h (child a5 0) ∧ tg h (child a5 0) ≤ 25) ∨ tg h (child a5 0) = 30) ∧ (rng a8) ∧ (rng (ln h (child a5 0) : Int)) ∧ ((a8 < (ln h (child a5 0) : Int) → R 56 0 [.ref 17, .ref 1, .ref a5, .int (I a3), .int (I a8), .retAddr 0, .retAddr 0, .retAddr 0, .retAddr 0] [] h (fun _ h2 => R 79 72 [.ref 0, .int (I a1), .int (I a2), .int (I a3), .int (I a4), .ref a5, .int (I a6), .int (I a7), .int (I a8), a9, a10] [] h2 P)) ∧ (¬ a8 < (ln h (child a5 0) : Int) → P (.int (I a6)) h))) : R 79 45 [.ref 0, .int (I a1), .int (I a2), .int (I a3), .int (I a4), .ref a5, .int (I a6), .int (I a7), .int (I a8), a9, a10] [] h P := by
  refine R_iload (Dat dd_X_boss 24 rfl) rfl ?_
  refine R_aload (Dat dd_X_boss 25 rfl) rfl rfl ?_
  obtain ⟨g1, T⟩ := T
  obtain ⟨g2, T⟩ := T
  obtain ⟨g3, T⟩ := T
  refine R_getr (Dat dd_X_boss 26 rfl) rfl rfl (tok g1) g2 (q := child a5 0) rfl g3 ?_
  obtain ⟨g4, T⟩ := T
  refine R_alen (Dat dd_X_boss 27 rfl) g4 ?_
  obtain ⟨g5, T⟩ := T
  obtain ⟨g6, T⟩ := T
  refine R_ic_ge (Dat dd_X_boss 28 rfl) rfl g5 g6 (fun c => ?_) (fun c => ?_)
  · replace T := T.1 c
    refine R_aload_n (Dat dd_X_boss 29 rfl) rfl rfl ?_
    refine R_getr (Dat dd_X_boss 30 rfl) rfl rfl (tok S.t0) S.f0_12 (q := 17) rfl (tnz S.t17) ?_
    refine R_aload_n (Dat dd_X_boss 31 rfl) rfl rfl ?_
    refine R_getr (Dat dd_X_boss 32 rfl) rfl rfl (tok S.t0) S.f0_0 (q := 1) rfl (tnz S.t1) ?_
    refine R_aload (Dat dd_X_boss 33 rfl) rfl rfl ?_
    refine R_iload_n (Dat dd_X_boss 34 rfl) rfl ?_
    refine R_iload (Dat dd_X_boss 35 rfl) rfl ?_
    exact R_call1 (Dat dd_X_boss 36 rfl) rfl S.t17 rfl rfl rfl rfl rfl T
  · replace T := T.2 c
    refine R_iload (Dat dd_X_boss 60 rfl) rfl ?_
    exact R_ireturn (Dat dd_X_boss 61 rfl) rfl T
theorem t_X_boss_72 {h : Hp} {P : Value → Hp → Prop} {a1 a2 a3 a4 a6 a7 a8 : Int} {a5 : Nat} {a9 a10 : Value} (S : XS h) (T : R 77 0 [.ref 0, .ref 17, .int (I a1), .int (I a2), .retAddr 0, .retAddr 0, .retAddr 0] [] h (fun v h2 => R 79 82 [.ref 0, .int (I a1), .int (I a2), .int (I a3), .int (I a4), .ref a5, .int (I a6), .int (I a7), .int (I a8), a9, a10] (v :: []) h2 P)) : R 79 72 [.ref 0, .int (I a1), .int (I a2), .int (I a3), .int (I a4), .ref a5, .int (I a6), .int (I a7), .int (I a8), a9, a10] [] h P := by
  refine R_aload_n (Dat dd_X_boss 37 rfl) rfl rfl ?_
  refine R_aload_n (Dat dd_X_boss 38 rfl) rfl rfl ?_
  refine R_getr (Dat dd_X_boss 39 rfl) rfl rfl (tok S.t0) S.f0_12 (q := 17) rfl (tnz S.t17) ?_
  refine R_iload_n (Dat dd_X_boss 40 rfl) rfl ?_
  refine R_iload_n (Dat dd_X_boss 41 rfl) rfl ?_
  exact R_call1 (Dat dd_X_boss 42 rfl) rfl S.t0 rfl rfl rfl rfl rfl T
theorem t_X_boss_82 {h : Hp} {P : Value → Hp → Prop} {a1 a2 a3 a4 a6 a7 a8 s0 : Int} {a5 : Nat} {a9 a10 : Value} (S : XS h) (T : R 80 0 [.int (I s0)] [] h (fun v h2 => R 79 89 [.ref 0, .int (I a1), .int (I a2), .int (I a3), .int (I a4), .ref a5, .int (I a6), .int (I a7), .int (I a8), .int (I s0), a10] (v :: []) h2 P)) : R 79 82 [.ref 0, .int (I a1), .int (I a2), .int (I a3), .int (I a4), .ref a5, .int (I a6), .int (I a7), .int (I a8), a9, a10] [.int (I s0)] h P := by
  refine R_istore (Dat dd_X_boss 43 rfl) rfl rfl ?_
  refine R_iload (Dat dd_X_boss 44 rfl) rfl ?_
  exact R_call0 (Dat dd_X_boss 45 rfl) rfl rfl rfl rfl rfl rfl T
theorem t_X_boss_89 {h : Hp} {P : Value → Hp → Prop} {a1 a2 a3 a4 a6 a7 a8 s0 : Int} {a5 : Nat} {a9 a10 : Value} (S : XS h) (T : R 80 0 [.int (I a4)] [] h (fun v h2 => R 79 94 [.ref 0, .int (I a1), .int (I a2), .int (I a3), .int (I a4), .ref a5, .int (I a6), .int (I a7), .int (I a8), a9, a10] (v :: [.int (I s0)]) h2 P)) : R 79 89 [.ref 0, .int (I a1), .int (I a2), .int (I a3), .int (I a4), .ref a5, .int (I a6), .int (I a7), .int (I a8), a9, a10] [.int (I s0)] h P := by
  refine R_iload (Dat dd_X_boss 46 rfl) rfl ?_
  exact R_call0 (Dat dd_X_boss 47 rfl) rfl rfl rfl rfl rfl rfl T
theorem t_X_boss_94 {h : Hp} {P : Value → Hp → Prop} {a1 a2 a3 a4 a6 a7 a8 s0 s1 : Int} {a5 : Nat} {a9 a10 : Value} (S : XS h) (T : R 81 0 [.int (I (s1 - s0))] [] h (fun v h2 => R 79 98 [.ref 0, .int (I a1), .int (I a2), .int (I a3), .int (I a4), .ref a5, .int (I a6), .int (I a7), .int (I a8), a9, a10] (v :: []) h2 P)) : R 79 94 [.ref 0, .int (I a1), .int (I a2), .int (I a3), .int (I a4), .ref a5, .int (I a6), .int (I a7), .int (I a8), a9, a10] [.int (I s0), .int (I s1)] h P := by
  refine R_isub (Dat dd_X_boss 48 rfl) ?_
  exact R_call0 (Dat dd_X_boss 49 rfl) rfl rfl rfl rfl rfl rfl T
theorem t_X_boss_98 {h : Hp} {P : Value → Hp → Prop} {a1 a2 a3 a4 a6 a7 a8 s0 : Int} {a5 : Nat} {a9 a10 : Value} (S : XS h) (T : (rng s0) ∧ (rng a7) ∧ ((a7 < s0 → R 79 45 [.ref 0, .int (I a1), .int (I a2), .int (I a3), .int (I a4), .ref a5, .int (I a8), .int (I s0), .int (I (a8 + 1)), a9, .int (I s0)] [] h P) ∧ (¬ a7 < s0 → R 79 45 [.ref 0, .int (I a1), .int (I a2), .int (I a3), .int (I a4), .ref a5, .int (I a6), .int (I a7), .int (I (a8 + 1)), a9, .int (I s0)] [] h P))) : R 79 98 [.ref 0, .int (I a1), .int (I a2), .int (I a3), .int (I a4), .ref a5, .int (I a6), .int (I a7), .int (I a8), a9, a10] [.int (I s0)] h P := by
  refine R_istore (Dat dd_X_boss 50 rfl) rfl rfl ?_
  refine R_iload (Dat dd_X_boss 51 rfl) rfl ?_
  refine R_iload (Dat dd_X_boss 52 rfl) rfl ?_
  obtain ⟨g1, T⟩ := T
  obtain ⟨g2, T⟩ := T
  refine R_ic_le (Dat dd_X_boss 53 rfl) rfl g1 g2 (fun c => ?_) (fun c => ?_)
  · replace T := T.1 c
    refine R_iload (Dat dd_X_boss 54 rfl) rfl ?_
    refine R_istore (Dat dd_X_boss 55 rfl) rfl rfl ?_
    refine R_iload (Dat dd_X_boss 56 rfl) rfl ?_
    refine R_istore (Dat dd_X_boss 57 rfl) rfl rfl ?_
    refine R_iinc (Dat dd_X_boss 58 rfl) rfl rfl rfl ?_
    refine R_goto (Dat dd_X_boss 59 rfl) rfl ?_
    exact T
  · replace T := T.2 c
    refine R_iinc (Dat dd_X_boss 58 rfl) rfl rfl rfl ?_
    refine R_goto (Dat dd_X_boss 59 rfl) rfl ?_
    exact T
def dl_X_counted : List (Nat × Instr × Nat) := [(0, .iload_n 0, 1), (1, .bipush (-9), 2), (3, .if_icmp .ne 9, 3), (6, .sipush 9999, 3), (9, .goto 4, 3), (12, .iload_n 0, 1), (13, .ireturn, 1)]
theorem dd_X_counted : Dall 80 dl_X_counted = true := by decide +kernel
theorem t_X_counted {h : Hp} {P : Value → Hp → Prop} {p0 : Int} (T : (rng p0) ∧ ((p0 = (-9) → P (.int (I 9999)) h) ∧ (¬ p0 = (-9) → P (.int (I p0)) h))) : R 80 0 [.int (I p0)] [] h P := by
  refine R_iload_n (Dat dd_X_counted 0 rfl) rfl ?_
  refine R_bipush (Dat dd_X_counted 1 rfl) (a := (-9)) rfl ?_
  obtain ⟨g1, T⟩ := T
  refine R_ic_ne (Dat dd_X_counted 2 rfl) rfl g1 (by decide) (fun c => ?_) (fun c => ?_)
  · replace T := T.1 c
    refine R_sipush (Dat dd_X_counted 3 rfl) (a := 9999) rfl ?_
    refine R_goto (Dat dd_X_counted 4 rfl) rfl ?_
    exact R_ireturn (Dat dd_X_counted 6 rfl) rfl T
  · replace T := T.2 c
    refine R_iload_n (Dat dd_X_counted 5 rfl) rfl ?_
    exact R_ireturn (Dat dd_X_counted 6 rfl) rfl T
def dl_Math_abs : List (Nat × Instr × Nat) := [(0, .iload_n 0, 1), (1, .ifCond .ge 8, 3), (4, .iload_n 0, 1), (5, .ineg, 1), (6, .goto 4, 3), (9, .iload_n 0, 1), (10, .ireturn, 1)]
theorem dd_Math_abs : Dall 81 dl_Math_abs = true := by decide +kernel
theorem t_Math_abs {h : Hp} {P : Value → Hp → Prop} {p0 : Int} (T : (rng p0) ∧ ((p0 < 0 → P (.int (I (-p0))) h) ∧ (¬ p0 < 0 → P (.int (I p0)) h))) : R 81 0 [.int (I p0)] [] h P := by
  refine R_iload_n (Dat dd_Math_abs 0 rfl) rfl ?_
  obtain ⟨g1, T⟩ := T
  refine R_if_ge (Dat dd_Math_abs 1 rfl) rfl g1  (fun c => ?_) (fun c => ?_)
  · replace T := T.1 c
    refine R_iload_n (Dat dd_Math_abs 2 rfl) rfl ?_
    refine R_ineg (Dat dd_Math_abs 3 rfl) ?_
    refine R_goto (Dat dd_Math_abs 4 rfl) rfl ?_
    exact R_ireturn (Dat dd_Math_abs 6 rfl) rfl T
  · replace T := T.2 c
    refine R_iload_n (Dat dd_Math_abs 5 rfl) rfl ?_
    exact R_ireturn (Dat dd_Math_abs 6 rfl) rfl T
def dl_X_sheet : List (Nat × Instr × Nat) := [(0, .aload_n 0, 1), (1, .iconst 0, 1), (2, .putfield 266, 3), (5, .iload_n 1, 1), (6, .invokestatic 278, 3), (9, .ifCond .eq 5, 3), (12, .iconst (-1), 1), (13, .ireturn, 1), (14, .iload_n 2, 1), (15, .invokestatic 281, 3), (18, .ifCond .ne 9, 3), (21, .iload_n 3, 1), (22, .bipush 60, 2), (24, .if_icmp .le 6, 3), (27, .bipush (-2), 2), (29, .ireturn, 1), (30, .iload_n 3, 1), (31, .ifCond .ge 9, 3), (34, .aload_n 0, 1), (35, .iconst 4, 1), (36, .invokevirtual 284, 3), (39, .ireturn, 1), (40, .aload_n 0, 1), (41, .getfield 33, 3), (44, .iload_n 1, 1), (45, .aaload, 1), (46, .iload_n 2, 1), (47, .iload_n 3, 1), (48, .invokevirtual 287, 3), (51, .iconst 1, 1), (52, .ireturn, 1)]
theorem dd_X_sheet : Dall 82 dl_X_sheet = true := by decide +kernel
theorem t_X_sheet {h : Hp} {P : Value → Hp → Prop} {p0 p1 p2 : Int} (S : XS h) (T : R 9 0 [.int (I p0)] [] (setI h 0 11 0) (fun v h2 => R 82 9 [.ref 0, .int (I p0), .int (I p1), .int (I p2)] (v :: []) h2 P)) : R 82 0 [.ref 0, .int (I p0), .int (I p1), .int (I p2)] [] h P := by
  refine R_aload_n (Dat dd_X_sheet 0 rfl) rfl rfl ?_
  refine R_iconst (Dat dd_X_sheet 1 rfl) ?_
  refine R_puti (Dat dd_X_sheet 2 rfl) rfl rfl rfl (tok S.t0) rfl (v := 0) rfl ?_
  refine R_iload_n (Dat dd_X_sheet 3 rfl) rfl ?_
  exact R_call0 (Dat dd_X_sheet 4 rfl) rfl rfl rfl rfl rfl rfl T
theorem t_X_sheet_9 {h : Hp} {P : Value → Hp → Prop} {a1 a2 a3 s0 : Int} (S : XS h) (T : (rng s0) ∧ ((s0 = 0 → R 10 0 [.int (I a2)] [] h (fun v h2 => R 82 18 [.ref 0, .int (I a1), .int (I a2), .int (I a3)] (v :: []) h2 P)) ∧ (¬ s0 = 0 → P (.int (I (-1))) h))) : R 82 9 [.ref 0, .int (I a1), .int (I a2), .int (I a3)] [.int (I s0)] h P := by
  obtain ⟨g1, T⟩ := T
  refine R_if_eq (Dat dd_X_sheet 5 rfl) rfl g1  (fun c => ?_) (fun c => ?_)
  · replace T := T.1 c
    refine R_iload_n (Dat dd_X_sheet 8 rfl) rfl ?_
    exact R_call0 (Dat dd_X_sheet 9 rfl) rfl rfl rfl rfl rfl rfl T
  · replace T := T.2 c
    refine R_iconst (Dat dd_X_sheet 6 rfl) ?_
    exact R_ireturn (Dat dd_X_sheet 7 rfl) rfl T
theorem t_X_sheet_18 {h : Hp} {P : Value → Hp → Prop} {a1 a2 a3 s0 : Int} (S : XS h) (T : (rng s0) ∧ ((s0 = 0 → (rng a3) ∧ (((60 : Int) < a3 → P (.int (I (-2))) h) ∧ (¬ (60 : Int) < a3 → (rng a3) ∧ ((a3 < 0 → R 11 0 [.ref 0, .int (I 4)] [] h (fun v h2 => R 82 39 [.ref 0, .int (I a1), .int (I a2), .int (I a3)] (v :: []) h2 P)) ∧ (¬ a3 < 0 → (0 ≤ a1) ∧ (a1 < 4) ∧ (fl h 7 (a1).toNat = true) ∧ (tg h (child 7 (a1).toNat) ≠ 0) ∧ (tg h (child 7 (a1).toNat) = 10) ∧ R 83 0 [.ref (child 7 (a1).toNat), .int (I a2), .int (I a3)] [] h (fun _ h2 => R 82 51 [.ref 0, .int (I a1), .int (I a2), .int (I a3)] [] h2 P)))))) ∧ (¬ s0 = 0 → P (.int (I (-2))) h))) : R 82 18 [.ref 0, .int (I a1), .int (I a2), .int (I a3)] [.int (I s0)] h P := by
  obtain ⟨g1, T⟩ := T
  refine R_if_ne (Dat dd_X_sheet 10 rfl) rfl g1  (fun c => ?_) (fun c => ?_)
  · replace T := T.1 c
    refine R_iload_n (Dat dd_X_sheet 11 rfl) rfl ?_
    refine R_bipush (Dat dd_X_sheet 12 rfl) (a := 60) rfl ?_
    obtain ⟨g2, T⟩ := T
    refine R_ic_le (Dat dd_X_sheet 13 rfl) rfl g2 (by decide) (fun c => ?_) (fun c => ?_)
    · replace T := T.1 c
      refine R_bipush (Dat dd_X_sheet 14 rfl) (a := (-2)) rfl ?_
      exact R_ireturn (Dat dd_X_sheet 15 rfl) rfl T
    · replace T := T.2 c
      refine R_iload_n (Dat dd_X_sheet 16 rfl) rfl ?_
      obtain ⟨g3, T⟩ := T
      refine R_if_ge (Dat dd_X_sheet 17 rfl) rfl g3  (fun c => ?_) (fun c => ?_)
      · replace T := T.1 c
        refine R_aload_n (Dat dd_X_sheet 18 rfl) rfl rfl ?_
        refine R_iconst (Dat dd_X_sheet 19 rfl) ?_
        exact R_call1 (Dat dd_X_sheet 20 rfl) rfl S.t0 rfl rfl rfl rfl rfl T
      · replace T := T.2 c
        refine R_aload_n (Dat dd_X_sheet 22 rfl) rfl rfl ?_
        refine R_getr (Dat dd_X_sheet 23 rfl) rfl rfl (tok S.t0) S.f0_9 (q := 7) rfl (tnz S.t7) ?_
        refine R_iload_n (Dat dd_X_sheet 24 rfl) rfl ?_
        obtain ⟨g4, T⟩ := T
        obtain ⟨g5, T⟩ := T
        obtain ⟨g6, T⟩ := T
        obtain ⟨g7, T⟩ := T
        refine R_aaload (Dat dd_X_sheet 25 rfl) (by rw [show tg h 7 = 23 from S.t7]; decide) (lnle (show ln h 7 = 4 from S.l7) (by decide)) g4 (lnlt (show ln h 7 = 4 from S.l7) g5) g6 rfl g7 ?_
        refine R_iload_n (Dat dd_X_sheet 26 rfl) rfl ?_
        refine R_iload_n (Dat dd_X_sheet 27 rfl) rfl ?_
        obtain ⟨g8, T⟩ := T
        exact R_call1 (Dat dd_X_sheet 28 rfl) rfl g8 rfl rfl rfl rfl rfl T
  · replace T := T.2 c
    refine R_bipush (Dat dd_X_sheet 14 rfl) (a := (-2)) rfl ?_
    exact R_ireturn (Dat dd_X_sheet 15 rfl) rfl T
theorem t_X_sheet_39 {h : Hp} {P : Value → Hp → Prop} {s0 : Int} {a0 a1 a2 a3 : Value} (S : XS h) (T : P (.int (I s0)) h) : R 82 39 [a0, a1, a2, a3] [.int (I s0)] h P := by
  exact R_ireturn (Dat dd_X_sheet 21 rfl) rfl T
theorem t_X_sheet_51 {h : Hp} {P : Value → Hp → Prop} {a0 a1 a2 a3 : Value} (S : XS h) (T : P (.int (I 1)) h) : R 82 51 [a0, a1, a2, a3] [] h P := by
  refine R_iconst (Dat dd_X_sheet 29 rfl) ?_
  exact R_ireturn (Dat dd_X_sheet 30 rfl) rfl T
def dl_Sheet_renew : List (Nat × Instr × Nat) := [(0, .aload_n 0, 1), (1, .iconst 1, 1), (2, .putfield 15, 3), (5, .aload_n 0, 1), (6, .iload_n 1, 1), (7, .putfield 19, 3), (10, .aload_n 0, 1), (11, .iload_n 2, 1), (12, .putfield 23, 3), (15, .aload_n 0, 1), (16, .getfield 9, 3), (19, .iconst 0, 1), (20, .invokestatic 26, 3), (23, .return_, 1)]
theorem dd_Sheet_renew : Dall 83 dl_Sheet_renew = true := by decide +kernel
theorem t_Sheet_renew {h : Hp} {P : Value → Hp → Prop} {p0 p1 : Int} {r : Nat} (T : (tg h r = 10) ∧ (tg (setI h r 1 1) r = 10) ∧ (tg (setI (setI h r 1 1) r 2 (wr p0)) r = 10) ∧ (tg (setI (setI (setI h r 1 1) r 2 (wr p0)) r 3 (wr p1)) r = 10) ∧ (fl (setI (setI (setI h r 1 1) r 2 (wr p0)) r 3 (wr p1)) r 0 = true) ∧ (tg (setI (setI (setI h r 1 1) r 2 (wr p0)) r 3 (wr p1)) (child r 0) ≠ 0) ∧ R 24 0 [.ref (child r 0), .int (I 0), .retAddr 0, .retAddr 0] [] (setI (setI (setI h r 1 1) r 2 (wr p0)) r 3 (wr p1)) (fun _ h2 => R 83 23 [.ref r, .int (I p0), .int (I p1)] [] h2 P)) : R 83 0 [.ref r, .int (I p0), .int (I p1)] [] h P := by
  refine R_aload_n (Dat dd_Sheet_renew 0 rfl) rfl rfl ?_
  refine R_iconst (Dat dd_Sheet_renew 1 rfl) ?_
  obtain ⟨g1, T⟩ := T
  refine R_puti (Dat dd_Sheet_renew 2 rfl) rfl rfl rfl (tok g1) rfl (v := 1) rfl ?_
  refine R_aload_n (Dat dd_Sheet_renew 3 rfl) rfl rfl ?_
  refine R_iload_n (Dat dd_Sheet_renew 4 rfl) rfl ?_
  obtain ⟨g2, T⟩ := T
  refine R_puti (Dat dd_Sheet_renew 5 rfl) rfl rfl rfl (tok g2) rfl (v := wr p0) rfl ?_
  refine R_aload_n (Dat dd_Sheet_renew 6 rfl) rfl rfl ?_
  refine R_iload_n (Dat dd_Sheet_renew 7 rfl) rfl ?_
  obtain ⟨g3, T⟩ := T
  refine R_puti (Dat dd_Sheet_renew 8 rfl) rfl rfl rfl (tok g3) rfl (v := wr p1) rfl ?_
  refine R_aload_n (Dat dd_Sheet_renew 9 rfl) rfl rfl ?_
  obtain ⟨g4, T⟩ := T
  obtain ⟨g5, T⟩ := T
  obtain ⟨g6, T⟩ := T
  refine R_getr (Dat dd_Sheet_renew 10 rfl) rfl rfl (tok g4) g5 (q := child r 0) rfl g6 ?_
  refine R_iconst (Dat dd_Sheet_renew 11 rfl) ?_
  exact R_call0 (Dat dd_Sheet_renew 12 rfl) rfl rfl rfl rfl rfl rfl T
theorem t_Sheet_renew_23 {h : Hp} {P : Value → Hp → Prop} {a0 a1 a2 : Value} (T : P .null h) : R 83 23 [a0, a1, a2] [] h P := by
  exact R_return (Dat dd_Sheet_renew 13 rfl) rfl T
def dl_X_put : List (Nat × Instr × Nat) := [(0, .aload_n 0, 1), (1, .iconst 0, 1), (2, .putfield 266, 3), (5, .iload_n 1, 1), (6, .invokestatic 278, 3), (9, .ifCond .eq 5, 3), (12, .iconst (-1), 1), (13, .ireturn, 1), (14, .aload_n 0, 1), (15, .getfield 33, 3), (18, .iload_n 1, 1), (19, .aaload, 1), (20, .astore 4, 2), (22, .aload 4, 2), (24, .getfield 291, 3), (27, .ifCond .ne 9, 3), (30, .aload_n 0, 1), (31, .iconst 1, 1), (32, .invokevirtual 284, 3), (35, .ireturn, 1), (36, .iload_n 2, 1), (37, .ifCond .lt 12, 3), (40, .iload_n 2, 1), (41, .aload 4, 2), (43, .getfield 295, 3), (46, .if_icmp .lt 9, 3), (49, .aload_n 0, 1), (50, .iconst 3, 1), (51, .invokevirtual 284, 3), (54, .ireturn, 1), (55, .aload 4, 2), (57, .getfield 72, 3), (60, .iload_n 2, 1), (61, .aload 4, 2), (63, .iload_n 3, 1), (64, .invokevirtual 298, 3), (67, .iastore, 1), (68, .iconst 1, 1), (69, .ireturn, 1)]
theorem dd_X_put : Dall 84 dl_X_put = true := by decide +kernel
theorem t_X_put {h : Hp} {P : Value → Hp → Prop} {p0 p1 p2 : Int} (S : XS h) (T : R 9 0 [.int (I p0)] [] (setI h 0 11 0) (fun v h2 => R 84 9 [.ref 0, .int (I p0), .int (I p1), .int (I p2), .retAddr 0] (v :: []) h2 P)) : R 84 0 [.ref 0, .int (I p0), .int (I p1), .int (I p2), .retAddr 0] [] h P := by
  refine R_aload_n (Dat dd_X_put 0 rfl) rfl rfl ?_
  refine R_iconst (Dat dd_X_put 1 rfl) ?_
  refine R_puti (Dat dd_X_put 2 rfl) rfl rfl rfl (tok S.t0) rfl (v := 0) rfl ?_
  refine R_iload_n (Dat dd_X_put 3 rfl) rfl ?_
  exact R_call0 (Dat dd_X_put 4 rfl) rfl rfl rfl rfl rfl rfl T
theorem t_X_put_9 {h : Hp} {P : Value → Hp → Prop} {a1 a2 a3 s0 : Int} {a4 : Value} (S : XS h) (T : (rng s0) ∧ ((s0 = 0 → (0 ≤ a1) ∧ (a1 < 4) ∧ (fl h 7 (a1).toNat = true) ∧ (tg h (child 7 (a1).toNat) ≠ 0) ∧ (tg h (child 7 (a1).toNat) = 10) ∧ (rng (iv h (child 7 (a1).toNat) 1)) ∧ (((iv h (child 7 (a1).toNat) 1) = 0 → R 11 0 [.ref 0, .int (I 1)] [] h (fun v h2 => R 84 35 [.ref 0, .int (I a1), .int (I a2), .int (I a3), .ref (child 7 (a1).toNat)] (v :: []) h2 P)) ∧ (¬ (iv h (child 7 (a1).toNat) 1) = 0 → (rng a2) ∧ ((a2 < 0 → R 11 0 [.ref 0, .int (I 3)] [] h (fun v h2 => R 84 54 [.ref 0, .int (I a1), .int (I a2), .int (I a3), .ref (child 7 (a1).toNat)] (v :: []) h2 P)) ∧ (¬ a2 < 0 → (tg h (child 7 (a1).toNat) = 10) ∧ (rng a2) ∧ (rng (iv h (child 7 (a1).toNat) 3)) ∧ ((a2 < (iv h (child 7 (a1).toNat) 3) → (tg h (child 7 (a1).toNat) = 10) ∧ (fl h (child 7 (a1).toNat) 0 = true) ∧ (tg h (child (child 7 (a1).toNat) 0) ≠ 0) ∧ (tg h (child 7 (a1).toNat) = 10) ∧ R 85 0 [.ref (child 7 (a1).toNat), .int (I a3)] [] h (fun v h2 => R 84 67 [.ref 0, .int (I a1), .int (I a2), .int (I a3), .ref (child 7 (a1).toNat)] (v :: [.int (I a2), .ref (child (child 7 (a1).toNat) 0)]) h2 P)) ∧ (¬ a2 < (iv h (child 7 (a1).toNat) 3) → R 11 0 [.ref 0, .int (I 3)] [] h (fun v h2 => R 84 54 [.ref 0, .int (I a1), .int (I a2), .int (I a3), .ref (child 7 (a1).toNat)] (v :: []) h2 P)))))))) ∧ (¬ s0 = 0 → P (.int (I (-1))) h))) : R 84 9 [.ref 0, .int (I a1), .int (I a2), .int (I a3), a4] [.int (I s0)] h P := by
  obtain ⟨g1, T⟩ := T
  refine R_if_eq (Dat dd_X_put 5 rfl) rfl g1  (fun c => ?_) (fun c => ?_)
  · replace T := T.1 c
    refine R_aload_n (Dat dd_X_put 8 rfl) rfl rfl ?_
    refine R_getr (Dat dd_X_put 9 rfl) rfl rfl (tok S.t0) S.f0_9 (q := 7) rfl (tnz S.t7) ?_
    refine R_iload_n (Dat dd_X_put 10 rfl) rfl ?_
    obtain ⟨g2, T⟩ := T
    obtain ⟨g3, T⟩ := T
    obtain ⟨g4, T⟩ := T
    obtain ⟨g5, T⟩ := T
    refine R_aaload (Dat dd_X_put 11 rfl) (by rw [show tg h 7 = 23 from S.t7]; decide) (lnle (show ln h 7 = 4 from S.l7) (by decide)) g2 (lnlt (show ln h 7 = 4 from S.l7) g3) g4 rfl g5 ?_
    refine R_astore (Dat dd_X_put 12 rfl) rfl rfl rfl ?_
    refine R_aload (Dat dd_X_put 13 rfl) rfl rfl ?_
    obtain ⟨g6, T⟩ := T
    refine R_geti (Dat dd_X_put 14 rfl) rfl rfl (tok g6) ?_
    obtain ⟨g7, T⟩ := T
    refine R_if_ne (Dat dd_X_put 15 rfl) rfl g7  (fun c => ?_) (fun c => ?_)
    · replace T := T.1 c
      refine R_aload_n (Dat dd_X_put 16 rfl) rfl rfl ?_
      refine R_iconst (Dat dd_X_put 17 rfl) ?_
      exact R_call1 (Dat dd_X_put 18 rfl) rfl S.t0 rfl rfl rfl rfl rfl T
    · replace T := T.2 c
      refine R_iload_n (Dat dd_X_put 20 rfl) rfl ?_
      obtain ⟨g8, T⟩ := T
      refine R_if_lt (Dat dd_X_put 21 rfl) rfl g8  (fun c => ?_) (fun c => ?_)
      · replace T := T.1 c
        refine R_aload_n (Dat dd_X_put 26 rfl) rfl rfl ?_
        refine R_iconst (Dat dd_X_put 27 rfl) ?_
        exact R_call1 (Dat dd_X_put 28 rfl) rfl S.t0 rfl rfl rfl rfl rfl T
      · replace T := T.2 c
        refine R_iload_n (Dat dd_X_put 22 rfl) rfl ?_
        refine R_aload (Dat dd_X_put 23 rfl) rfl rfl ?_
        obtain ⟨g9, T⟩ := T
        refine R_geti (Dat dd_X_put 24 rfl) rfl rfl (tok g9) ?_
        obtain ⟨g10, T⟩ := T
        obtain ⟨g11, T⟩ := T
        refine R_ic_lt (Dat dd_X_put 25 rfl) rfl g10 g11 (fun c => ?_) (fun c => ?_)
        · replace T := T.1 c
          refine R_aload (Dat dd_X_put 30 rfl) rfl rfl ?_
          obtain ⟨g12, T⟩ := T
          obtain ⟨g13, T⟩ := T
          obtain ⟨g14, T⟩ := T
          refine R_getr (Dat dd_X_put 31 rfl) rfl rfl (tok g12) g13 (q := child (child 7 (a1).toNat) 0) rfl g14 ?_
          refine R_iload_n (Dat dd_X_put 32 rfl) rfl ?_
          refine R_aload (Dat dd_X_put 33 rfl) rfl rfl ?_
          refine R_iload_n (Dat dd_X_put 34 rfl) rfl ?_
          obtain ⟨g15, T⟩ := T
          exact R_call1 (Dat dd_X_put 35 rfl) rfl g15 rfl rfl rfl rfl rfl T
        · replace T := T.2 c
          refine R_aload_n (Dat dd_X_put 26 rfl) rfl rfl ?_
          refine R_iconst (Dat dd_X_put 27 rfl) ?_
          exact R_call1 (Dat dd_X_put 28 rfl) rfl S.t0 rfl rfl rfl rfl rfl T
  · replace T := T.2 c
    refine R_iconst (Dat dd_X_put 6 rfl) ?_
    exact R_ireturn (Dat dd_X_put 7 rfl) rfl T
theorem t_X_put_35 {h : Hp} {P : Value → Hp → Prop} {s0 : Int} {a0 a1 a2 a3 a4 : Value} (S : XS h) (T : P (.int (I s0)) h) : R 84 35 [a0, a1, a2, a3, a4] [.int (I s0)] h P := by
  exact R_ireturn (Dat dd_X_put 19 rfl) rfl T
theorem t_X_put_54 {h : Hp} {P : Value → Hp → Prop} {s0 : Int} {a0 a1 a2 a3 a4 : Value} (S : XS h) (T : P (.int (I s0)) h) : R 84 54 [a0, a1, a2, a3, a4] [.int (I s0)] h P := by
  exact R_ireturn (Dat dd_X_put 29 rfl) rfl T
theorem t_X_put_67 {h : Hp} {P : Value → Hp → Prop} {s0 s1 : Int} {s2 : Nat} {a0 a1 a2 a3 a4 : Value} (S : XS h) (T : (tg h s2 = 20) ∧ ((ln h s2 : Int) ≤ 2147483648) ∧ (0 ≤ s1) ∧ (s1 < ln h s2) ∧ P (.int (I 1)) (setI h s2 s1 (wr s0))) : R 84 67 [a0, a1, a2, a3, a4] [.int (I s0), .int (I s1), .ref s2] h P := by
  obtain ⟨g1, T⟩ := T
  obtain ⟨g2, T⟩ := T
  obtain ⟨g3, T⟩ := T
  obtain ⟨g4, T⟩ := T
  refine R_iastore (Dat dd_X_put 36 rfl) g1 g2 g3 g4 (v := wr s0) rfl ?_
  refine R_iconst (Dat dd_X_put 37 rfl) ?_
  exact R_ireturn (Dat dd_X_put 38 rfl) rfl T
def dl_Sheet_cut : List (Nat × Instr × Nat) := [(0, .aload_n 0, 1), (1, .getfield 19, 3), (4, .ifCond .ne 6, 3), (7, .iload_n 1, 1), (8, .i2b, 1), (9, .ireturn, 1), (10, .aload_n 0, 1), (11, .getfield 19, 3), (14, .iconst 1, 1), (15, .if_icmp .ne 8, 3), (18, .iload_n 1, 1), (19, .i2s, 1), (20, .goto 4, 3), (23, .iload_n 1, 1), (24, .ireturn, 1)]
theorem dd_Sheet_cut : Dall 85 dl_Sheet_cut = true := by decide +kernel
theorem t_Sheet_cut {h : Hp} {P : Value → Hp → Prop} {p0 : Int} {r : Nat} (T : (tg h r = 10) ∧ (rng (iv h r 2)) ∧ (((iv h r 2) = 0 → P (.int (I (b8 p0))) h) ∧ (¬ (iv h r 2) = 0 → (tg h r = 10) ∧ (rng (iv h r 2)) ∧ (((iv h r 2) = 1 → P (.int (I (b16 p0))) h) ∧ (¬ (iv h r 2) = 1 → P (.int (I p0)) h))))) : R 85 0 [.ref r, .int (I p0)] [] h P := by
  refine R_aload_n (Dat dd_Sheet_cut 0 rfl) rfl rfl ?_
  obtain ⟨g1, T⟩ := T
  refine R_geti (Dat dd_Sheet_cut 1 rfl) rfl rfl (tok g1) ?_
  obtain ⟨g2, T⟩ := T
  refine R_if_ne (Dat dd_Sheet_cut 2 rfl) rfl g2  (fun c => ?_) (fun c => ?_)
  · replace T := T.1 c
    refine R_iload_n (Dat dd_Sheet_cut 3 rfl) rfl ?_
    refine R_i2b (Dat dd_Sheet_cut 4 rfl) ?_
    exact R_ireturn (Dat dd_Sheet_cut 5 rfl) rfl T
  · replace T := T.2 c
    refine R_aload_n (Dat dd_Sheet_cut 6 rfl) rfl rfl ?_
    obtain ⟨g3, T⟩ := T
    refine R_geti (Dat dd_Sheet_cut 7 rfl) rfl rfl (tok g3) ?_
    refine R_iconst (Dat dd_Sheet_cut 8 rfl) ?_
    obtain ⟨g4, T⟩ := T
    refine R_ic_ne (Dat dd_Sheet_cut 9 rfl) rfl g4 (by decide) (fun c => ?_) (fun c => ?_)
    · replace T := T.1 c
      refine R_iload_n (Dat dd_Sheet_cut 10 rfl) rfl ?_
      refine R_i2s (Dat dd_Sheet_cut 11 rfl) ?_
      refine R_goto (Dat dd_Sheet_cut 12 rfl) rfl ?_
      exact R_ireturn (Dat dd_Sheet_cut 14 rfl) rfl T
    · replace T := T.2 c
      refine R_iload_n (Dat dd_Sheet_cut 13 rfl) rfl ?_
      exact R_ireturn (Dat dd_Sheet_cut 14 rfl) rfl T
def dl_X_many : List (Nat × Instr × Nat) := [(0, .iload_n 1, 1), (1, .tableswitch 87 0 5 #[39, 47, 55, 60, 65, 70], 39), (40, .aload_n 0, 1), (41, .getfield 12, 3), (44, .getfield 96, 3), (47, .ireturn, 1), (48, .aload_n 0, 1), (49, .getfield 12, 3), (52, .getfield 204, 3), (55, .ireturn, 1), (56, .aload_n 0, 1), (57, .getfield 146, 3), (60, .ireturn, 1), (61, .aload_n 0, 1), (62, .getfield 90, 3), (65, .ireturn, 1), (66, .aload_n 0, 1), (67, .getfield 93, 3), (70, .ireturn, 1), (71, .aload_n 0, 1), (72, .getfield 146, 3), (75, .ifCond .ne 8, 3), (78, .bipush (-9), 2), (80, .goto 7, 3), (83, .aload_n 0, 1), (84, .getfield 166, 3), (87, .ireturn, 1), (88, .bipush (-2), 2), (90, .ireturn, 1)]
theorem dd_X_many : Dall 86 dl_X_many = true := by decide +kernel
theorem t_X_many {h : Hp} {P : Value → Hp → Prop} {p0 : Int} (S : XS h) (T : (rng p0) ∧ (((p0 = 0 → P (.int (I (iv h 1 1))) h) ∧ (p0 = 1 → P (.int (I (iv h 1 2))) h) ∧ (p0 = 2 → P (.int (I (iv h 0 2))) h) ∧ (p0 = 3 → P (.int (I (iv h 0 8))) h) ∧ (p0 = 4 → P (.int (I (iv h 0 5))) h) ∧ (p0 = 5 → (rng (iv h 0 2)) ∧ (((iv h 0 2) = 0 → P (.int (I (-9))) h) ∧ (¬ (iv h 0 2) = 0 → P (.int (I (iv h 0 3))) h)))) ∧ (p0 < 0 ∨ 5 < p0 → P (.int (I (-2))) h))) : R 86 0 [.ref 0, .int (I p0)] [] h P := by
  refine R_iload_n (Dat dd_X_many 0 rfl) rfl ?_
  obtain ⟨g1, T⟩ := T
  refine R_tsw (lo := 0) (hi := 5) (Dat dd_X_many 1 rfl) (td := 88) (ts := [40, 48, 56, 61, 66, 71]) g1 rfl rfl rfl rfl (fun i hi hc => ?_) (fun c => ?_)
  · obtain ⟨T, -⟩ := T
    have hi : i < 6 := hi
    rcases (show i = 0 ∨ i = 1 ∨ i = 2 ∨ i = 3 ∨ i = 4 ∨ i = 5 by omega) with rfl | rfl | rfl | rfl | rfl | rfl
    · replace T := T.1 (by exact hc)
      refine R_aload_n (Dat dd_X_many 2 rfl) rfl rfl ?_
      refine R_getr (Dat dd_X_many 3 rfl) rfl rfl (tok S.t0) S.f0_0 (q := 1) rfl (tnz S.t1) ?_
      refine R_geti (Dat dd_X_many 4 rfl) rfl rfl (tok S.t1) ?_
      exact R_ireturn (Dat dd_X_many 5 rfl) rfl T
    · replace T := T.2.1 (by exact hc)
      refine R_aload_n (Dat dd_X_many 6 rfl) rfl rfl ?_
      refine R_getr (Dat dd_X_many 7 rfl) rfl rfl (tok S.t0) S.f0_0 (q := 1) rfl (tnz S.t1) ?_
      refine R_geti (Dat dd_X_many 8 rfl) rfl rfl (tok S.t1) ?_
      exact R_ireturn (Dat dd_X_many 9 rfl) rfl T
    · replace T := T.2.2.1 (by exact hc)
      refine R_aload_n (Dat dd_X_many 10 rfl) rfl rfl ?_
      refine R_geti (Dat dd_X_many 11 rfl) rfl rfl (tok S.t0) ?_
      exact R_ireturn (Dat dd_X_many 12 rfl) rfl T
    · replace T := T.2.2.2.1 (by exact hc)
      refine R_aload_n (Dat dd_X_many 13 rfl) rfl rfl ?_
      refine R_geti (Dat dd_X_many 14 rfl) rfl rfl (tok S.t0) ?_
      exact R_ireturn (Dat dd_X_many 15 rfl) rfl T
    · replace T := T.2.2.2.2.1 (by exact hc)
      refine R_aload_n (Dat dd_X_many 16 rfl) rfl rfl ?_
      refine R_geti (Dat dd_X_many 17 rfl) rfl rfl (tok S.t0) ?_
      exact R_ireturn (Dat dd_X_many 18 rfl) rfl T
    · replace T := T.2.2.2.2.2 (by exact hc)
      refine R_aload_n (Dat dd_X_many 19 rfl) rfl rfl ?_
      refine R_geti (Dat dd_X_many 20 rfl) rfl rfl (tok S.t0) ?_
      obtain ⟨g2, T⟩ := T
      refine R_if_ne (Dat dd_X_many 21 rfl) rfl g2  (fun c => ?_) (fun c => ?_)
      · replace T := T.1 c
        refine R_bipush (Dat dd_X_many 22 rfl) (a := (-9)) rfl ?_
        refine R_goto (Dat dd_X_many 23 rfl) rfl ?_
        exact R_ireturn (Dat dd_X_many 26 rfl) rfl T
      · replace T := T.2 c
        refine R_aload_n (Dat dd_X_many 24 rfl) rfl rfl ?_
        refine R_geti (Dat dd_X_many 25 rfl) rfl rfl (tok S.t0) ?_
        exact R_ireturn (Dat dd_X_many 26 rfl) rfl T
  · replace T := T.2 c
    refine R_bipush (Dat dd_X_many 27 rfl) (a := (-2)) rfl ?_
    exact R_ireturn (Dat dd_X_many 28 rfl) rfl T
