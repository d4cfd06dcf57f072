def dl_Box_init : List (Nat × Instr × Nat) := [(0, .aload_n 0, 1), (1, .invokespecial 3, 3), (4, .aload_n 0, 1), (5, .bipush 7, 2), (7, .anewarray 9, 3), (10, .putfield 11, 3), (13, .aload_n 0, 1), (14, .iconst 0, 1), (15, .newarray .int, 2), (17, .putfield 17, 3), (20, .return_, 1)]
theorem dd_Box_init : Dall 2 dl_Box_init = true := by decide +kernel
theorem t_Box_init {h : Hp} {P : Value → Hp → Prop}  (T : (tg h 2 = 0) ∧ (tg (mk h 2 21 (7 : Int).toNat (7 : Int).toNat) 1 = 1) ∧ (tg (setF (mk h 2 21 (7 : Int).toNat (7 : Int).toNat) 1 0) 3 = 0) ∧ (tg (mk (setF (mk h 2 21 (7 : Int).toNat (7 : Int).toNat) 1 0) 3 20 (0 : Int).toNat (0 : Int).toNat) 1 = 1) ∧ P .null (setF (mk (setF (mk h 2 21 (7 : Int).toNat (7 : Int).toNat) 1 0) 3 20 (0 : Int).toNat (0 : Int).toNat) 1 4)) : R 2 0 [.ref 1] [] h P := by
  refine R_aload_n (Dat dd_Box_init 0 rfl) rfl rfl ?_
  refine R_call8 (Dat dd_Box_init 1 rfl) rfl rfl ?_
  refine R_aload_n (Dat dd_Box_init 2 rfl) rfl rfl ?_
  refine R_bipush (Dat dd_Box_init 3 rfl) (a := 7) rfl ?_
  obtain ⟨g1, T⟩ := T
  refine R_anew (Dat dd_Box_init 4 rfl) (t := 21) rfl rfl (q := 2) rfl g1 (Or.inl (by decide)) (by decide) (by decide) ?_
  obtain ⟨g2, T⟩ := T
  refine R_putr (Dat dd_Box_init 5 rfl) rfl rfl rfl (tok g2) rfl ?_
  refine R_aload_n (Dat dd_Box_init 6 rfl) rfl rfl ?_
  refine R_iconst (Dat dd_Box_init 7 rfl) ?_
  obtain ⟨g3, T⟩ := T
  refine R_newa (Dat dd_Box_init 8 rfl) rfl (q := 3) rfl g3 (Or.inl (by decide)) (by decide) (by decide) ?_
  obtain ⟨g4, T⟩ := T
  refine R_putr (Dat dd_Box_init 9 rfl) rfl rfl rfl (tok g4) rfl ?_
  exact R_return (Dat dd_Box_init 10 rfl) rfl T
def dl_Rule_init : List (Nat × Instr × Nat) := [(0, .aload_n 0, 1), (1, .invokespecial 3, 3), (4, .aload_n 0, 1), (5, .bipush 64, 2), (7, .newarray .int, 2), (9, .putfield 9, 3), (12, .return_, 1)]
theorem dd_Rule_init : Dall 4 dl_Rule_init = true := by decide +kernel
theorem t_Rule_init {h : Hp} {P : Value → Hp → Prop} {r : Nat} (T : (tg h (r + 1) = 0) ∧ ((r + 1) < 500) ∧ (tg (mk h (r + 1) 20 (64 : Int).toNat (64 : Int).toNat) r = 8) ∧ (child r 0 = (r + 1)) ∧ P .null (setF (mk h (r + 1) 20 (64 : Int).toNat (64 : Int).toNat) r 0)) : R 4 0 [.ref r] [] h P := by
  refine R_aload_n (Dat dd_Rule_init 0 rfl) rfl rfl ?_
  refine R_call8 (Dat dd_Rule_init 1 rfl) rfl rfl ?_
  refine R_aload_n (Dat dd_Rule_init 2 rfl) rfl rfl ?_
  refine R_bipush (Dat dd_Rule_init 3 rfl) (a := 64) rfl ?_
  obtain ⟨g1, T⟩ := T
  obtain ⟨g2, T⟩ := T
  refine R_newa (Dat dd_Rule_init 4 rfl) rfl (q := r + 1) rfl g1 (Or.inl g2) (by decide) (by decide) ?_
  obtain ⟨g3, T⟩ := T
  obtain ⟨g4, T⟩ := T
  refine R_putr (Dat dd_Rule_init 5 rfl) rfl rfl rfl (tok g3) g4 ?_
  exact R_return (Dat dd_Rule_init 6 rfl) rfl T
def dl_Box_firstFault : List (Nat × Instr × Nat) := [(0, .iconst 0, 1), (1, .istore_n 3, 1), (2, .iconst 0, 1), (3, .istore 4, 2), (5, .iconst 0, 1), (6, .istore 5, 2), (8, .iload 5, 2), (10, .iload_n 2, 1), (11, .if_icmp .ge 44, 3), (14, .iload_n 3, 1), (15, .aload_n 0, 1), (16, .iload_n 1, 1), (17, .iload 5, 2), (19, .iadd, 1), (20, .iaload, 1), (21, .iload 4, 2), (23, .invokestatic 21, 3), (26, .istore_n 3, 1), (27, .iload_n 3, 1), (28, .ifCond .ge 6, 3), (31, .iload 5, 2), (33, .ireturn, 1), (34, .iload 4, 2), (36, .iload_n 3, 1), (37, .iconst 3, 1), (38, .if_icmp .ne 7, 3), (41, .iconst 1, 1), (42, .goto 4, 3), (45, .iconst 0, 1), (46, .iadd, 1), (47, .istore 4, 2), (49, .iinc 5 1, 3), (52, .goto (-44), 3), (55, .iload_n 3, 1), (56, .iconst 3, 1), (57, .if_icmp .lt 13, 3), (60, .iload 4, 2), (62, .iconst 2, 1), (63, .if_icmp .lt 7, 3), (66, .iconst (-1), 1), (67, .goto 4, 3), (70, .iload_n 2, 1), (71, .ireturn, 1)]
theorem dd_Box_firstFault : Dall 13 dl_Box_firstFault = true := by decide +kernel
theorem t_Box_firstFault {h : Hp} {P : Value → Hp → Prop} {p1 p2 : Int} {p0 : Nat} (T : R 13 8 [.ref p0, .int (I p1), .int (I p2), .int (I 0), .int (I 0), .int (I 0)] [] h P) : R 13 0 [.ref p0, .int (I p1), .int (I p2), .retAddr 0, .retAddr 0, .retAddr 0] [] h P := by
  refine R_iconst (Dat dd_Box_firstFault 0 rfl) ?_
  refine R_istore_n (Dat dd_Box_firstFault 1 rfl) rfl rfl ?_
  refine R_iconst (Dat dd_Box_firstFault 2 rfl) ?_
  refine R_istore (Dat dd_Box_firstFault 3 rfl) rfl rfl ?_
  refine R_iconst (Dat dd_Box_firstFault 4 rfl) ?_
  refine R_istore (Dat dd_Box_firstFault 5 rfl) rfl rfl ?_
  exact T
theorem t_Box_firstFault_8 {h : Hp} {P : Value → Hp → Prop} {a1 a2 a3 a4 a5 : Int} {a0 : Nat} (T : (rng a5) ∧ (rng a2) ∧ ((a5 < a2 → (tg h a0 = 20 ∨ tg h a0 = 30) ∧ ((ln h a0 : Int) ≤ 2147483648) ∧ (0 ≤ (a1 + a5)) ∧ ((a1 + a5) < ln h a0) ∧ R 14 0 [.int (I a3), .int (I (iv h a0 (a1 + a5))), .int (I a4)] [] h (fun v h2 => R 13 26 [.ref a0, .int (I a1), .int (I a2), .int (I a3), .int (I a4), .int (I a5)] (v :: []) h2 P)) ∧ (¬ a5 < a2 → (rng a3) ∧ ((a3 < 3 → P (.int (I a2)) h) ∧ (¬ a3 < 3 → (rng a4) ∧ ((a4 < 2 → P (.int (I a2)) h) ∧ (¬ a4 < 2 → P (.int (I (-1))) h))))))) : R 13 8 [.ref a0, .int (I a1), .int (I a2), .int (I a3), .int (I a4), .int (I a5)] [] h P := by
  refine R_iload (Dat dd_Box_firstFault 6 rfl) rfl ?_
  refine R_iload_n (Dat dd_Box_firstFault 7 rfl) rfl ?_
  obtain ⟨g1, T⟩ := T
  obtain ⟨g2, T⟩ := T
  refine R_ic_ge (Dat dd_Box_firstFault 8 rfl) rfl g1 g2 (fun c => ?_) (fun c => ?_)
  · replace T := T.1 c
    refine R_iload_n (Dat dd_Box_firstFault 9 rfl) rfl ?_
    refine R_aload_n (Dat dd_Box_firstFault 10 rfl) rfl rfl ?_
    refine R_iload_n (Dat dd_Box_firstFault 11 rfl) rfl ?_
    refine R_iload (Dat dd_Box_firstFault 12 rfl) rfl ?_
    refine R_iadd (Dat dd_Box_firstFault 13 rfl) ?_
    obtain ⟨g3, T⟩ := T
    obtain ⟨g4, T⟩ := T
    obtain ⟨g5, T⟩ := T
    obtain ⟨g6, T⟩ := T
    refine R_iaload (Dat dd_Box_firstFault 14 rfl) g3 g4 g5 g6 ?_
    refine R_iload (Dat dd_Box_firstFault 15 rfl) rfl ?_
    exact R_call0 (Dat dd_Box_firstFault 16 rfl) rfl rfl rfl rfl rfl rfl T
  · replace T := T.2 c
    refine R_iload_n (Dat dd_Box_firstFault 33 rfl) rfl ?_
    refine R_iconst (Dat dd_Box_firstFault 34 rfl) ?_
    obtain ⟨g7, T⟩ := T
    refine R_ic_lt (Dat dd_Box_firstFault 35 rfl) rfl g7 (by decide) (fun c => ?_) (fun c => ?_)
    · replace T := T.1 c
      refine R_iload_n (Dat dd_Box_firstFault 41 rfl) rfl ?_
      exact R_ireturn (Dat dd_Box_firstFault 42 rfl) rfl T
    · replace T := T.2 c
      refine R_iload (Dat dd_Box_firstFault 36 rfl) rfl ?_
      refine R_iconst (Dat dd_Box_firstFault 37 rfl) ?_
      obtain ⟨g8, T⟩ := T
      refine R_ic_lt (Dat dd_Box_firstFault 38 rfl) rfl g8 (by decide) (fun c => ?_) (fun c => ?_)
      · replace T := T.1 c
        refine R_iload_n (Dat dd_Box_firstFault 41 rfl) rfl ?_
        exact R_ireturn (Dat dd_Box_firstFault 42 rfl) rfl T
      · replace T := T.2 c
        refine R_iconst (Dat dd_Box_firstFault 39 rfl) ?_
        refine R_goto (Dat dd_Box_firstFault 40 rfl) rfl ?_
        exact R_ireturn (Dat dd_Box_firstFault 42 rfl) rfl T
theorem t_Box_firstFault_26 {h : Hp} {P : Value → Hp → Prop} {a1 a2 a4 a5 s0 : Int} {a0 : Nat} {a3 : Value} (T : (rng s0) ∧ ((s0 < 0 → P (.int (I a5)) h) ∧ (¬ s0 < 0 → (rng s0) ∧ ((s0 = 3 → R 13 8 [.ref a0, .int (I a1), .int (I a2), .int (I s0), .int (I (a4 + 1)), .int (I (a5 + 1))] [] h P) ∧ (¬ s0 = 3 → R 13 8 [.ref a0, .int (I a1), .int (I a2), .int (I s0), .int (I (a4 + 0)), .int (I (a5 + 1))] [] h P))))) : R 13 26 [.ref a0, .int (I a1), .int (I a2), a3, .int (I a4), .int (I a5)] [.int (I s0)] h P := by
  refine R_istore_n (Dat dd_Box_firstFault 17 rfl) rfl rfl ?_
  refine R_iload_n (Dat dd_Box_firstFault 18 rfl) rfl ?_
  obtain ⟨g1, T⟩ := T
  refine R_if_ge (Dat dd_Box_firstFault 19 rfl) rfl g1  (fun c => ?_) (fun c => ?_)
  · replace T := T.1 c
    refine R_iload (Dat dd_Box_firstFault 20 rfl) rfl ?_
    exact R_ireturn (Dat dd_Box_firstFault 21 rfl) rfl T
  · replace T := T.2 c
    refine R_iload (Dat dd_Box_firstFault 22 rfl) rfl ?_
    refine R_iload_n (Dat dd_Box_firstFault 23 rfl) rfl ?_
    refine R_iconst (Dat dd_Box_firstFault 24 rfl) ?_
    obtain ⟨g2, T⟩ := T
    refine R_ic_ne (Dat dd_Box_firstFault 25 rfl) rfl g2 (by decide) (fun c => ?_) (fun c => ?_)
    · replace T := T.1 c
      refine R_iconst (Dat dd_Box_firstFault 26 rfl) ?_
      refine R_goto (Dat dd_Box_firstFault 27 rfl) rfl ?_
      refine R_iadd (Dat dd_Box_firstFault 29 rfl) ?_
      refine R_istore (Dat dd_Box_firstFault 30 rfl) rfl rfl ?_
      refine R_iinc (Dat dd_Box_firstFault 31 rfl) rfl rfl rfl ?_
      refine R_goto (Dat dd_Box_firstFault 32 rfl) rfl ?_
      exact T
    · replace T := T.2 c
      refine R_iconst (Dat dd_Box_firstFault 28 rfl) ?_
      refine R_iadd (Dat dd_Box_firstFault 29 rfl) ?_
      refine R_istore (Dat dd_Box_firstFault 30 rfl) rfl rfl ?_
      refine R_iinc (Dat dd_Box_firstFault 31 rfl) rfl rfl rfl ?_
      refine R_goto (Dat dd_Box_firstFault 32 rfl) rfl ?_
      exact T
def dl_Box_stateBehind : List (Nat × Instr × Nat) := [(0, .iload_n 0, 1), (1, .ifCond .ne 15, 3), (4, .iload_n 1, 1), (5, .bipush 103, 2), (7, .if_icmp .ne 7, 3), (10, .iconst 1, 1), (11, .goto 4, 3), (14, .iconst (-1), 1), (15, .ireturn, 1), (16, .iload_n 0, 1), (17, .iconst 3, 1), (18, .if_icmp .ge 23, 3), (21, .iload_n 1, 1), (22, .bipush 49, 2), (24, .if_icmp .lt 15, 3), (27, .iload_n 1, 1), (28, .bipush 57, 2), (30, .if_icmp .gt 9, 3), (33, .iload_n 0, 1), (34, .iconst 1, 1), (35, .iadd, 1), (36, .goto 4, 3), (39, .iconst (-1), 1), (40, .ireturn, 1), (41, .iload_n 1, 1), (42, .bipush 59, 2), (44, .if_icmp .ne 15, 3), (47, .iload_n 2, 1), (48, .bipush 7, 2), (50, .if_icmp .ge 7, 3), (53, .iconst 0, 1), (54, .goto 4, 3), (57, .iconst (-1), 1), (58, .ireturn, 1), (59, .iload_n 0, 1), (60, .iconst 3, 1), (61, .if_icmp .ne 11, 3), (64, .iload_n 1, 1), (65, .bipush 108, 2), (67, .if_icmp .ne 5, 3), (70, .iconst 4, 1), (71, .ireturn, 1), (72, .iload_n 0, 1), (73, .iconst 4, 1), (74, .if_icmp .ne 13, 3), (77, .iload_n 1, 1), (78, .bipush 111, 2), (80, .if_icmp .ne 7, 3), (83, .iconst 5, 1), (84, .goto 4, 3), (87, .iconst (-1), 1), (88, .ireturn, 1)]
theorem dd_Box_stateBehind : Dall 14 dl_Box_stateBehind = true := by decide +kernel
theorem t_Box_stateBehind {h : Hp} {P : Value → Hp → Prop} {p0 p1 p2 : Int} (T : (rng p0) ∧ ((p0 = 0 → (rng p1) ∧ ((p1 = 103 → P (.int (I 1)) h) ∧ (¬ p1 = 103 → P (.int (I (-1))) h))) ∧ (¬ p0 = 0 → (rng p0) ∧ ((p0 < 3 → (rng p1) ∧ ((p1 < 49 → P (.int (I (-1))) h) ∧ (¬ p1 < 49 → (rng p1) ∧ (((57 : Int) < p1 → P (.int (I (-1))) h) ∧ (¬ (57 : Int) < p1 → P (.int (I (p0 + 1))) h))))) ∧ (¬ p0 < 3 → (rng p1) ∧ ((p1 = 59 → (rng p2) ∧ ((p2 < 7 → P (.int (I 0)) h) ∧ (¬ p2 < 7 → P (.int (I (-1))) h))) ∧ (¬ p1 = 59 → (rng p0) ∧ ((p0 = 3 → (rng p1) ∧ ((p1 = 108 → P (.int (I 4)) h) ∧ (¬ p1 = 108 → (rng p0) ∧ ((p0 = 4 → (rng p1) ∧ ((p1 = 111 → P (.int (I 5)) h) ∧ (¬ p1 = 111 → P (.int (I (-1))) h))) ∧ (¬ p0 = 4 → P (.int (I (-1))) h))))) ∧ (¬ p0 = 3 → (rng p0) ∧ ((p0 = 4 → (rng p1) ∧ ((p1 = 111 → P (.int (I 5)) h) ∧ (¬ p1 = 111 → P (.int (I (-1))) h))) ∧ (¬ p0 = 4 → P (.int (I (-1))) h))))))))))) : R 14 0 [.int (I p0), .int (I p1), .int (I p2)] [] h P := by
  refine R_iload_n (Dat dd_Box_stateBehind 0 rfl) rfl ?_
  obtain ⟨g1, T⟩ := T
  refine R_if_ne (Dat dd_Box_stateBehind 1 rfl) rfl g1  (fun c => ?_) (fun c => ?_)
  · replace T := T.1 c
    refine R_iload_n (Dat dd_Box_stateBehind 2 rfl) rfl ?_
    refine R_bipush (Dat dd_Box_stateBehind 3 rfl) (a := 103) rfl ?_
    obtain ⟨g2, T⟩ := T
    refine R_ic_ne (Dat dd_Box_stateBehind 4 rfl) rfl g2 (by decide) (fun c => ?_) (fun c => ?_)
    · replace T := T.1 c
      refine R_iconst (Dat dd_Box_stateBehind 5 rfl) ?_
      refine R_goto (Dat dd_Box_stateBehind 6 rfl) rfl ?_
      exact R_ireturn (Dat dd_Box_stateBehind 8 rfl) rfl T
    · replace T := T.2 c
      refine R_iconst (Dat dd_Box_stateBehind 7 rfl) ?_
      exact R_ireturn (Dat dd_Box_stateBehind 8 rfl) rfl T
  · replace T := T.2 c
    refine R_iload_n (Dat dd_Box_stateBehind 9 rfl) rfl ?_
    refine R_iconst (Dat dd_Box_stateBehind 10 rfl) ?_
    obtain ⟨g3, T⟩ := T
    refine R_ic_ge (Dat dd_Box_stateBehind 11 rfl) rfl g3 (by decide) (fun c => ?_) (fun c => ?_)
    · replace T := T.1 c
      refine R_iload_n (Dat dd_Box_stateBehind 12 rfl) rfl ?_
      refine R_bipush (Dat dd_Box_stateBehind 13 rfl) (a := 49) rfl ?_
      obtain ⟨g4, T⟩ := T
      refine R_ic_lt (Dat dd_Box_stateBehind 14 rfl) rfl g4 (by decide) (fun c => ?_) (fun c => ?_)
      · replace T := T.1 c
        refine R_iconst (Dat dd_Box_stateBehind 22 rfl) ?_
        exact R_ireturn (Dat dd_Box_stateBehind 23 rfl) rfl T
      · replace T := T.2 c
        refine R_iload_n (Dat dd_Box_stateBehind 15 rfl) rfl ?_
        refine R_bipush (Dat dd_Box_stateBehind 16 rfl) (a := 57) rfl ?_
        obtain ⟨g5, T⟩ := T
        refine R_ic_gt (Dat dd_Box_stateBehind 17 rfl) rfl g5 (by decide) (fun c => ?_) (fun c => ?_)
        · replace T := T.1 c
          refine R_iconst (Dat dd_Box_stateBehind 22 rfl) ?_
          exact R_ireturn (Dat dd_Box_stateBehind 23 rfl) rfl T
        · replace T := T.2 c
          refine R_iload_n (Dat dd_Box_stateBehind 18 rfl) rfl ?_
          refine R_iconst (Dat dd_Box_stateBehind 19 rfl) ?_
          refine R_iadd (Dat dd_Box_stateBehind 20 rfl) ?_
          refine R_goto (Dat dd_Box_stateBehind 21 rfl) rfl ?_
          exact R_ireturn (Dat dd_Box_stateBehind 23 rfl) rfl T
    · replace T := T.2 c
      refine R_iload_n (Dat dd_Box_stateBehind 24 rfl) rfl ?_
      refine R_bipush (Dat dd_Box_stateBehind 25 rfl) (a := 59) rfl ?_
      obtain ⟨g6, T⟩ := T
      refine R_ic_ne (Dat dd_Box_stateBehind 26 rfl) rfl g6 (by decide) (fun c => ?_) (fun c => ?_)
      · replace T := T.1 c
        refine R_iload_n (Dat dd_Box_stateBehind 27 rfl) rfl ?_
        refine R_bipush (Dat dd_Box_stateBehind 28 rfl) (a := 7) rfl ?_
        obtain ⟨g7, T⟩ := T
        refine R_ic_ge (Dat dd_Box_stateBehind 29 rfl) rfl g7 (by decide) (fun c => ?_) (fun c => ?_)
        · replace T := T.1 c
          refine R_iconst (Dat dd_Box_stateBehind 30 rfl) ?_
          refine R_goto (Dat dd_Box_stateBehind 31 rfl) rfl ?_
          exact R_ireturn (Dat dd_Box_stateBehind 33 rfl) rfl T
        · replace T := T.2 c
          refine R_iconst (Dat dd_Box_stateBehind 32 rfl) ?_
          exact R_ireturn (Dat dd_Box_stateBehind 33 rfl) rfl T
      · replace T := T.2 c
        refine R_iload_n (Dat dd_Box_stateBehind 34 rfl) rfl ?_
        refine R_iconst (Dat dd_Box_stateBehind 35 rfl) ?_
        obtain ⟨g8, T⟩ := T
        refine R_ic_ne (Dat dd_Box_stateBehind 36 rfl) rfl g8 (by decide) (fun c => ?_) (fun c => ?_)
        · replace T := T.1 c
          refine R_iload_n (Dat dd_Box_stateBehind 37 rfl) rfl ?_
          refine R_bipush (Dat dd_Box_stateBehind 38 rfl) (a := 108) rfl ?_
          obtain ⟨g9, T⟩ := T
          refine R_ic_ne (Dat dd_Box_stateBehind 39 rfl) rfl g9 (by decide) (fun c => ?_) (fun c => ?_)
          · replace T := T.1 c
            refine R_iconst (Dat dd_Box_stateBehind 40 rfl) ?_
            exact R_ireturn (Dat dd_Box_stateBehind 41 rfl) rfl T
          · replace T := T.2 c
            refine R_iload_n (Dat dd_Box_stateBehind 42 rfl) rfl ?_
            refine R_iconst (Dat dd_Box_stateBehind 43 rfl) ?_
            obtain ⟨g10, T⟩ := T
            refine R_ic_ne (Dat dd_Box_stateBehind 44 rfl) rfl g10 (by decide) (fun c => ?_) (fun c => ?_)
            · replace T := T.1 c
              refine R_iload_n (Dat dd_Box_stateBehind 45 rfl) rfl ?_
              refine R_bipush (Dat dd_Box_stateBehind 46 rfl) (a := 111) rfl ?_
              obtain ⟨g11, T⟩ := T
              refine R_ic_ne (Dat dd_Box_stateBehind 47 rfl) rfl g11 (by decide) (fun c => ?_) (fun c => ?_)
              · replace T := T.1 c
                refine R_iconst (Dat dd_Box_stateBehind 48 rfl) ?_
                refine R_goto (Dat dd_Box_stateBehind 49 rfl) rfl ?_
                exact R_ireturn (Dat dd_Box_stateBehind 51 rfl) rfl T
              · replace T := T.2 c
                refine R_iconst (Dat dd_Box_stateBehind 50 rfl) ?_
                exact R_ireturn (Dat dd_Box_stateBehind 51 rfl) rfl T
            · replace T := T.2 c
              refine R_iconst (Dat dd_Box_stateBehind 50 rfl) ?_
              exact R_ireturn (Dat dd_Box_stateBehind 51 rfl) rfl T
        · replace T := T.2 c
          refine R_iload_n (Dat dd_Box_stateBehind 42 rfl) rfl ?_
          refine R_iconst (Dat dd_Box_stateBehind 43 rfl) ?_
          obtain ⟨g12, T⟩ := T
          refine R_ic_ne (Dat dd_Box_stateBehind 44 rfl) rfl g12 (by decide) (fun c => ?_) (fun c => ?_)
          · replace T := T.1 c
            refine R_iload_n (Dat dd_Box_stateBehind 45 rfl) rfl ?_
            refine R_bipush (Dat dd_Box_stateBehind 46 rfl) (a := 111) rfl ?_
            obtain ⟨g13, T⟩ := T
            refine R_ic_ne (Dat dd_Box_stateBehind 47 rfl) rfl g13 (by decide) (fun c => ?_) (fun c => ?_)
            · replace T := T.1 c
              refine R_iconst (Dat dd_Box_stateBehind 48 rfl) ?_
              refine R_goto (Dat dd_Box_stateBehind 49 rfl) rfl ?_
              exact R_ireturn (Dat dd_Box_stateBehind 51 rfl) rfl T
            · replace T := T.2 c
              refine R_iconst (Dat dd_Box_stateBehind 50 rfl) ?_
              exact R_ireturn (Dat dd_Box_stateBehind 51 rfl) rfl T
          · replace T := T.2 c
            refine R_iconst (Dat dd_Box_stateBehind 50 rfl) ?_
            exact R_ireturn (Dat dd_Box_stateBehind 51 rfl) rfl T
def dl_Box_fill : List (Nat × Instr × Nat) := [(0, .aload_n 0, 1), (1, .getfield 25, 3), (4, .istore 4, 2), (6, .aload_n 0, 1), (7, .iconst 0, 1), (8, .putfield 25, 3), (11, .iload_n 2, 1), (12, .istore 5, 2), (14, .iload 5, 2), (16, .iload_n 2, 1), (17, .iload_n 3, 1), (18, .iadd, 1), (19, .if_icmp .ge 83, 3), (22, .aload_n 0, 1), (23, .getfield 25, 3), (26, .bipush 7, 2), (28, .if_icmp .ge 74, 3), (31, .aload_n 1, 1), (32, .iload 5, 2), (34, .iconst 3, 1), (35, .iadd, 1), (36, .iload_n 2, 1), (37, .iload_n 3, 1), (38, .iadd, 1), (39, .invokestatic 29, 3), (42, .istore 6, 2), (44, .aload_n 0, 1), (45, .getfield 11, 3), (48, .aload_n 0, 1), (49, .getfield 25, 3), (52, .aload_n 0, 1), (53, .getfield 25, 3), (56, .iload 6, 2), (58, .aload_n 1, 1), (59, .iload 5, 2), (61, .iconst 1, 1), (62, .iadd, 1), (63, .iaload, 1), (64, .bipush 48, 2), (66, .isub, 1), (67, .aload_n 1, 1), (68, .iload 5, 2), (70, .iconst 2, 1), (71, .iadd, 1), (72, .iaload, 1), (73, .bipush 48, 2), (75, .isub, 1), (76, .invokestatic 33, 3), (79, .aastore, 1), (80, .aload_n 0, 1), (81, .dup, 1), (82, .getfield 25, 3), (85, .iconst 1, 1), (86, .iadd, 1), (87, .putfield 25, 3), (90, .iload 5, 2), (92, .iconst 4, 1), (93, .iload 6, 2), (95, .iadd, 1), (96, .iadd, 1), (97, .istore 5, 2), (99, .goto (-85), 3), (102, .aload_n 0, 1), (103, .getstatic 37, 3), (106, .aload_n 0, 1), (107, .getfield 25, 3), (110, .iaload, 1), (111, .putfield 40, 3), (114, .aload_n 0, 1), (115, .dup, 1), (116, .getfield 43, 3), (119, .iconst 1, 1), (120, .iadd, 1), (121, .putfield 43, 3), (124, .aload_n 0, 1), (125, .aload_n 0, 1), (126, .getfield 17, 3), (129, .aload_n 0, 1), (130, .getfield 40, 3), (133, .invokestatic 46, 3), (136, .putfield 17, 3), (139, .aload_n 0, 1), (140, .getfield 25, 3), (143, .iload 4, 2), (145, .if_icmp .eq 11, 3), (148, .aload_n 0, 1), (149, .getfield 17, 3), (152, .iconst 0, 1), (153, .invokestatic 50, 3), (156, .return_, 1)]
theorem dd_Box_fill : Dall 15 dl_Box_fill = true := by decide +kernel
theorem t_Box_fill {h : Hp} {P : Value → Hp → Prop} {p1 p2 : Int} {p0 : Nat} (S : XS h) (T : R 15 14 [.ref 1, .ref p0, .int (I p1), .int (I p2), .int (I (iv h 1 1)), .int (I p1), .retAddr 0] [] (setI h 1 1 0) P) : R 15 0 [.ref 1, .ref p0, .int (I p1), .int (I p2), .retAddr 0, .retAddr 0, .retAddr 0] [] h P := by
  refine R_aload_n (Dat dd_Box_fill 0 rfl) rfl rfl ?_
  refine R_geti (Dat dd_Box_fill 1 rfl) rfl rfl (tok S.t1) ?_
  refine R_istore (Dat dd_Box_fill 2 rfl) rfl rfl ?_
  refine R_aload_n (Dat dd_Box_fill 3 rfl) rfl rfl ?_
  refine R_iconst (Dat dd_Box_fill 4 rfl) ?_
  refine R_puti (Dat dd_Box_fill 5 rfl) rfl rfl rfl (tok S.t1) rfl (v := 0) rfl ?_
  refine R_iload_n (Dat dd_Box_fill 6 rfl) rfl ?_
  refine R_istore (Dat dd_Box_fill 7 rfl) rfl rfl ?_
  exact T
theorem t_Box_fill_14 {h : Hp} {P : Value → Hp → Prop} {a2 a3 a4 a5 : Int} {a1 : Nat} {a6 : Value} (S : XS h) (T : (rng a5) ∧ (rng (a2 + a3)) ∧ ((a5 < (a2 + a3) → (rng (iv h 1 1)) ∧ (((iv h 1 1) < 7 → R 16 0 [.ref a1, .int (I (a5 + 3)), .int (I (a2 + a3))] [] h (fun v h2 => R 15 42 [.ref 1, .ref a1, .int (I a2), .int (I a3), .int (I a4), .int (I a5), a6] (v :: []) h2 P)) ∧ (¬ (iv h 1 1) < 7 → (0 ≤ (iv h 1 1)) ∧ ((iv h 1 1) < 8) ∧ (okg 15 23 [.ref 1, .ref a1, .int (I a2), .int (I a3), .int (I a4), .int (I a5), a6] [.ref 1] [.ref 3, .int (I (iv (setI (setI h 1 2 (wr (iv h 500 (iv h 1 1)))) 1 3 (wr ((iv (setI h 1 2 (wr (iv h 500 (iv h 1 1)))) 1 3) + 1))) 1 2))] = true) ∧ R 23 0 [.ref 3, .int (I (iv (setI (setI h 1 2 (wr (iv h 500 (iv h 1 1)))) 1 3 (wr ((iv (setI h 1 2 (wr (iv h 500 (iv h 1 1)))) 1 3) + 1))) 1 2))] [] (setI (setI h 1 2 (wr (iv h 500 (iv h 1 1)))) 1 3 (wr ((iv (setI h 1 2 (wr (iv h 500 (iv h 1 1)))) 1 3) + 1))) (fun v h2 => R 15 136 [.ref 1, .ref a1, .int (I a2), .int (I a3), .int (I a4), .int (I a5), a6] (v :: [.ref 1]) h2 P)))) ∧ (¬ a5 < (a2 + a3) → (0 ≤ (iv h 1 1)) ∧ ((iv h 1 1) < 8) ∧ (okg 15 23 [.ref 1, .ref a1, .int (I a2), .int (I a3), .int (I a4), .int (I a5), a6] [.ref 1] [.ref 3, .int (I (iv (setI (setI h 1 2 (wr (iv h 500 (iv h 1 1)))) 1 3 (wr ((iv (setI h 1 2 (wr (iv h 500 (iv h 1 1)))) 1 3) + 1))) 1 2))] = true) ∧ R 23 0 [.ref 3, .int (I (iv (setI (setI h 1 2 (wr (iv h 500 (iv h 1 1)))) 1 3 (wr ((iv (setI h 1 2 (wr (iv h 500 (iv h 1 1)))) 1 3) + 1))) 1 2))] [] (setI (setI h 1 2 (wr (iv h 500 (iv h 1 1)))) 1 3 (wr ((iv (setI h 1 2 (wr (iv h 500 (iv h 1 1)))) 1 3) + 1))) (fun v h2 => R 15 136 [.ref 1, .ref a1, .int (I a2), .int (I a3), .int (I a4), .int (I a5), a6] (v :: [.ref 1]) h2 P)))) : R 15 14 [.ref 1, .ref a1, .int (I a2), .int (I a3), .int (I a4), .int (I a5), a6] [] h P := by
  refine R_iload (Dat dd_Box_fill 8 rfl) rfl ?_
  refine R_iload_n (Dat dd_Box_fill 9 rfl) rfl ?_
  refine R_iload_n (Dat dd_Box_fill 10 rfl) rfl ?_
  refine R_iadd (Dat dd_Box_fill 11 rfl) ?_
  obtain ⟨g1, T⟩ := T
  obtain ⟨g2, T⟩ := T
  refine R_ic_ge (Dat dd_Box_fill 12 rfl) rfl g1 g2 (fun c => ?_) (fun c => ?_)
  · replace T := T.1 c
    refine R_aload_n (Dat dd_Box_fill 13 rfl) rfl rfl ?_
    refine R_geti (Dat dd_Box_fill 14 rfl) rfl rfl (tok S.t1) ?_
    refine R_bipush (Dat dd_Box_fill 15 rfl) (a := 7) rfl ?_
    obtain ⟨g3, T⟩ := T
    refine R_ic_ge (Dat dd_Box_fill 16 rfl) rfl g3 (by decide) (fun c => ?_) (fun c => ?_)
    · replace T := T.1 c
      refine R_aload_n (Dat dd_Box_fill 17 rfl) rfl rfl ?_
      refine R_iload (Dat dd_Box_fill 18 rfl) rfl ?_
      refine R_iconst (Dat dd_Box_fill 19 rfl) ?_
      refine R_iadd (Dat dd_Box_fill 20 rfl) ?_
      refine R_iload_n (Dat dd_Box_fill 21 rfl) rfl ?_
      refine R_iload_n (Dat dd_Box_fill 22 rfl) rfl ?_
      refine R_iadd (Dat dd_Box_fill 23 rfl) ?_
      exact R_call0 (Dat dd_Box_fill 24 rfl) rfl rfl rfl rfl rfl rfl T
    · replace T := T.2 c
      refine R_aload_n (Dat dd_Box_fill 62 rfl) rfl rfl ?_
      refine R_getst (Dat dd_Box_fill 63 rfl) (r := 500) rfl S.t500 ?_
      refine R_aload_n (Dat dd_Box_fill 64 rfl) rfl rfl ?_
      refine R_geti (Dat dd_Box_fill 65 rfl) rfl rfl (tok S.t1) ?_
      obtain ⟨g4, T⟩ := T
      obtain ⟨g5, T⟩ := T
      refine R_iaload (Dat dd_Box_fill 66 rfl) (Or.inr S.t500) (lnle (show ln h 500 = 8 from S.l500) (by decide)) g4 (lnlt (show ln h 500 = 8 from S.l500) g5) ?_
      refine R_puti (Dat dd_Box_fill 67 rfl) rfl rfl rfl (tok S.t1) rfl (v := wr (iv h 500 (iv h 1 1))) rfl ?_
      refine R_aload_n (Dat dd_Box_fill 68 rfl) rfl rfl ?_
      refine R_dup (Dat dd_Box_fill 69 rfl) rfl ?_
      refine R_geti (Dat dd_Box_fill 70 rfl) rfl rfl (tok S.t1) ?_
      refine R_iconst (Dat dd_Box_fill 71 rfl) ?_
      refine R_iadd (Dat dd_Box_fill 72 rfl) ?_
      refine R_puti (Dat dd_Box_fill 73 rfl) rfl rfl rfl (tok S.t1) rfl (v := wr ((iv (setI h 1 2 (wr (iv h 500 (iv h 1 1)))) 1 3) + 1)) rfl ?_
      refine R_aload_n (Dat dd_Box_fill 74 rfl) rfl rfl ?_
      refine R_aload_n (Dat dd_Box_fill 75 rfl) rfl rfl ?_
      refine R_getr (Dat dd_Box_fill 76 rfl) rfl rfl (tok S.t1) S.f1_4 (q := 3) rfl (tnz S.t3) ?_
      refine R_aload_n (Dat dd_Box_fill 77 rfl) rfl rfl ?_
      refine R_geti (Dat dd_Box_fill 78 rfl) rfl rfl (tok S.t1) ?_
      obtain ⟨g6, T⟩ := T
      exact R_call3 (Dat dd_Box_fill 79 rfl) rfl rfl rfl rfl g6 rfl T
  · replace T := T.2 c
    refine R_aload_n (Dat dd_Box_fill 62 rfl) rfl rfl ?_
    refine R_getst (Dat dd_Box_fill 63 rfl) (r := 500) rfl S.t500 ?_
    refine R_aload_n (Dat dd_Box_fill 64 rfl) rfl rfl ?_
    refine R_geti (Dat dd_Box_fill 65 rfl) rfl rfl (tok S.t1) ?_
    obtain ⟨g7, T⟩ := T
    obtain ⟨g8, T⟩ := T
    refine R_iaload (Dat dd_Box_fill 66 rfl) (Or.inr S.t500) (lnle (show ln h 500 = 8 from S.l500) (by decide)) g7 (lnlt (show ln h 500 = 8 from S.l500) g8) ?_
    refine R_puti (Dat dd_Box_fill 67 rfl) rfl rfl rfl (tok S.t1) rfl (v := wr (iv h 500 (iv h 1 1))) rfl ?_
    refine R_aload_n (Dat dd_Box_fill 68 rfl) rfl rfl ?_
    refine R_dup (Dat dd_Box_fill 69 rfl) rfl ?_
    refine R_geti (Dat dd_Box_fill 70 rfl) rfl rfl (tok S.t1) ?_
    refine R_iconst (Dat dd_Box_fill 71 rfl) ?_
    refine R_iadd (Dat dd_Box_fill 72 rfl) ?_
    refine R_puti (Dat dd_Box_fill 73 rfl) rfl rfl rfl (tok S.t1) rfl (v := wr ((iv (setI h 1 2 (wr (iv h 500 (iv h 1 1)))) 1 3) + 1)) rfl ?_
    refine R_aload_n (Dat dd_Box_fill 74 rfl) rfl rfl ?_
    refine R_aload_n (Dat dd_Box_fill 75 rfl) rfl rfl ?_
    refine R_getr (Dat dd_Box_fill 76 rfl) rfl rfl (tok S.t1) S.f1_4 (q := 3) rfl (tnz S.t3) ?_
    refine R_aload_n (Dat dd_Box_fill 77 rfl) rfl rfl ?_
    refine R_geti (Dat dd_Box_fill 78 rfl) rfl rfl (tok S.t1) ?_
    obtain ⟨g9, T⟩ := T
    exact R_call3 (Dat dd_Box_fill 79 rfl) rfl rfl rfl rfl g9 rfl T
theorem t_Box_fill_42 {h : Hp} {P : Value → Hp → Prop} {a2 a3 a4 a5 s0 : Int} {a1 : Nat} {a6 : Value} (S : XS h) (T : (tg h a1 = 20 ∨ tg h a1 = 30) ∧ ((ln h a1 : Int) ≤ 2147483648) ∧ (0 ≤ (a5 + 1)) ∧ ((a5 + 1) < ln h a1) ∧ (tg h a1 = 20 ∨ tg h a1 = 30) ∧ ((ln h a1 : Int) ≤ 2147483648) ∧ (0 ≤ (a5 + 2)) ∧ ((a5 + 2) < ln h a1) ∧ (okg 15 17 [.ref 1, .ref a1, .int (I a2), .int (I a3), .int (I a4), .int (I a5), .int (I s0)] [.int (I (iv h 1 1)), .ref 2] [.int (I (iv h 1 1)), .int (I s0), .int (I ((iv h a1 (a5 + 1)) - 48)), .int (I ((iv h a1 (a5 + 2)) - 48))] = true) ∧ R 17 0 [.int (I (iv h 1 1)), .int (I s0), .int (I ((iv h a1 (a5 + 1)) - 48)), .int (I ((iv h a1 (a5 + 2)) - 48))] [] h (fun v h2 => R 15 79 [.ref 1, .ref a1, .int (I a2), .int (I a3), .int (I a4), .int (I a5), .int (I s0)] (v :: [.int (I (iv h 1 1)), .ref 2]) h2 P)) : R 15 42 [.ref 1, .ref a1, .int (I a2), .int (I a3), .int (I a4), .int (I a5), a6] [.int (I s0)] h P := by
  refine R_istore (Dat dd_Box_fill 25 rfl) rfl rfl ?_
  refine R_aload_n (Dat dd_Box_fill 26 rfl) rfl rfl ?_
  refine R_getr (Dat dd_Box_fill 27 rfl) rfl rfl (tok S.t1) S.f1_0 (q := 2) rfl (tnz S.t2) ?_
  refine R_aload_n (Dat dd_Box_fill 28 rfl) rfl rfl ?_
  refine R_geti (Dat dd_Box_fill 29 rfl) rfl rfl (tok S.t1) ?_
  refine R_aload_n (Dat dd_Box_fill 30 rfl) rfl rfl ?_
  refine R_geti (Dat dd_Box_fill 31 rfl) rfl rfl (tok S.t1) ?_
  refine R_iload (Dat dd_Box_fill 32 rfl) rfl ?_
  refine R_aload_n (Dat dd_Box_fill 33 rfl) rfl rfl ?_
  refine R_iload (Dat dd_Box_fill 34 rfl) rfl ?_
  refine R_iconst (Dat dd_Box_fill 35 rfl) ?_
  refine R_iadd (Dat dd_Box_fill 36 rfl) ?_
  obtain ⟨g1, T⟩ := T
  obtain ⟨g2, T⟩ := T
  obtain ⟨g3, T⟩ := T
  obtain ⟨g4, T⟩ := T
  refine R_iaload (Dat dd_Box_fill 37 rfl) g1 g2 g3 g4 ?_
  refine R_bipush (Dat dd_Box_fill 38 rfl) (a := 48) rfl ?_
  refine R_isub (Dat dd_Box_fill 39 rfl) ?_
  refine R_aload_n (Dat dd_Box_fill 40 rfl) rfl rfl ?_
  refine R_iload (Dat dd_Box_fill 41 rfl) rfl ?_
  refine R_iconst (Dat dd_Box_fill 42 rfl) ?_
  refine R_iadd (Dat dd_Box_fill 43 rfl) ?_
  obtain ⟨g5, T⟩ := T
  obtain ⟨g6, T⟩ := T
  obtain ⟨g7, T⟩ := T
  obtain ⟨g8, T⟩ := T
  refine R_iaload (Dat dd_Box_fill 44 rfl) g5 g6 g7 g8 ?_
  refine R_bipush (Dat dd_Box_fill 45 rfl) (a := 48) rfl ?_
  refine R_isub (Dat dd_Box_fill 46 rfl) ?_
  obtain ⟨g9, T⟩ := T
  exact R_call0 (Dat dd_Box_fill 47 rfl) rfl rfl rfl rfl g9 rfl T
theorem t_Box_fill_136 {h : Hp} {P : Value → Hp → Prop} {a4 : Int} {s0 : Nat} {a1 a2 a3 a5 a6 : Value} (S : XS h) (T : (s0 = 3 ∨ s0 = 38) ∧ ((s0 = 3 → (rng (iv (setF h 1 4) 1 1)) ∧ (rng a4) ∧ (((iv (setF h 1 4) 1 1) = a4 → P .null (setF h 1 4)) ∧ (¬ (iv (setF h 1 4) 1 1) = a4 → (fl (setF h 1 4) 1 4 = true) ∧ R 24 0 [.ref 3, .int (I 0), .retAddr 0, .retAddr 0] [] (setF h 1 4) (fun _ h2 => R 15 156 [.ref 1, a1, a2, a3, .int (I a4), a5, a6] [] h2 P)))) ∧ (s0 = 38 → (mv 15 && gw 3 && !gw 1 && decide (3 < 37 ∨ 38 < 3) && tg h 38 == 20 && ng [.ref 1, a1, a2, a3, .int (I a4), a5, a6] && ng []) = true ∧ 3 ≠ 38 ∧ (tg (mov h 1 4 3 38) 1 = 1) ∧ (rng (iv (mov h 1 4 3 38) 1 1)) ∧ (rng a4) ∧ (((iv (mov h 1 4 3 38) 1 1) = a4 → P .null (mov h 1 4 3 38)) ∧ (¬ (iv (mov h 1 4 3 38) 1 1) = a4 → (tg (mov h 1 4 3 38) 1 = 1) ∧ (fl (mov h 1 4 3 38) 1 4 = true) ∧ (tg (mov h 1 4 3 38) 3 ≠ 0) ∧ R 24 0 [.ref 3, .int (I 0), .retAddr 0, .retAddr 0] [] (mov h 1 4 3 38) (fun _ h2 => R 15 156 [.ref 1, a1, a2, a3, .int (I a4), a5, a6] [] h2 P)))))) : R 15 136 [.ref 1, a1, a2, a3, .int (I a4), a5, a6] [.ref s0, .ref 1] h P := by
  obtain ⟨g1, T⟩ := T
  rcases g1 with e | e
  · replace T := T.1 e
    subst e
    refine R_putr (Dat dd_Box_fill 80 rfl) rfl rfl rfl (tok S.t1) rfl ?_
    refine R_aload_n (Dat dd_Box_fill 81 rfl) rfl rfl ?_
    refine R_geti (Dat dd_Box_fill 82 rfl) rfl rfl (tok S.t1) ?_
    refine R_iload (Dat dd_Box_fill 83 rfl) rfl ?_
    obtain ⟨g2, T⟩ := T
    obtain ⟨g3, T⟩ := T
    refine R_ic_eq (Dat dd_Box_fill 84 rfl) rfl g2 g3 (fun c => ?_) (fun c => ?_)
    · replace T := T.1 c
      exact R_return (Dat dd_Box_fill 89 rfl) rfl T
    · replace T := T.2 c
      refine R_aload_n (Dat dd_Box_fill 85 rfl) rfl rfl ?_
      obtain ⟨g4, T⟩ := T
      refine R_getr (Dat dd_Box_fill 86 rfl) rfl rfl (tok S.t1) g4 (q := 3) rfl (tnz S.t3) ?_
      refine R_iconst (Dat dd_Box_fill 87 rfl) ?_
      exact R_call0 (Dat dd_Box_fill 88 rfl) rfl rfl rfl rfl rfl rfl T
  · replace T := T.2 e
    subst e
    obtain ⟨g5, g6, T⟩ := T
    refine R_putm (Dat dd_Box_fill 80 rfl) rfl rfl rfl (tok S.t1) (q := 3) rfl g6 g5 ?_
    refine R_aload_n (Dat dd_Box_fill 81 rfl) rfl rfl ?_
    obtain ⟨g7, T⟩ := T
    refine R_geti (Dat dd_Box_fill 82 rfl) rfl rfl (tok g7) ?_
    refine R_iload (Dat dd_Box_fill 83 rfl) rfl ?_
    obtain ⟨g8, T⟩ := T
    obtain ⟨g9, T⟩ := T
    refine R_ic_eq (Dat dd_Box_fill 84 rfl) rfl g8 g9 (fun c => ?_) (fun c => ?_)
    · replace T := T.1 c
      exact R_return (Dat dd_Box_fill 89 rfl) rfl T
    · replace T := T.2 c
      refine R_aload_n (Dat dd_Box_fill 85 rfl) rfl rfl ?_
      obtain ⟨g10, T⟩ := T
      obtain ⟨g11, T⟩ := T
      obtain ⟨g12, T⟩ := T
      refine R_getr (Dat dd_Box_fill 86 rfl) rfl rfl (tok g10) g11 (q := 3) rfl g12 ?_
      refine R_iconst (Dat dd_Box_fill 87 rfl) ?_
      exact R_call0 (Dat dd_Box_fill 88 rfl) rfl rfl rfl rfl rfl rfl T
theorem t_Box_fill_79 {h : Hp} {P : Value → Hp → Prop} {a2 a3 a4 a5 a6 s1 : Int} {a1 : Nat} (S : XS h) (T : (elok (tg h 2) (tg h 37) = true) ∧ ((ln h 2 : Int) ≤ 2147483648) ∧ (0 ≤ s1) ∧ (s1 < ln h 2) ∧ ((tg h 2 == 21 && mv 15 && gw (child 2 (s1).toNat) && !gw 2 && decide (child 2 (s1).toNat < 37) && ng [.ref 1, .ref a1, .int (I a2), .int (I a3), .int (I a4), .int (I a5), .int (I a6)] && ng []) = true) ∧ (tg (mov h 2 (s1).toNat (child 2 (s1).toNat) 37) 1 = 1) ∧ (tg (mov h 2 (s1).toNat (child 2 (s1).toNat) 37) 1 = 1) ∧ R 15 14 [.ref 1, .ref a1, .int (I a2), .int (I a3), .int (I a4), .int (I (a5 + (4 + a6))), .int (I a6)] [] (setI (mov h 2 (s1).toNat (child 2 (s1).toNat) 37) 1 1 (wr ((iv (mov h 2 (s1).toNat (child 2 (s1).toNat) 37) 1 1) + 1))) P) : R 15 79 [.ref 1, .ref a1, .int (I a2), .int (I a3), .int (I a4), .int (I a5), .int (I a6)] [.ref 37, .int (I s1), .ref 2] h P := by
  obtain ⟨g1, T⟩ := T
  obtain ⟨g2, T⟩ := T
  obtain ⟨g3, T⟩ := T
  obtain ⟨g4, T⟩ := T
  obtain ⟨g5, T⟩ := T
  refine R_aastorem (Dat dd_Box_fill 48 rfl) g1 g2 g3 g4 rfl g5 ?_
  refine R_aload_n (Dat dd_Box_fill 49 rfl) rfl rfl ?_
  refine R_dup (Dat dd_Box_fill 50 rfl) rfl ?_
  obtain ⟨g6, T⟩ := T
  refine R_geti (Dat dd_Box_fill 51 rfl) rfl rfl (tok g6) ?_
  refine R_iconst (Dat dd_Box_fill 52 rfl) ?_
  refine R_iadd (Dat dd_Box_fill 53 rfl) ?_
  obtain ⟨g7, T⟩ := T
  refine R_puti (Dat dd_Box_fill 54 rfl) rfl rfl rfl (tok g7) rfl (v := wr ((iv (mov h 2 (s1).toNat (child 2 (s1).toNat) 37) 1 1) + 1)) rfl ?_
  refine R_iload (Dat dd_Box_fill 55 rfl) rfl ?_
  refine R_iconst (Dat dd_Box_fill 56 rfl) ?_
  refine R_iload (Dat dd_Box_fill 57 rfl) rfl ?_
  refine R_iadd (Dat dd_Box_fill 58 rfl) ?_
  refine R_iadd (Dat dd_Box_fill 59 rfl) ?_
  refine R_istore (Dat dd_Box_fill 60 rfl) rfl rfl ?_
  refine R_goto (Dat dd_Box_fill 61 rfl) rfl ?_
  exact T
theorem t_Box_fill_156 {h : Hp} {P : Value → Hp → Prop} {a0 a1 a2 a3 a4 a5 a6 : Value} (S : XS h) (T : P .null h) : R 15 156 [a0, a1, a2, a3, a4, a5, a6] [] h P := by
  exact R_return (Dat dd_Box_fill 89 rfl) rfl T
def dl_Box_kindAt : List (Nat × Instr × Nat) := [(0, .iload_n 1, 1), (1, .iload_n 2, 1), (2, .if_icmp .ge 11, 3), (5, .aload_n 0, 1), (6, .iload_n 1, 1), (7, .iaload, 1), (8, .bipush 108, 2), (10, .if_icmp .eq 5, 3), (13, .iconst 0, 1), (14, .ireturn, 1), (15, .iload_n 1, 1), (16, .iconst 1, 1), (17, .iadd, 1), (18, .iload_n 2, 1), (19, .if_icmp .ge 17, 3), (22, .aload_n 0, 1), (23, .iload_n 1, 1), (24, .iconst 1, 1), (25, .iadd, 1), (26, .iaload, 1), (27, .bipush 111, 2), (29, .if_icmp .ne 7, 3), (32, .iconst 2, 1), (33, .goto 4, 3), (36, .iconst 1, 1), (37, .ireturn, 1)]
theorem dd_Box_kindAt : Dall 16 dl_Box_kindAt = true := by decide +kernel
theorem t_Box_kindAt {h : Hp} {P : Value → Hp → Prop} {p1 p2 : Int} {p0 : Nat} (T : (rng p1) ∧ (rng p2) ∧ ((p1 < p2 → (tg h p0 = 20 ∨ tg h p0 = 30) ∧ ((ln h p0 : Int) ≤ 2147483648) ∧ (0 ≤ p1) ∧ (p1 < ln h p0) ∧ (rng (iv h p0 p1)) ∧ (((iv h p0 p1) = 108 → (rng (p1 + 1)) ∧ (rng p2) ∧ (((p1 + 1) < p2 → (tg h p0 = 20 ∨ tg h p0 = 30) ∧ ((ln h p0 : Int) ≤ 2147483648) ∧ (0 ≤ (p1 + 1)) ∧ ((p1 + 1) < ln h p0) ∧ (rng (iv h p0 (p1 + 1))) ∧ (((iv h p0 (p1 + 1)) = 111 → P (.int (I 2)) h) ∧ (¬ (iv h p0 (p1 + 1)) = 111 → P (.int (I 1)) h))) ∧ (¬ (p1 + 1) < p2 → P (.int (I 1)) h))) ∧ (¬ (iv h p0 p1) = 108 → P (.int (I 0)) h))) ∧ (¬ p1 < p2 → P (.int (I 0)) h))) : R 16 0 [.ref p0, .int (I p1), .int (I p2)] [] h P := by
  refine R_iload_n (Dat dd_Box_kindAt 0 rfl) rfl ?_
  refine R_iload_n (Dat dd_Box_kindAt 1 rfl) rfl ?_
  obtain ⟨g1, T⟩ := T
  obtain ⟨g2, T⟩ := T
  refine R_ic_ge (Dat dd_Box_kindAt 2 rfl) rfl g1 g2 (fun c => ?_) (fun c => ?_)
  · replace T := T.1 c
    refine R_aload_n (Dat dd_Box_kindAt 3 rfl) rfl rfl ?_
    refine R_iload_n (Dat dd_Box_kindAt 4 rfl) rfl ?_
    obtain ⟨g3, T⟩ := T
    obtain ⟨g4, T⟩ := T
    obtain ⟨g5, T⟩ := T
    obtain ⟨g6, T⟩ := T
    refine R_iaload (Dat dd_Box_kindAt 5 rfl) g3 g4 g5 g6 ?_
    refine R_bipush (Dat dd_Box_kindAt 6 rfl) (a := 108) rfl ?_
    obtain ⟨g7, T⟩ := T
    refine R_ic_eq (Dat dd_Box_kindAt 7 rfl) rfl g7 (by decide) (fun c => ?_) (fun c => ?_)
    · replace T := T.1 c
      refine R_iload_n (Dat dd_Box_kindAt 10 rfl) rfl ?_
      refine R_iconst (Dat dd_Box_kindAt 11 rfl) ?_
      refine R_iadd (Dat dd_Box_kindAt 12 rfl) ?_
      refine R_iload_n (Dat dd_Box_kindAt 13 rfl) rfl ?_
      obtain ⟨g8, T⟩ := T
      obtain ⟨g9, T⟩ := T
      refine R_ic_ge (Dat dd_Box_kindAt 14 rfl) rfl g8 g9 (fun c => ?_) (fun c => ?_)
      · replace T := T.1 c
        refine R_aload_n (Dat dd_Box_kindAt 15 rfl) rfl rfl ?_
        refine R_iload_n (Dat dd_Box_kindAt 16 rfl) rfl ?_
        refine R_iconst (Dat dd_Box_kindAt 17 rfl) ?_
        refine R_iadd (Dat dd_Box_kindAt 18 rfl) ?_
        obtain ⟨g10, T⟩ := T
        obtain ⟨g11, T⟩ := T
        obtain ⟨g12, T⟩ := T
        obtain ⟨g13, T⟩ := T
        refine R_iaload (Dat dd_Box_kindAt 19 rfl) g10 g11 g12 g13 ?_
        refine R_bipush (Dat dd_Box_kindAt 20 rfl) (a := 111) rfl ?_
        obtain ⟨g14, T⟩ := T
        refine R_ic_ne (Dat dd_Box_kindAt 21 rfl) rfl g14 (by decide) (fun c => ?_) (fun c => ?_)
        · replace T := T.1 c
          refine R_iconst (Dat dd_Box_kindAt 22 rfl) ?_
          refine R_goto (Dat dd_Box_kindAt 23 rfl) rfl ?_
          exact R_ireturn (Dat dd_Box_kindAt 25 rfl) rfl T
        · replace T := T.2 c
          refine R_iconst (Dat dd_Box_kindAt 24 rfl) ?_
          exact R_ireturn (Dat dd_Box_kindAt 25 rfl) rfl T
      · replace T := T.2 c
        refine R_iconst (Dat dd_Box_kindAt 24 rfl) ?_
        exact R_ireturn (Dat dd_Box_kindAt 25 rfl) rfl T
    · replace T := T.2 c
      refine R_iconst (Dat dd_Box_kindAt 8 rfl) ?_
      exact R_ireturn (Dat dd_Box_kindAt 9 rfl) rfl T
  · replace T := T.2 c
    refine R_iconst (Dat dd_Box_kindAt 8 rfl) ?_
    exact R_ireturn (Dat dd_Box_kindAt 9 rfl) rfl T
def dl_Box_grainOf : List (Nat × Instr × Nat) := [(0, .iload_n 1, 1), (1, .ifCond .ne 14, 3), (4, .new 9, 3), (7, .dup, 1), (8, .iload_n 0, 1), (9, .iload_n 2, 1), (10, .iload_n 3, 1), (11, .invokespecial 56, 3), (14, .areturn, 1), (15, .iload_n 1, 1), (16, .iconst 1, 1), (17, .if_icmp .ne 16, 3), (20, .new 59, 3), (23, .dup, 1), (24, .iload_n 0, 1), (25, .iload_n 2, 1), (26, .iload_n 3, 1), (27, .invokespecial 61, 3), (30, .goto 13, 3), (33, .new 62, 3), (36, .dup, 1), (37, .iload_n 0, 1), (38, .iload_n 2, 1), (39, .iload_n 3, 1), (40, .invokespecial 64, 3), (43, .areturn, 1)]
theorem dd_Box_grainOf : Dall 17 dl_Box_grainOf = true := by decide +kernel
theorem t_Box_grainOf {h : Hp} {P : Value → Hp → Prop} {p0 p1 p2 p3 : Int} (T : (rng p1) ∧ ((p1 = 0 → (tg h 37 = 0) ∧ R 18 0 [.ref 37, .int (I p0), .int (I p2), .int (I p3)] [] (mk h 37 3 0 6) (fun _ h2 => R 17 14 [.int (I p0), .int (I p1), .int (I p2), .int (I p3)] [.ref 37] h2 P)) ∧ (¬ p1 = 0 → (rng p1) ∧ ((p1 = 1 → (tg h 37 = 0) ∧ R 20 0 [.ref 37, .int (I p0), .int (I p2), .int (I p3)] [] (mk h 37 5 0 6) (fun _ h2 => R 17 30 [.int (I p0), .int (I p1), .int (I p2), .int (I p3)] [.ref 37] h2 P)) ∧ (¬ p1 = 1 → (tg h 37 = 0) ∧ R 21 0 [.ref 37, .int (I p0), .int (I p2), .int (I p3)] [] (mk h 37 7 0 6) (fun _ h2 => R 17 43 [.int (I p0), .int (I p1), .int (I p2), .int (I p3)] [.ref 37] h2 P)))))) : R 17 0 [.int (I p0), .int (I p1), .int (I p2), .int (I p3)] [] h P := by
  refine R_iload_n (Dat dd_Box_grainOf 0 rfl) rfl ?_
  obtain ⟨g1, T⟩ := T
  refine R_if_ne (Dat dd_Box_grainOf 1 rfl) rfl g1  (fun c => ?_) (fun c => ?_)
  · replace T := T.1 c
    obtain ⟨g2, T⟩ := T
    refine R_new (Dat dd_Box_grainOf 2 rfl) (ci := 2) rfl rfl (q := 37) rfl g2 (Or.inl (by decide)) ?_
    refine R_dup (Dat dd_Box_grainOf 3 rfl) rfl ?_
    refine R_iload_n (Dat dd_Box_grainOf 4 rfl) rfl ?_
    refine R_iload_n (Dat dd_Box_grainOf 5 rfl) rfl ?_
    refine R_iload_n (Dat dd_Box_grainOf 6 rfl) rfl ?_
    exact R_call2 (Dat dd_Box_grainOf 7 rfl) rfl rfl rfl rfl rfl rfl T
  · replace T := T.2 c
    refine R_iload_n (Dat dd_Box_grainOf 9 rfl) rfl ?_
    refine R_iconst (Dat dd_Box_grainOf 10 rfl) ?_
    obtain ⟨g3, T⟩ := T
    refine R_ic_ne (Dat dd_Box_grainOf 11 rfl) rfl g3 (by decide) (fun c => ?_) (fun c => ?_)
    · replace T := T.1 c
      obtain ⟨g4, T⟩ := T
      refine R_new (Dat dd_Box_grainOf 12 rfl) (ci := 4) rfl rfl (q := 37) rfl g4 (Or.inl (by decide)) ?_
      refine R_dup (Dat dd_Box_grainOf 13 rfl) rfl ?_
      refine R_iload_n (Dat dd_Box_grainOf 14 rfl) rfl ?_
      refine R_iload_n (Dat dd_Box_grainOf 15 rfl) rfl ?_
      refine R_iload_n (Dat dd_Box_grainOf 16 rfl) rfl ?_
      exact R_call2 (Dat dd_Box_grainOf 17 rfl) rfl rfl rfl rfl rfl rfl T
    · replace T := T.2 c
      obtain ⟨g5, T⟩ := T
      refine R_new (Dat dd_Box_grainOf 19 rfl) (ci := 6) rfl rfl (q := 37) rfl g5 (Or.inl (by decide)) ?_
      refine R_dup (Dat dd_Box_grainOf 20 rfl) rfl ?_
      refine R_iload_n (Dat dd_Box_grainOf 21 rfl) rfl ?_
      refine R_iload_n (Dat dd_Box_grainOf 22 rfl) rfl ?_
      refine R_iload_n (Dat dd_Box_grainOf 23 rfl) rfl ?_
      exact R_call2 (Dat dd_Box_grainOf 24 rfl) rfl rfl rfl rfl rfl rfl T
theorem t_Box_grainOf_14 {h : Hp} {P : Value → Hp → Prop} {a0 a1 a2 a3 : Value} (T : P (.ref 37) h) : R 17 14 [a0, a1, a2, a3] [.ref 37] h P := by
  exact R_areturn (Dat dd_Box_grainOf 8 rfl) rfl T
theorem t_Box_grainOf_30 {h : Hp} {P : Value → Hp → Prop} {a0 a1 a2 a3 : Value} (T : P (.ref 37) h) : R 17 30 [a0, a1, a2, a3] [.ref 37] h P := by
  refine R_goto (Dat dd_Box_grainOf 18 rfl) rfl ?_
  exact R_areturn (Dat dd_Box_grainOf 25 rfl) rfl T
theorem t_Box_grainOf_43 {h : Hp} {P : Value → Hp → Prop} {a0 a1 a2 a3 : Value} (T : P (.ref 37) h) : R 17 43 [a0, a1, a2, a3] [.ref 37] h P := by
  exact R_areturn (Dat dd_Box_grainOf 25 rfl) rfl T
def dl_Grain_init : List (Nat × Instr × Nat) := [(0, .aload_n 0, 1), (1, .iload_n 1, 1), (2, .iconst 0, 1), (3, .iload_n 2, 1), (4, .iload_n 3, 1), (5, .iload_n 2, 1), (6, .iload_n 3, 1), (7, .invokespecial 1, 3), (10, .return_, 1)]
theorem dd_Grain_init : Dall 18 dl_Grain_init = true := by decide +kernel
theorem t_Grain_init {h : Hp} {P : Value → Hp → Prop} {p0 p1 p2 : Int} {r : Nat} (T : R 19 0 [.ref r, .int (I p0), .int (I 0), .int (I p1), .int (I p2), .int (I p1), .int (I p2)] [] h (fun _ h2 => R 18 10 [.ref r, .int (I p0), .int (I p1), .int (I p2)] [] h2 P)) : R 18 0 [.ref r, .int (I p0), .int (I p1), .int (I p2)] [] h P := by
  refine R_aload_n (Dat dd_Grain_init 0 rfl) rfl rfl ?_
  refine R_iload_n (Dat dd_Grain_init 1 rfl) rfl ?_
  refine R_iconst (Dat dd_Grain_init 2 rfl) ?_
  refine R_iload_n (Dat dd_Grain_init 3 rfl) rfl ?_
  refine R_iload_n (Dat dd_Grain_init 4 rfl) rfl ?_
  refine R_iload_n (Dat dd_Grain_init 5 rfl) rfl ?_
  refine R_iload_n (Dat dd_Grain_init 6 rfl) rfl ?_
  exact R_call2 (Dat dd_Grain_init 7 rfl) rfl rfl rfl rfl rfl rfl T
theorem t_Grain_init_10 {h : Hp} {P : Value → Hp → Prop} {a0 a1 a2 a3 : Value} (T : P .null h) : R 18 10 [a0, a1, a2, a3] [] h P := by
  exact R_return (Dat dd_Grain_init 8 rfl) rfl T
def dl_Grain_init_6 : List (Nat × Instr × Nat) := [(0, .aload_n 0, 1), (1, .invokespecial 7, 3), (4, .aload_n 0, 1), (5, .iload_n 1, 1), (6, .putfield 12, 3), (9, .aload_n 0, 1), (10, .iload_n 2, 1), (11, .putfield 16, 3), (14, .aload_n 0, 1), (15, .iload_n 3, 1), (16, .putfield 19, 3), (19, .aload_n 0, 1), (20, .iload 4, 2), (22, .putfield 22, 3), (25, .aload_n 0, 1), (26, .iload 5, 2), (28, .putfield 25, 3), (31, .aload_n 0, 1), (32, .iload 6, 2), (34, .putfield 28, 3), (37, .return_, 1)]
theorem dd_Grain_init_6 : Dall 19 dl_Grain_init_6 = true := by decide +kernel
theorem t_Grain_init_6 {h : Hp} {P : Value → Hp → Prop} {p0 p1 p2 p3 p4 p5 : Int} {r : Nat} (T : (tagok 2 (tg h r) = true) ∧ (tagok 2 (tg (setI h r 0 (wr p0)) r) = true) ∧ (tagok 2 (tg (setI (setI h r 0 (wr p0)) r 1 (wr p1)) r) = true) ∧ (tagok 2 (tg (setI (setI (setI h r 0 (wr p0)) r 1 (wr p1)) r 2 (wr p2)) r) = true) ∧ (tagok 2 (tg (setI (setI (setI (setI h r 0 (wr p0)) r 1 (wr p1)) r 2 (wr p2)) r 3 (wr p3)) r) = true) ∧ (tagok 2 (tg (setI (setI (setI (setI (setI h r 0 (wr p0)) r 1 (wr p1)) r 2 (wr p2)) r 3 (wr p3)) r 4 (wr p4)) r) = true) ∧ P .null (setI (setI (setI (setI (setI (setI h r 0 (wr p0)) r 1 (wr p1)) r 2 (wr p2)) r 3 (wr p3)) r 4 (wr p4)) r 5 (wr p5))) : R 19 0 [.ref r, .int (I p0), .int (I p1), .int (I p2), .int (I p3), .int (I p4), .int (I p5)] [] h P := by
  refine R_aload_n (Dat dd_Grain_init_6 0 rfl) rfl rfl ?_
  refine R_call8 (Dat dd_Grain_init_6 1 rfl) rfl rfl ?_
  refine R_aload_n (Dat dd_Grain_init_6 2 rfl) rfl rfl ?_
  refine R_iload_n (Dat dd_Grain_init_6 3 rfl) rfl ?_
  obtain ⟨g1, T⟩ := T
  refine R_puti (Dat dd_Grain_init_6 4 rfl) rfl rfl rfl g1 rfl (v := wr p0) rfl ?_
  refine R_aload_n (Dat dd_Grain_init_6 5 rfl) rfl rfl ?_
  refine R_iload_n (Dat dd_Grain_init_6 6 rfl) rfl ?_
  obtain ⟨g2, T⟩ := T
  refine R_puti (Dat dd_Grain_init_6 7 rfl) rfl rfl rfl g2 rfl (v := wr p1) rfl ?_
  refine R_aload_n (Dat dd_Grain_init_6 8 rfl) rfl rfl ?_
  refine R_iload_n (Dat dd_Grain_init_6 9 rfl) rfl ?_
  obtain ⟨g3, T⟩ := T
  refine R_puti (Dat dd_Grain_init_6 10 rfl) rfl rfl rfl g3 rfl (v := wr p2) rfl ?_
  refine R_aload_n (Dat dd_Grain_init_6 11 rfl) rfl rfl ?_
  refine R_iload (Dat dd_Grain_init_6 12 rfl) rfl ?_
  obtain ⟨g4, T⟩ := T
  refine R_puti (Dat dd_Grain_init_6 13 rfl) rfl rfl rfl g4 rfl (v := wr p3) rfl ?_
  refine R_aload_n (Dat dd_Grain_init_6 14 rfl) rfl rfl ?_
  refine R_iload (Dat dd_Grain_init_6 15 rfl) rfl ?_
  obtain ⟨g5, T⟩ := T
  refine R_puti (Dat dd_Grain_init_6 16 rfl) rfl rfl rfl g5 rfl (v := wr p4) rfl ?_
  refine R_aload_n (Dat dd_Grain_init_6 17 rfl) rfl rfl ?_
  refine R_iload (Dat dd_Grain_init_6 18 rfl) rfl ?_
  obtain ⟨g6, T⟩ := T
  refine R_puti (Dat dd_Grain_init_6 19 rfl) rfl rfl rfl g6 rfl (v := wr p5) rfl ?_
  exact R_return (Dat dd_Grain_init_6 20 rfl) rfl T
def dl_Long_init : List (Nat × Instr × Nat) := [(0, .aload_n 0, 1), (1, .iload_n 1, 1), (2, .iconst 1, 1), (3, .iload_n 2, 1), (4, .iload_n 3, 1), (5, .iload_n 2, 1), (6, .iconst 1, 1), (7, .isub, 1), (8, .iload_n 3, 1), (9, .invokespecial 1, 3), (12, .return_, 1)]
theorem dd_Long_init : Dall 20 dl_Long_init = true := by decide +kernel
theorem t_Long_init {h : Hp} {P : Value → Hp → Prop} {p0 p1 p2 : Int} {r : Nat} (T : R 19 0 [.ref r, .int (I p0), .int (I 1), .int (I p1), .int (I p2), .int (I (p1 - 1)), .int (I p2)] [] h (fun _ h2 => R 20 12 [.ref r, .int (I p0), .int (I p1), .int (I p2)] [] h2 P)) : R 20 0 [.ref r, .int (I p0), .int (I p1), .int (I p2)] [] h P := by
  refine R_aload_n (Dat dd_Long_init 0 rfl) rfl rfl ?_
  refine R_iload_n (Dat dd_Long_init 1 rfl) rfl ?_
  refine R_iconst (Dat dd_Long_init 2 rfl) ?_
  refine R_iload_n (Dat dd_Long_init 3 rfl) rfl ?_
  refine R_iload_n (Dat dd_Long_init 4 rfl) rfl ?_
  refine R_iload_n (Dat dd_Long_init 5 rfl) rfl ?_
  refine R_iconst (Dat dd_Long_init 6 rfl) ?_
  refine R_isub (Dat dd_Long_init 7 rfl) ?_
  refine R_iload_n (Dat dd_Long_init 8 rfl) rfl ?_
  exact R_call2 (Dat dd_Long_init 9 rfl) rfl rfl rfl rfl rfl rfl T
theorem t_Long_init_12 {h : Hp} {P : Value → Hp → Prop} {a0 a1 a2 a3 : Value} (T : P .null h) : R 20 12 [a0, a1, a2, a3] [] h P := by
  exact R_return (Dat dd_Long_init 10 rfl) rfl T
def dl_Oily_init : List (Nat × Instr × Nat) := [(0, .aload_n 0, 1), (1, .iload_n 1, 1), (2, .iconst 2, 1), (3, .iload_n 2, 1), (4, .iload_n 3, 1), (5, .iload_n 3, 1), (6, .iconst 2, 1), (7, .iadd, 1), (8, .invokespecial 1, 3), (11, .return_, 1)]
theorem dd_Oily_init : Dall 21 dl_Oily_init = true := by decide +kernel
theorem t_Oily_init {h : Hp} {P : Value → Hp → Prop} {p0 p1 p2 : Int} {r : Nat} (T : R 22 0 [.ref r, .int (I p0), .int (I 2), .int (I p1), .int (I p2), .int (I (p2 + 2))] [] h (fun _ h2 => R 21 11 [.ref r, .int (I p0), .int (I p1), .int (I p2)] [] h2 P)) : R 21 0 [.ref r, .int (I p0), .int (I p1), .int (I p2)] [] h P := by
  refine R_aload_n (Dat dd_Oily_init 0 rfl) rfl rfl ?_
  refine R_iload_n (Dat dd_Oily_init 1 rfl) rfl ?_
  refine R_iconst (Dat dd_Oily_init 2 rfl) ?_
  refine R_iload_n (Dat dd_Oily_init 3 rfl) rfl ?_
  refine R_iload_n (Dat dd_Oily_init 4 rfl) rfl ?_
  refine R_iload_n (Dat dd_Oily_init 5 rfl) rfl ?_
  refine R_iconst (Dat dd_Oily_init 6 rfl) ?_
  refine R_iadd (Dat dd_Oily_init 7 rfl) ?_
  exact R_call2 (Dat dd_Oily_init 8 rfl) rfl rfl rfl rfl rfl rfl T
theorem t_Oily_init_11 {h : Hp} {P : Value → Hp → Prop} {a0 a1 a2 a3 : Value} (T : P .null h) : R 21 11 [a0, a1, a2, a3] [] h P := by
  exact R_return (Dat dd_Oily_init 9 rfl) rfl T
def dl_Long_init_5 : List (Nat × Instr × Nat) := [(0, .aload_n 0, 1), (1, .iload_n 1, 1), (2, .iload_n 2, 1), (3, .iload_n 3, 1), (4, .iload 4, 2), (6, .iload_n 3, 1), (7, .iconst 1, 1), (8, .isub, 1), (9, .iload 5, 2), (11, .invokespecial 1, 3), (14, .return_, 1)]
theorem dd_Long_init_5 : Dall 22 dl_Long_init_5 = true := by decide +kernel
theorem t_Long_init_5 {h : Hp} {P : Value → Hp → Prop} {p0 p1 p2 p3 p4 : Int} {r : Nat} (T : R 19 0 [.ref r, .int (I p0), .int (I p1), .int (I p2), .int (I p3), .int (I (p2 - 1)), .int (I p4)] [] h (fun _ h2 => R 22 14 [.ref r, .int (I p0), .int (I p1), .int (I p2), .int (I p3), .int (I p4)] [] h2 P)) : R 22 0 [.ref r, .int (I p0), .int (I p1), .int (I p2), .int (I p3), .int (I p4)] [] h P := by
  refine R_aload_n (Dat dd_Long_init_5 0 rfl) rfl rfl ?_
  refine R_iload_n (Dat dd_Long_init_5 1 rfl) rfl ?_
  refine R_iload_n (Dat dd_Long_init_5 2 rfl) rfl ?_
  refine R_iload_n (Dat dd_Long_init_5 3 rfl) rfl ?_
  refine R_iload (Dat dd_Long_init_5 4 rfl) rfl ?_
  refine R_iload_n (Dat dd_Long_init_5 5 rfl) rfl ?_
  refine R_iconst (Dat dd_Long_init_5 6 rfl) ?_
  refine R_isub (Dat dd_Long_init_5 7 rfl) ?_
  refine R_iload (Dat dd_Long_init_5 8 rfl) rfl ?_
  exact R_call2 (Dat dd_Long_init_5 9 rfl) rfl rfl rfl rfl rfl rfl T
theorem t_Long_init_5_14 {h : Hp} {P : Value → Hp → Prop} {a0 a1 a2 a3 a4 a5 : Value} (T : P .null h) : R 22 14 [a0, a1, a2, a3, a4, a5] [] h P := by
  exact R_return (Dat dd_Long_init_5 10 rfl) rfl T
def dl_Box_rowOf : List (Nat × Instr × Nat) := [(0, .aload_n 0, 1), (1, .getfield 17, 3), (4, .iload_n 1, 1), (5, .iaload, 1), (6, .ifCond .ne 14, 3), (9, .aload_n 0, 1), (10, .getfield 17, 3), (13, .iload_n 1, 1), (14, .aload_n 0, 1), (15, .iload_n 1, 1), (16, .invokevirtual 65, 3), (19, .iastore, 1), (20, .aload_n 0, 1), (21, .getfield 17, 3), (24, .iload_n 1, 1), (25, .iaload, 1), (26, .ireturn, 1)]
theorem dd_Box_rowOf : Dall 29 dl_Box_rowOf = true := by decide +kernel
theorem t_Box_rowOf {h : Hp} {P : Value → Hp → Prop} {p0 : Int} (S : XS h) (T : ((ln h 3 : Int) ≤ 2147483648) ∧ (0 ≤ p0) ∧ (p0 < ln h 3) ∧ (rng (iv h 3 p0)) ∧ (((iv h 3 p0) = 0 → R 30 0 [.ref 1, .int (I p0), .retAddr 0, .retAddr 0, .retAddr 0, .retAddr 0, .retAddr 0, .retAddr 0] [] h (fun v h2 => R 29 19 [.ref 1, .int (I p0)] (v :: [.int (I p0), .ref 3]) h2 P)) ∧ (¬ (iv h 3 p0) = 0 → ((ln h 3 : Int) ≤ 2147483648) ∧ (0 ≤ p0) ∧ (p0 < ln h 3) ∧ P (.int (I (iv h 3 p0))) h))) : R 29 0 [.ref 1, .int (I p0)] [] h P := by
  refine R_aload_n (Dat dd_Box_rowOf 0 rfl) rfl rfl ?_
  refine R_getr (Dat dd_Box_rowOf 1 rfl) rfl rfl (tok S.t1) S.f1_4 (q := 3) rfl (tnz S.t3) ?_
  refine R_iload_n (Dat dd_Box_rowOf 2 rfl) rfl ?_
  obtain ⟨g1, T⟩ := T
  obtain ⟨g2, T⟩ := T
  obtain ⟨g3, T⟩ := T
  refine R_iaload (Dat dd_Box_rowOf 3 rfl) (Or.inl S.t3) g1 g2 g3 ?_
  obtain ⟨g4, T⟩ := T
  refine R_if_ne (Dat dd_Box_rowOf 4 rfl) rfl g4  (fun c => ?_) (fun c => ?_)
  · replace T := T.1 c
    refine R_aload_n (Dat dd_Box_rowOf 5 rfl) rfl rfl ?_
    refine R_getr (Dat dd_Box_rowOf 6 rfl) rfl rfl (tok S.t1) S.f1_4 (q := 3) rfl (tnz S.t3) ?_
    refine R_iload_n (Dat dd_Box_rowOf 7 rfl) rfl ?_
    refine R_aload_n (Dat dd_Box_rowOf 8 rfl) rfl rfl ?_
    refine R_iload_n (Dat dd_Box_rowOf 9 rfl) rfl ?_
    exact R_call1 (Dat dd_Box_rowOf 10 rfl) rfl S.t1 rfl rfl rfl rfl rfl T
  · replace T := T.2 c
    refine R_aload_n (Dat dd_Box_rowOf 12 rfl) rfl rfl ?_
    refine R_getr (Dat dd_Box_rowOf 13 rfl) rfl rfl (tok S.t1) S.f1_4 (q := 3) rfl (tnz S.t3) ?_
    refine R_iload_n (Dat dd_Box_rowOf 14 rfl) rfl ?_
    obtain ⟨g5, T⟩ := T
    obtain ⟨g6, T⟩ := T
    obtain ⟨g7, T⟩ := T
    refine R_iaload (Dat dd_Box_rowOf 15 rfl) (Or.inl S.t3) g5 g6 g7 ?_
    exact R_ireturn (Dat dd_Box_rowOf 16 rfl) rfl T
theorem t_Box_rowOf_19 {h : Hp} {P : Value → Hp → Prop} {a1 s0 s1 : Int} (S : XS h) (T : ((ln h 3 : Int) ≤ 2147483648) ∧ (0 ≤ s1) ∧ (s1 < ln h 3) ∧ ((ln (setI h 3 s1 (wr s0)) 3 : Int) ≤ 2147483648) ∧ (0 ≤ a1) ∧ (a1 < ln (setI h 3 s1 (wr s0)) 3) ∧ P (.int (I (iv (setI h 3 s1 (wr s0)) 3 a1))) (setI h 3 s1 (wr s0))) : R 29 19 [.ref 1, .int (I a1)] [.int (I s0), .int (I s1), .ref 3] h P := by
  obtain ⟨g1, T⟩ := T
  obtain ⟨g2, T⟩ := T
  obtain ⟨g3, T⟩ := T
  refine R_iastore (Dat dd_Box_rowOf 11 rfl) S.t3 g1 g2 g3 (v := wr s0) rfl ?_
  refine R_aload_n (Dat dd_Box_rowOf 12 rfl) rfl rfl ?_
  refine R_getr (Dat dd_Box_rowOf 13 rfl) rfl rfl (tok S.t1) S.f1_4 (q := 3) rfl (tnz S.t3) ?_
  refine R_iload_n (Dat dd_Box_rowOf 14 rfl) rfl ?_
  obtain ⟨g4, T⟩ := T
  obtain ⟨g5, T⟩ := T
  obtain ⟨g6, T⟩ := T
  refine R_iaload (Dat dd_Box_rowOf 15 rfl) (Or.inl S.t3) g4 g5 g6 ?_
  exact R_ireturn (Dat dd_Box_rowOf 16 rfl) rfl T
def dl_Box_madeRow : List (Nat × Instr × Nat) := [(0, .iconst 0, 1), (1, .istore_n 2, 1), (2, .iload_n 1, 1), (3, .istore_n 3, 1), (4, .ldc 69, 2), (6, .istore 4, 2), (8, .iconst 0, 1), (9, .istore 5, 2), (11, .iload 5, 2), (13, .aload_n 0, 1), (14, .getfield 25, 3), (17, .if_icmp .ge 75, 3), (20, .getstatic 37, 3), (23, .aload_n 0, 1), (24, .getfield 25, 3), (27, .iconst 1, 1), (28, .isub, 1), (29, .iload 5, 2), (31, .isub, 1), (32, .iaload, 1), (33, .istore 6, 2), (35, .iconst 3, 1), (36, .iload_n 3, 1), (37, .iload 6, 2), (39, .idiv, 1), (40, .imul, 1), (41, .istore 7, 2), (43, .iload_n 3, 1), (44, .iload 6, 2), (46, .irem, 1), (47, .istore_n 3, 1), (48, .iload_n 2, 1), (49, .iload 4, 2), (51, .iload 7, 2), (53, .ishr, 1), (54, .bipush 7, 2), (56, .iand, 1), (57, .iconst 3, 1), (58, .iload 5, 2), (60, .imul, 1), (61, .ishl, 1), (62, .ior, 1), (63, .istore_n 2, 1), (64, .iload 4, 2), (66, .iconst 1, 1), (67, .iload 7, 2), (69, .ishl, 1), (70, .iconst 1, 1), (71, .isub, 1), (72, .iand, 1), (73, .iload 4, 2), (75, .iload 7, 2), (77, .iconst 3, 1), (78, .iadd, 1), (79, .ishr, 1), (80, .iload 7, 2), (82, .ishl, 1), (83, .ior, 1), (84, .istore 4, 2), (86, .iinc 5 1, 3), (89, .goto (-78), 3), (92, .iload_n 2, 1), (93, .ireturn, 1)]
theorem dd_Box_madeRow : Dall 30 dl_Box_madeRow = true := by decide +kernel
theorem t_Box_madeRow {h : Hp} {P : Value → Hp → Prop} {p0 : Int} (S : XS h) (T : R 30 11 [.ref 1, .int (I p0), .int (I 0), .int (I p0), .int (I 1754760), .int (I 0), .retAddr 0, .retAddr 0] [] h P) : R 30 0 [.ref 1, .int (I p0), .retAddr 0, .retAddr 0, .retAddr 0, .retAddr 0, .retAddr 0, .retAddr 0] [] h P := by
  refine R_iconst (Dat dd_Box_madeRow 0 rfl) ?_
  refine R_istore_n (Dat dd_Box_madeRow 1 rfl) rfl rfl ?_
  refine R_iload_n (Dat dd_Box_madeRow 2 rfl) rfl ?_
  refine R_istore_n (Dat dd_Box_madeRow 3 rfl) rfl rfl ?_
  refine R_ldc (Dat dd_Box_madeRow 4 rfl) (a := 1754760) rfl ?_
  refine R_istore (Dat dd_Box_madeRow 5 rfl) rfl rfl ?_
  refine R_iconst (Dat dd_Box_madeRow 6 rfl) ?_
  refine R_istore (Dat dd_Box_madeRow 7 rfl) rfl rfl ?_
  exact T
theorem t_Box_madeRow_11 {h : Hp} {P : Value → Hp → Prop} {a2 a3 a4 a5 : Int} {a1 a6 a7 : Value} (S : XS h) (T : (rng a5) ∧ (rng (iv h 1 1)) ∧ ((a5 < (iv h 1 1) → (0 ≤ (((iv h 1 1) - 1) - a5)) ∧ ((((iv h 1 1) - 1) - a5) < 8) ∧ (0 ≤ a3 ∧ a3 < 2147483648) ∧ (0 < (iv h 500 (((iv h 1 1) - 1) - a5)) ∧ (iv h 500 (((iv h 1 1) - 1) - a5)) < 2147483648) ∧ (0 ≤ a3 ∧ a3 < 2147483648) ∧ (0 < (iv h 500 (((iv h 1 1) - 1) - a5)) ∧ (iv h 500 (((iv h 1 1) - 1) - a5)) < 2147483648) ∧ R 30 11 [.ref 1, a1, .int (I (bor a2 (shl (band (shr a4 (3 * (a3 / (iv h 500 (((iv h 1 1) - 1) - a5))))) 7) (3 * a5)))), .int (I (a3 % (iv h 500 (((iv h 1 1) - 1) - a5)))), .int (I (bor (band a4 ((shl 1 (3 * (a3 / (iv h 500 (((iv h 1 1) - 1) - a5))))) - 1)) (shl (shr a4 ((3 * (a3 / (iv h 500 (((iv h 1 1) - 1) - a5)))) + 3)) (3 * (a3 / (iv h 500 (((iv h 1 1) - 1) - a5))))))), .int (I (a5 + 1)), .int (I (iv h 500 (((iv h 1 1) - 1) - a5))), .int (I (3 * (a3 / (iv h 500 (((iv h 1 1) - 1) - a5)))))] [] h P) ∧ (¬ a5 < (iv h 1 1) → P (.int (I a2)) h))) : R 30 11 [.ref 1, a1, .int (I a2), .int (I a3), .int (I a4), .int (I a5), a6, a7] [] h P := by
  refine R_iload (Dat dd_Box_madeRow 8 rfl) rfl ?_
  refine R_aload_n (Dat dd_Box_madeRow 9 rfl) rfl rfl ?_
  refine R_geti (Dat dd_Box_madeRow 10 rfl) rfl rfl (tok S.t1) ?_
  obtain ⟨g1, T⟩ := T
  obtain ⟨g2, T⟩ := T
  refine R_ic_ge (Dat dd_Box_madeRow 11 rfl) rfl g1 g2 (fun c => ?_) (fun c => ?_)
  · replace T := T.1 c
    refine R_getst (Dat dd_Box_madeRow 12 rfl) (r := 500) rfl S.t500 ?_
    refine R_aload_n (Dat dd_Box_madeRow 13 rfl) rfl rfl ?_
    refine R_geti (Dat dd_Box_madeRow 14 rfl) rfl rfl (tok S.t1) ?_
    refine R_iconst (Dat dd_Box_madeRow 15 rfl) ?_
    refine R_isub (Dat dd_Box_madeRow 16 rfl) ?_
    refine R_iload (Dat dd_Box_madeRow 17 rfl) rfl ?_
    refine R_isub (Dat dd_Box_madeRow 18 rfl) ?_
    obtain ⟨g3, T⟩ := T
    obtain ⟨g4, T⟩ := T
    refine R_iaload (Dat dd_Box_madeRow 19 rfl) (Or.inr S.t500) (lnle (show ln h 500 = 8 from S.l500) (by decide)) g3 (lnlt (show ln h 500 = 8 from S.l500) g4) ?_
    refine R_istore (Dat dd_Box_madeRow 20 rfl) rfl rfl ?_
    refine R_iconst (Dat dd_Box_madeRow 21 rfl) ?_
    refine R_iload_n (Dat dd_Box_madeRow 22 rfl) rfl ?_
    refine R_iload (Dat dd_Box_madeRow 23 rfl) rfl ?_
    obtain ⟨g5, T⟩ := T
    obtain ⟨g6, T⟩ := T
    refine R_idiv (Dat dd_Box_madeRow 24 rfl) g5 g6 ?_
    refine R_imul (Dat dd_Box_madeRow 25 rfl) ?_
    refine R_istore (Dat dd_Box_madeRow 26 rfl) rfl rfl ?_
    refine R_iload_n (Dat dd_Box_madeRow 27 rfl) rfl ?_
    refine R_iload (Dat dd_Box_madeRow 28 rfl) rfl ?_
    obtain ⟨g7, T⟩ := T
    obtain ⟨g8, T⟩ := T
    refine R_irem (Dat dd_Box_madeRow 29 rfl) g7 g8 ?_
    refine R_istore_n (Dat dd_Box_madeRow 30 rfl) rfl rfl ?_
    refine R_iload_n (Dat dd_Box_madeRow 31 rfl) rfl ?_
    refine R_iload (Dat dd_Box_madeRow 32 rfl) rfl ?_
    refine R_iload (Dat dd_Box_madeRow 33 rfl) rfl ?_
    refine R_ishr (Dat dd_Box_madeRow 34 rfl) ?_
    refine R_bipush (Dat dd_Box_madeRow 35 rfl) (a := 7) rfl ?_
    refine R_iand (Dat dd_Box_madeRow 36 rfl) ?_
    refine R_iconst (Dat dd_Box_madeRow 37 rfl) ?_
    refine R_iload (Dat dd_Box_madeRow 38 rfl) rfl ?_
    refine R_imul (Dat dd_Box_madeRow 39 rfl) ?_
    refine R_ishl (Dat dd_Box_madeRow 40 rfl) ?_
    refine R_ior (Dat dd_Box_madeRow 41 rfl) ?_
    refine R_istore_n (Dat dd_Box_madeRow 42 rfl) rfl rfl ?_
    refine R_iload (Dat dd_Box_madeRow 43 rfl) rfl ?_
    refine R_iconst (Dat dd_Box_madeRow 44 rfl) ?_
    refine R_iload (Dat dd_Box_madeRow 45 rfl) rfl ?_
    refine R_ishl (Dat dd_Box_madeRow 46 rfl) ?_
    refine R_iconst (Dat dd_Box_madeRow 47 rfl) ?_
    refine R_isub (Dat dd_Box_madeRow 48 rfl) ?_
    refine R_iand (Dat dd_Box_madeRow 49 rfl) ?_
    refine R_iload (Dat dd_Box_madeRow 50 rfl) rfl ?_
    refine R_iload (Dat dd_Box_madeRow 51 rfl) rfl ?_
    refine R_iconst (Dat dd_Box_madeRow 52 rfl) ?_
    refine R_iadd (Dat dd_Box_madeRow 53 rfl) ?_
    refine R_ishr (Dat dd_Box_madeRow 54 rfl) ?_
    refine R_iload (Dat dd_Box_madeRow 55 rfl) rfl ?_
    refine R_ishl (Dat dd_Box_madeRow 56 rfl) ?_
    refine R_ior (Dat dd_Box_madeRow 57 rfl) ?_
    refine R_istore (Dat dd_Box_madeRow 58 rfl) rfl rfl ?_
    refine R_iinc (Dat dd_Box_madeRow 59 rfl) rfl rfl rfl ?_
    refine R_goto (Dat dd_Box_madeRow 60 rfl) rfl ?_
    exact T
  · replace T := T.2 c
    refine R_iload_n (Dat dd_Box_madeRow 61 rfl) rfl ?_
    exact R_ireturn (Dat dd_Box_madeRow 62 rfl) rfl T
def dl_Box_placeOf : List (Nat × Instr × Nat) := [(0, .iconst 0, 1), (1, .istore_n 3, 1), (2, .iload_n 3, 1), (3, .aload_n 0, 1), (4, .getfield 25, 3), (7, .if_icmp .ge 20, 3), (10, .iload_n 2, 1), (11, .iload_n 3, 1), (12, .invokestatic 70, 3), (15, .iload_n 1, 1), (16, .if_icmp .ne 5, 3), (19, .iload_n 3, 1), (20, .ireturn, 1), (21, .iinc 3 1, 3), (24, .goto (-22), 3), (27, .iconst (-1), 1), (28, .ireturn, 1)]
theorem dd_Box_placeOf : Dall 31 dl_Box_placeOf = true := by decide +kernel
theorem t_Box_placeOf {h : Hp} {P : Value → Hp → Prop} {p0 p1 : Int} (S : XS h) (T : R 31 2 [.ref 1, .int (I p0), .int (I p1), .int (I 0)] [] h P) : R 31 0 [.ref 1, .int (I p0), .int (I p1), .retAddr 0] [] h P := by
  refine R_iconst (Dat dd_Box_placeOf 0 rfl) ?_
  refine R_istore_n (Dat dd_Box_placeOf 1 rfl) rfl rfl ?_
  exact T
theorem t_Box_placeOf_2 {h : Hp} {P : Value → Hp → Prop} {a1 a2 a3 : Int} (S : XS h) (T : (rng a3) ∧ (rng (iv h 1 1)) ∧ ((a3 < (iv h 1 1) → R 32 0 [.int (I a2), .int (I a3)] [] h (fun v h2 => R 31 15 [.ref 1, .int (I a1), .int (I a2), .int (I a3)] (v :: []) h2 P)) ∧ (¬ a3 < (iv h 1 1) → P (.int (I (-1))) h))) : R 31 2 [.ref 1, .int (I a1), .int (I a2), .int (I a3)] [] h P := by
  refine R_iload_n (Dat dd_Box_placeOf 2 rfl) rfl ?_
  refine R_aload_n (Dat dd_Box_placeOf 3 rfl) rfl rfl ?_
  refine R_geti (Dat dd_Box_placeOf 4 rfl) rfl rfl (tok S.t1) ?_
  obtain ⟨g1, T⟩ := T
  obtain ⟨g2, T⟩ := T
  refine R_ic_ge (Dat dd_Box_placeOf 5 rfl) rfl g1 g2 (fun c => ?_) (fun c => ?_)
  · replace T := T.1 c
    refine R_iload_n (Dat dd_Box_placeOf 6 rfl) rfl ?_
    refine R_iload_n (Dat dd_Box_placeOf 7 rfl) rfl ?_
    exact R_call0 (Dat dd_Box_placeOf 8 rfl) rfl rfl rfl rfl rfl rfl T
  · replace T := T.2 c
    refine R_iconst (Dat dd_Box_placeOf 15 rfl) ?_
    exact R_ireturn (Dat dd_Box_placeOf 16 rfl) rfl T
theorem t_Box_placeOf_15 {h : Hp} {P : Value → Hp → Prop} {a1 a2 a3 s0 : Int} (S : XS h) (T : (rng s0) ∧ (rng a1) ∧ ((s0 = a1 → P (.int (I a3)) h) ∧ (¬ s0 = a1 → R 31 2 [.ref 1, .int (I a1), .int (I a2), .int (I (a3 + 1))] [] h P))) : R 31 15 [.ref 1, .int (I a1), .int (I a2), .int (I a3)] [.int (I s0)] h P := by
  refine R_iload_n (Dat dd_Box_placeOf 9 rfl) rfl ?_
  obtain ⟨g1, T⟩ := T
  obtain ⟨g2, T⟩ := T
  refine R_ic_ne (Dat dd_Box_placeOf 10 rfl) rfl g1 g2 (fun c => ?_) (fun c => ?_)
  · replace T := T.1 c
    refine R_iload_n (Dat dd_Box_placeOf 11 rfl) rfl ?_
    exact R_ireturn (Dat dd_Box_placeOf 12 rfl) rfl T
  · replace T := T.2 c
    refine R_iinc (Dat dd_Box_placeOf 13 rfl) rfl rfl rfl ?_
    refine R_goto (Dat dd_Box_placeOf 14 rfl) rfl ?_
    exact T
def dl_Box_grainIn : List (Nat × Instr × Nat) := [(0, .iload_n 0, 1), (1, .iconst 3, 1), (2, .iload_n 1, 1), (3, .imul, 1), (4, .ishr, 1), (5, .bipush 7, 2), (7, .iand, 1), (8, .ireturn, 1)]
theorem dd_Box_grainIn : Dall 32 dl_Box_grainIn = true := by decide +kernel
theorem t_Box_grainIn {h : Hp} {P : Value → Hp → Prop} {p0 p1 : Int} (T : P (.int (I (band (shr p0 (3 * p1)) 7))) h) : R 32 0 [.int (I p0), .int (I p1)] [] h P := by
  refine R_iload_n (Dat dd_Box_grainIn 0 rfl) rfl ?_
  refine R_iconst (Dat dd_Box_grainIn 1 rfl) ?_
  refine R_iload_n (Dat dd_Box_grainIn 2 rfl) rfl ?_
  refine R_imul (Dat dd_Box_grainIn 3 rfl) ?_
  refine R_ishr (Dat dd_Box_grainIn 4 rfl) ?_
  refine R_bipush (Dat dd_Box_grainIn 5 rfl) (a := 7) rfl ?_
  refine R_iand (Dat dd_Box_grainIn 6 rfl) ?_
  exact R_ireturn (Dat dd_Box_grainIn 7 rfl) rfl T
def dl_Law_firstFault : List (Nat × Instr × Nat) := [(0, .iconst 0, 1), (1, .istore_n 3, 1), (2, .iload_n 3, 1), (3, .iload_n 2, 1), (4, .if_icmp .ge 23, 3), (7, .iload_n 3, 1), (8, .aload_n 0, 1), (9, .iload_n 1, 1), (10, .iload_n 3, 1), (11, .iadd, 1), (12, .iaload, 1), (13, .invokestatic 31, 3), (16, .ifCond .ne 5, 3), (19, .iload_n 3, 1), (20, .ireturn, 1), (21, .iinc 3 1, 3), (24, .goto (-22), 3), (27, .iload_n 2, 1), (28, .iconst 4, 1), (29, .irem, 1), (30, .iconst 3, 1), (31, .if_icmp .ne 7, 3), (34, .iconst (-1), 1), (35, .goto 4, 3), (38, .iload_n 2, 1), (39, .ireturn, 1)]
theorem dd_Law_firstFault : Dall 41 dl_Law_firstFault = true := by decide +kernel
theorem t_Law_firstFault {h : Hp} {P : Value → Hp → Prop} {p1 p2 : Int} {p0 : Nat} (T : R 41 2 [.ref p0, .int (I p1), .int (I p2), .int (I 0)] [] h P) : R 41 0 [.ref p0, .int (I p1), .int (I p2), .retAddr 0] [] h P := by
  refine R_iconst (Dat dd_Law_firstFault 0 rfl) ?_
  refine R_istore_n (Dat dd_Law_firstFault 1 rfl) rfl rfl ?_
  exact T
theorem t_Law_firstFault_2 {h : Hp} {P : Value → Hp → Prop} {a1 a2 a3 : Int} {a0 : Nat} (T : (rng a3) ∧ (rng a2) ∧ ((a3 < a2 → (tg h a0 = 20 ∨ tg h a0 = 30) ∧ ((ln h a0 : Int) ≤ 2147483648) ∧ (0 ≤ (a1 + a3)) ∧ ((a1 + a3) < ln h a0) ∧ R 42 0 [.int (I a3), .int (I (iv h a0 (a1 + a3)))] [] h (fun v h2 => R 41 16 [.ref a0, .int (I a1), .int (I a2), .int (I a3)] (v :: []) h2 P)) ∧ (¬ a3 < a2 → (0 ≤ a2 ∧ a2 < 2147483648) ∧ (rng (a2 % 4)) ∧ (((a2 % 4) = 3 → P (.int (I (-1))) h) ∧ (¬ (a2 % 4) = 3 → P (.int (I a2)) h))))) : R 41 2 [.ref a0, .int (I a1), .int (I a2), .int (I a3)] [] h P := by
  refine R_iload_n (Dat dd_Law_firstFault 2 rfl) rfl ?_
  refine R_iload_n (Dat dd_Law_firstFault 3 rfl) rfl ?_
  obtain ⟨g1, T⟩ := T
  obtain ⟨g2, T⟩ := T
  refine R_ic_ge (Dat dd_Law_firstFault 4 rfl) rfl g1 g2 (fun c => ?_) (fun c => ?_)
  · replace T := T.1 c
    refine R_iload_n (Dat dd_Law_firstFault 5 rfl) rfl ?_
    refine R_aload_n (Dat dd_Law_firstFault 6 rfl) rfl rfl ?_
    refine R_iload_n (Dat dd_Law_firstFault 7 rfl) rfl ?_
    refine R_iload_n (Dat dd_Law_firstFault 8 rfl) rfl ?_
    refine R_iadd (Dat dd_Law_firstFault 9 rfl) ?_
    obtain ⟨g3, T⟩ := T
    obtain ⟨g4, T⟩ := T
    obtain ⟨g5, T⟩ := T
    obtain ⟨g6, T⟩ := T
    refine R_iaload (Dat dd_Law_firstFault 10 rfl) g3 g4 g5 g6 ?_
    exact R_call0 (Dat dd_Law_firstFault 11 rfl) rfl rfl rfl rfl rfl rfl T
  · replace T := T.2 c
    refine R_iload_n (Dat dd_Law_firstFault 17 rfl) rfl ?_
    refine R_iconst (Dat dd_Law_firstFault 18 rfl) ?_
    obtain ⟨g7, T⟩ := T
    refine R_irem (Dat dd_Law_firstFault 19 rfl) g7 (by decide) ?_
    refine R_iconst (Dat dd_Law_firstFault 20 rfl) ?_
    obtain ⟨g8, T⟩ := T
    refine R_ic_ne (Dat dd_Law_firstFault 21 rfl) rfl g8 (by decide) (fun c => ?_) (fun c => ?_)
    · replace T := T.1 c
      refine R_iconst (Dat dd_Law_firstFault 22 rfl) ?_
      refine R_goto (Dat dd_Law_firstFault 23 rfl) rfl ?_
      exact R_ireturn (Dat dd_Law_firstFault 25 rfl) rfl T
    · replace T := T.2 c
      refine R_iload_n (Dat dd_Law_firstFault 24 rfl) rfl ?_
      exact R_ireturn (Dat dd_Law_firstFault 25 rfl) rfl T
theorem t_Law_firstFault_16 {h : Hp} {P : Value → Hp → Prop} {a1 a2 a3 s0 : Int} {a0 : Nat} (T : (rng s0) ∧ ((s0 = 0 → P (.int (I a3)) h) ∧ (¬ s0 = 0 → R 41 2 [.ref a0, .int (I a1), .int (I a2), .int (I (a3 + 1))] [] h P))) : R 41 16 [.ref a0, .int (I a1), .int (I a2), .int (I a3)] [.int (I s0)] h P := by
  obtain ⟨g1, T⟩ := T
  refine R_if_ne (Dat dd_Law_firstFault 12 rfl) rfl g1  (fun c => ?_) (fun c => ?_)
  · replace T := T.1 c
    refine R_iload_n (Dat dd_Law_firstFault 13 rfl) rfl ?_
    exact R_ireturn (Dat dd_Law_firstFault 14 rfl) rfl T
  · replace T := T.2 c
    refine R_iinc (Dat dd_Law_firstFault 15 rfl) rfl rfl rfl ?_
    refine R_goto (Dat dd_Law_firstFault 16 rfl) rfl ?_
    exact T
def dl_Law_goesOn : List (Nat × Instr × Nat) := [(0, .iload_n 0, 1), (1, .iconst 4, 1), (2, .irem, 1), (3, .tableswitch 76 0 2 #[25, 40, 58], 25), (28, .iload_n 1, 1), (29, .invokestatic 23, 3), (32, .bipush (-9), 2), (34, .if_icmp .eq 7, 3), (37, .iconst 1, 1), (38, .goto 4, 3), (41, .iconst 0, 1), (42, .ireturn, 1), (43, .iload_n 1, 1), (44, .bipush 48, 2), (46, .if_icmp .lt 13, 3), (49, .iload_n 1, 1), (50, .bipush 57, 2), (52, .if_icmp .gt 7, 3), (55, .iconst 1, 1), (56, .goto 4, 3), (59, .iconst 0, 1), (60, .ireturn, 1), (61, .iload_n 1, 1), (62, .bipush 49, 2), (64, .if_icmp .lt 13, 3), (67, .iload_n 1, 1), (68, .bipush 51, 2), (70, .if_icmp .gt 7, 3), (73, .iconst 1, 1), (74, .goto 4, 3), (77, .iconst 0, 1), (78, .ireturn, 1), (79, .iload_n 1, 1), (80, .bipush 59, 2), (82, .if_icmp .ne 17, 3), (85, .iload_n 0, 1), (86, .iconst 4, 1), (87, .idiv, 1), (88, .iconst 1, 1), (89, .iadd, 1), (90, .bipush 6, 2), (92, .if_icmp .ge 7, 3), (95, .iconst 1, 1), (96, .goto 4, 3), (99, .iconst 0, 1), (100, .ireturn, 1)]
theorem dd_Law_goesOn : Dall 42 dl_Law_goesOn = true := by decide +kernel
theorem t_Law_goesOn {h : Hp} {P : Value → Hp → Prop} {p0 p1 : Int} (T : (0 ≤ p0 ∧ p0 < 2147483648) ∧ (rng (p0 % 4)) ∧ ((((p0 % 4) = 0 → R 43 0 [.int (I p1), .retAddr 0] [] h (fun v h2 => R 42 32 [.int (I p0), .int (I p1)] (v :: []) h2 P)) ∧ ((p0 % 4) = 1 → (rng p1) ∧ ((p1 < 48 → P (.int (I 0)) h) ∧ (¬ p1 < 48 → (rng p1) ∧ (((57 : Int) < p1 → P (.int (I 0)) h) ∧ (¬ (57 : Int) < p1 → P (.int (I 1)) h))))) ∧ ((p0 % 4) = 2 → (rng p1) ∧ ((p1 < 49 → P (.int (I 0)) h) ∧ (¬ p1 < 49 → (rng p1) ∧ (((51 : Int) < p1 → P (.int (I 0)) h) ∧ (¬ (51 : Int) < p1 → P (.int (I 1)) h)))))) ∧ ((p0 % 4) < 0 ∨ 2 < (p0 % 4) → (rng p1) ∧ ((p1 = 59 → (0 ≤ p0 ∧ p0 < 2147483648) ∧ (rng ((p0 / 4) + 1)) ∧ ((((p0 / 4) + 1) < 6 → P (.int (I 1)) h) ∧ (¬ ((p0 / 4) + 1) < 6 → P (.int (I 0)) h))) ∧ (¬ p1 = 59 → P (.int (I 0)) h))))) : R 42 0 [.int (I p0), .int (I p1)] [] h P := by
  refine R_iload_n (Dat dd_Law_goesOn 0 rfl) rfl ?_
  refine R_iconst (Dat dd_Law_goesOn 1 rfl) ?_
  obtain ⟨g1, T⟩ := T
  refine R_irem (Dat dd_Law_goesOn 2 rfl) g1 (by decide) ?_
  obtain ⟨g2, T⟩ := T
  refine R_tsw (lo := 0) (hi := 2) (Dat dd_Law_goesOn 3 rfl) (td := 79) (ts := [28, 43, 61]) g2 rfl rfl rfl rfl (fun i hi hc => ?_) (fun c => ?_)
  · obtain ⟨T, -⟩ := T
    have hi : i < 3 := hi
    rcases (show i = 0 ∨ i = 1 ∨ i = 2 by omega) with rfl | rfl | rfl
    · replace T := T.1 (by exact hc)
      refine R_iload_n (Dat dd_Law_goesOn 4 rfl) rfl ?_
      exact R_call0 (Dat dd_Law_goesOn 5 rfl) rfl rfl rfl rfl rfl rfl T
    · replace T := T.2.1 (by exact hc)
      refine R_iload_n (Dat dd_Law_goesOn 12 rfl) rfl ?_
      refine R_bipush (Dat dd_Law_goesOn 13 rfl) (a := 48) rfl ?_
      obtain ⟨g3, T⟩ := T
      refine R_ic_lt (Dat dd_Law_goesOn 14 rfl) rfl g3 (by decide) (fun c => ?_) (fun c => ?_)
      · replace T := T.1 c
        refine R_iconst (Dat dd_Law_goesOn 20 rfl) ?_
        exact R_ireturn (Dat dd_Law_goesOn 21 rfl) rfl T
      · replace T := T.2 c
        refine R_iload_n (Dat dd_Law_goesOn 15 rfl) rfl ?_
        refine R_bipush (Dat dd_Law_goesOn 16 rfl) (a := 57) rfl ?_
        obtain ⟨g4, T⟩ := T
        refine R_ic_gt (Dat dd_Law_goesOn 17 rfl) rfl g4 (by decide) (fun c => ?_) (fun c => ?_)
        · replace T := T.1 c
          refine R_iconst (Dat dd_Law_goesOn 20 rfl) ?_
          exact R_ireturn (Dat dd_Law_goesOn 21 rfl) rfl T
        · replace T := T.2 c
          refine R_iconst (Dat dd_Law_goesOn 18 rfl) ?_
          refine R_goto (Dat dd_Law_goesOn 19 rfl) rfl ?_
          exact R_ireturn (Dat dd_Law_goesOn 21 rfl) rfl T
    · replace T := T.2.2 (by exact hc)
      refine R_iload_n (Dat dd_Law_goesOn 22 rfl) rfl ?_
      refine R_bipush (Dat dd_Law_goesOn 23 rfl) (a := 49) rfl ?_
      obtain ⟨g5, T⟩ := T
      refine R_ic_lt (Dat dd_Law_goesOn 24 rfl) rfl g5 (by decide) (fun c => ?_) (fun c => ?_)
      · replace T := T.1 c
        refine R_iconst (Dat dd_Law_goesOn 30 rfl) ?_
        exact R_ireturn (Dat dd_Law_goesOn 31 rfl) rfl T
      · replace T := T.2 c
        refine R_iload_n (Dat dd_Law_goesOn 25 rfl) rfl ?_
        refine R_bipush (Dat dd_Law_goesOn 26 rfl) (a := 51) rfl ?_
        obtain ⟨g6, T⟩ := T
        refine R_ic_gt (Dat dd_Law_goesOn 27 rfl) rfl g6 (by decide) (fun c => ?_) (fun c => ?_)
        · replace T := T.1 c
          refine R_iconst (Dat dd_Law_goesOn 30 rfl) ?_
          exact R_ireturn (Dat dd_Law_goesOn 31 rfl) rfl T
        · replace T := T.2 c
          refine R_iconst (Dat dd_Law_goesOn 28 rfl) ?_
          refine R_goto (Dat dd_Law_goesOn 29 rfl) rfl ?_
          exact R_ireturn (Dat dd_Law_goesOn 31 rfl) rfl T
  · replace T := T.2 c
    refine R_iload_n (Dat dd_Law_goesOn 32 rfl) rfl ?_
    refine R_bipush (Dat dd_Law_goesOn 33 rfl) (a := 59) rfl ?_
    obtain ⟨g7, T⟩ := T
    refine R_ic_ne (Dat dd_Law_goesOn 34 rfl) rfl g7 (by decide) (fun c => ?_) (fun c => ?_)
    · replace T := T.1 c
      refine R_iload_n (Dat dd_Law_goesOn 35 rfl) rfl ?_
      refine R_iconst (Dat dd_Law_goesOn 36 rfl) ?_
      obtain ⟨g8, T⟩ := T
      refine R_idiv (Dat dd_Law_goesOn 37 rfl) g8 (by decide) ?_
      refine R_iconst (Dat dd_Law_goesOn 38 rfl) ?_
      refine R_iadd (Dat dd_Law_goesOn 39 rfl) ?_
      refine R_bipush (Dat dd_Law_goesOn 40 rfl) (a := 6) rfl ?_
      obtain ⟨g9, T⟩ := T
      refine R_ic_ge (Dat dd_Law_goesOn 41 rfl) rfl g9 (by decide) (fun c => ?_) (fun c => ?_)
      · replace T := T.1 c
        refine R_iconst (Dat dd_Law_goesOn 42 rfl) ?_
        refine R_goto (Dat dd_Law_goesOn 43 rfl) rfl ?_
        exact R_ireturn (Dat dd_Law_goesOn 45 rfl) rfl T
      · replace T := T.2 c
        refine R_iconst (Dat dd_Law_goesOn 44 rfl) ?_
        exact R_ireturn (Dat dd_Law_goesOn 45 rfl) rfl T
    · replace T := T.2 c
      refine R_iconst (Dat dd_Law_goesOn 44 rfl) ?_
      exact R_ireturn (Dat dd_Law_goesOn 45 rfl) rfl T
theorem t_Law_goesOn_32 {h : Hp} {P : Value → Hp → Prop} {s0 : Int} {a0 a1 : Value} (T : (rng s0) ∧ ((s0 = (-9) → P (.int (I 0)) h) ∧ (¬ s0 = (-9) → P (.int (I 1)) h))) : R 42 32 [a0, a1] [.int (I s0)] h P := by
  refine R_bipush (Dat dd_Law_goesOn 6 rfl) (a := (-9)) rfl ?_
  obtain ⟨g1, T⟩ := T
  refine R_ic_eq (Dat dd_Law_goesOn 7 rfl) rfl g1 (by decide) (fun c => ?_) (fun c => ?_)
  · replace T := T.1 c
    refine R_iconst (Dat dd_Law_goesOn 10 rfl) ?_
    exact R_ireturn (Dat dd_Law_goesOn 11 rfl) rfl T
  · replace T := T.2 c
    refine R_iconst (Dat dd_Law_goesOn 8 rfl) ?_
    refine R_goto (Dat dd_Law_goesOn 9 rfl) rfl ?_
    exact R_ireturn (Dat dd_Law_goesOn 11 rfl) rfl T
def dl_Cause_letterOf : List (Nat × Instr × Nat) := [(0, .iconst 0, 1), (1, .istore_n 1, 1), (2, .iload_n 1, 1), (3, .getstatic 21, 3), (6, .arraylength, 1), (7, .if_icmp .ge 20, 3), (10, .getstatic 21, 3), (13, .iload_n 1, 1), (14, .iaload, 1), (15, .iload_n 0, 1), (16, .if_icmp .ne 5, 3), (19, .iload_n 1, 1), (20, .ireturn, 1), (21, .iinc 1 1, 3), (24, .goto (-22), 3), (27, .bipush (-9), 2), (29, .ireturn, 1)]
theorem dd_Cause_letterOf : Dall 43 dl_Cause_letterOf = true := by decide +kernel
theorem t_Cause_letterOf {h : Hp} {P : Value → Hp → Prop} {p0 : Int} (T : R 43 2 [.int (I p0), .int (I 0)] [] h P) : R 43 0 [.int (I p0), .retAddr 0] [] h P := by
  refine R_iconst (Dat dd_Cause_letterOf 0 rfl) ?_
  refine R_istore_n (Dat dd_Cause_letterOf 1 rfl) rfl rfl ?_
  exact T
theorem t_Cause_letterOf_2 {h : Hp} {P : Value → Hp → Prop} {a0 a1 : Int} (T : (tg h 501 = 30) ∧ ((20 ≤ tg h 501 ∧ tg h 501 ≤ 25) ∨ tg h 501 = 30) ∧ (rng a1) ∧ (rng (ln h 501 : Int)) ∧ ((a1 < (ln h 501 : Int) → (tg h 501 = 30) ∧ (tg h 501 = 20 ∨ tg h 501 = 30) ∧ ((ln h 501 : Int) ≤ 2147483648) ∧ (0 ≤ a1) ∧ (a1 < ln h 501) ∧ (rng (iv h 501 a1)) ∧ (rng a0) ∧ (((iv h 501 a1) = a0 → P (.int (I a1)) h) ∧ (¬ (iv h 501 a1) = a0 → R 43 2 [.int (I a0), .int (I (a1 + 1))] [] h P))) ∧ (¬ a1 < (ln h 501 : Int) → P (.int (I (-9))) h))) : R 43 2 [.int (I a0), .int (I a1)] [] h P := by
  refine R_iload_n (Dat dd_Cause_letterOf 2 rfl) rfl ?_
  obtain ⟨g1, T⟩ := T
  refine R_getst (Dat dd_Cause_letterOf 3 rfl) (r := 501) rfl g1 ?_
  obtain ⟨g2, T⟩ := T
  refine R_alen (Dat dd_Cause_letterOf 4 rfl) g2 ?_
  obtain ⟨g3, T⟩ := T
  obtain ⟨g4, T⟩ := T
  refine R_ic_ge (Dat dd_Cause_letterOf 5 rfl) rfl g3 g4 (fun c => ?_) (fun c => ?_)
  · replace T := T.1 c
    obtain ⟨g5, T⟩ := T
    refine R_getst (Dat dd_Cause_letterOf 6 rfl) (r := 501) rfl g5 ?_
    refine R_iload_n (Dat dd_Cause_letterOf 7 rfl) rfl ?_
    obtain ⟨g6, T⟩ := T
    obtain ⟨g7, T⟩ := T
    obtain ⟨g8, T⟩ := T
    obtain ⟨g9, T⟩ := T
    refine R_iaload (Dat dd_Cause_letterOf 8 rfl) g6 g7 g8 g9 ?_
    refine R_iload_n (Dat dd_Cause_letterOf 9 rfl) rfl ?_
    obtain ⟨g10, T⟩ := T
    obtain ⟨g11, T⟩ := T
    refine R_ic_ne (Dat dd_Cause_letterOf 10 rfl) rfl g10 g11 (fun c => ?_) (fun c => ?_)
    · replace T := T.1 c
      refine R_iload_n (Dat dd_Cause_letterOf 11 rfl) rfl ?_
      exact R_ireturn (Dat dd_Cause_letterOf 12 rfl) rfl T
    · replace T := T.2 c
      refine R_iinc (Dat dd_Cause_letterOf 13 rfl) rfl rfl rfl ?_
      refine R_goto (Dat dd_Cause_letterOf 14 rfl) rfl ?_
      exact T
  · replace T := T.2 c
    refine R_bipush (Dat dd_Cause_letterOf 15 rfl) (a := (-9)) rfl ?_
    exact R_ireturn (Dat dd_Cause_letterOf 16 rfl) rfl T
def dl_Law_init : List (Nat × Instr × Nat) := [(0, .aload_n 0, 1), (1, .invokespecial 3, 3), (4, .aload_n 0, 1), (5, .iconst 3, 1), (6, .anewarray 9, 3), (9, .putfield 11, 3), (12, .aload_n 0, 1), (13, .iload_n 3, 1), (14, .iconst 1, 1), (15, .iadd, 1), (16, .iconst 4, 1), (17, .idiv, 1), (18, .anewarray 17, 3), (21, .putfield 19, 3), (24, .iconst 0, 1), (25, .istore 4, 2), (27, .iload 4, 2), (29, .aload_n 0, 1), (30, .getfield 19, 3), (33, .arraylength, 1), (34, .if_icmp .ge 56, 3), (37, .iload_n 2, 1), (38, .iconst 4, 1), (39, .iload 4, 2), (41, .imul, 1), (42, .iadd, 1), (43, .istore 5, 2), (45, .aload_n 0, 1), (46, .getfield 19, 3), (49, .iload 4, 2), (51, .new 17, 3), (54, .dup, 1), (55, .aload_n 1, 1), (56, .iload 5, 2), (58, .iaload, 1), (59, .invokestatic 23, 3), (62, .aload_n 1, 1), (63, .iload 5, 2), (65, .iconst 1, 1), (66, .iadd, 1), (67, .iaload, 1), (68, .bipush 48, 2), (70, .isub, 1), (71, .aload_n 1, 1), (72, .iload 5, 2), (74, .iconst 2, 1), (75, .iadd, 1), (76, .iaload, 1), (77, .bipush 48, 2), (79, .isub, 1), (80, .invokespecial 27, 3), (83, .aastore, 1), (84, .iinc 4 1, 3), (87, .goto (-60), 3), (90, .iconst 0, 1), (91, .istore 4, 2), (93, .iload 4, 2), (95, .iconst 3, 1), (96, .if_icmp .ge 23, 3), (99, .aload_n 0, 1), (100, .getfield 11, 3), (103, .iload 4, 2), (105, .new 9, 3), (108, .dup, 1), (109, .invokespecial 30, 3), (112, .aastore, 1), (113, .iinc 4 1, 3), (116, .goto (-23), 3), (119, .return_, 1)]
theorem dd_Law_init : Dall 44 dl_Law_init = true := by decide +kernel
theorem t_Law_init {h : Hp} {P : Value → Hp → Prop} {p1 p2 : Int} {r p0 : Nat} (T : (tg h (r + 2) = 0) ∧ ((r + 2) < 500) ∧ (tg (mk h (r + 2) 25 (3 : Int).toNat (3 : Int).toNat) r = 4) ∧ (child r 1 = (r + 2)) ∧ (0 ≤ (p2 + 1) ∧ (p2 + 1) < 2147483648) ∧ (tg (setF (mk h (r + 2) 25 (3 : Int).toNat (3 : Int).toNat) r 1) (r + 1) = 0) ∧ ((r + 1) < 500) ∧ (0 ≤ ((p2 + 1) / 4)) ∧ (((p2 + 1) / 4) < 1000000) ∧ (tg (mk (setF (mk h (r + 2) 25 (3 : Int).toNat (3 : Int).toNat) r 1) (r + 1) 24 ((p2 + 1) / 4).toNat ((p2 + 1) / 4).toNat) r = 4) ∧ (child r 0 = (r + 1)) ∧ R 44 27 [.ref r, .ref p0, .int (I p1), .int (I p2), .int (I 0), .retAddr 0] [] (setF (mk (setF (mk h (r + 2) 25 (3 : Int).toNat (3 : Int).toNat) r 1) (r + 1) 24 ((p2 + 1) / 4).toNat ((p2 + 1) / 4).toNat) r 0) P) : R 44 0 [.ref r, .ref p0, .int (I p1), .int (I p2), .retAddr 0, .retAddr 0] [] h P := by
  refine R_aload_n (Dat dd_Law_init 0 rfl) rfl rfl ?_
  refine R_call8 (Dat dd_Law_init 1 rfl) rfl rfl ?_
  refine R_aload_n (Dat dd_Law_init 2 rfl) rfl rfl ?_
  refine R_iconst (Dat dd_Law_init 3 rfl) ?_
  obtain ⟨g1, T⟩ := T
  obtain ⟨g2, T⟩ := T
  refine R_anew (Dat dd_Law_init 4 rfl) (t := 25) rfl rfl (q := r + 2) rfl g1 (Or.inl g2) (by decide) (by decide) ?_
  obtain ⟨g3, T⟩ := T
  obtain ⟨g4, T⟩ := T
  refine R_putr (Dat dd_Law_init 5 rfl) rfl rfl rfl (tok g3) g4 ?_
  refine R_aload_n (Dat dd_Law_init 6 rfl) rfl rfl ?_
  refine R_iload_n (Dat dd_Law_init 7 rfl) rfl ?_
  refine R_iconst (Dat dd_Law_init 8 rfl) ?_
  refine R_iadd (Dat dd_Law_init 9 rfl) ?_
  refine R_iconst (Dat dd_Law_init 10 rfl) ?_
  obtain ⟨g5, T⟩ := T
  refine R_idiv (Dat dd_Law_init 11 rfl) g5 (by decide) ?_
  obtain ⟨g6, T⟩ := T
  obtain ⟨g7, T⟩ := T
  obtain ⟨g8, T⟩ := T
  obtain ⟨g9, T⟩ := T
  refine R_anew (Dat dd_Law_init 12 rfl) (t := 24) rfl rfl (q := r + 1) rfl g6 (Or.inl g7) g8 g9 ?_
  obtain ⟨g10, T⟩ := T
  obtain ⟨g11, T⟩ := T
  refine R_putr (Dat dd_Law_init 13 rfl) rfl rfl rfl (tok g10) g11 ?_
  refine R_iconst (Dat dd_Law_init 14 rfl) ?_
  refine R_istore (Dat dd_Law_init 15 rfl) rfl rfl ?_
  exact T
theorem t_Law_init_27 {h : Hp} {P : Value → Hp → Prop} {a2 a4 : Int} {a0 a1 : Nat} {a3 a5 : Value} (T : (tg h a0 = 4) ∧ (fl h a0 0 = true) ∧ (tg h (child a0 0) ≠ 0) ∧ ((20 ≤ tg h (child a0 0) ∧ tg h (child a0 0) ≤ 25) ∨ tg h (child a0 0) = 30) ∧ (rng a4) ∧ (rng (ln h (child a0 0) : Int)) ∧ ((a4 < (ln h (child a0 0) : Int) → (tg h a0 = 4) ∧ (fl h a0 0 = true) ∧ (tg h (child a0 0) ≠ 0) ∧ (tg h (a0 + 3 + (wr a4).toNat) = 0) ∧ ((a0 + 3 + (wr a4).toNat) < 500) ∧ (tg (mk h (a0 + 3 + (wr a4).toNat) 2 0 3) a1 = 20 ∨ tg (mk h (a0 + 3 + (wr a4).toNat) 2 0 3) a1 = 30) ∧ ((ln (mk h (a0 + 3 + (wr a4).toNat) 2 0 3) a1 : Int) ≤ 2147483648) ∧ (0 ≤ (a2 + (4 * a4))) ∧ ((a2 + (4 * a4)) < ln (mk h (a0 + 3 + (wr a4).toNat) 2 0 3) a1) ∧ R 43 0 [.int (I (iv (mk h (a0 + 3 + (wr a4).toNat) 2 0 3) a1 (a2 + (4 * a4)))), .retAddr 0] [] (mk h (a0 + 3 + (wr a4).toNat) 2 0 3) (fun v h2 => R 44 62 [.ref a0, .ref a1, .int (I a2), a3, .int (I a4), .int (I (a2 + (4 * a4)))] (v :: [.ref (a0 + 3 + (wr a4).toNat), .ref (a0 + 3 + (wr a4).toNat), .int (I a4), .ref (child a0 0)]) h2 P)) ∧ (¬ a4 < (ln h (child a0 0) : Int) → R 44 93 [.ref a0, .ref a1, .int (I a2), a3, .int (I 0), a5] [] h P))) : R 44 27 [.ref a0, .ref a1, .int (I a2), a3, .int (I a4), a5] [] h P := by
  refine R_iload (Dat dd_Law_init 16 rfl) rfl ?_
  refine R_aload_n (Dat dd_Law_init 17 rfl) rfl rfl ?_
  obtain ⟨g1, T⟩ := T
  obtain ⟨g2, T⟩ := T
  obtain ⟨g3, T⟩ := T
  refine R_getr (Dat dd_Law_init 18 rfl) rfl rfl (tok g1) g2 (q := child a0 0) rfl g3 ?_
  obtain ⟨g4, T⟩ := T
  refine R_alen (Dat dd_Law_init 19 rfl) g4 ?_
  obtain ⟨g5, T⟩ := T
  obtain ⟨g6, T⟩ := T
  refine R_ic_ge (Dat dd_Law_init 20 rfl) rfl g5 g6 (fun c => ?_) (fun c => ?_)
  · replace T := T.1 c
    refine R_iload_n (Dat dd_Law_init 21 rfl) rfl ?_
    refine R_iconst (Dat dd_Law_init 22 rfl) ?_
    refine R_iload (Dat dd_Law_init 23 rfl) rfl ?_
    refine R_imul (Dat dd_Law_init 24 rfl) ?_
    refine R_iadd (Dat dd_Law_init 25 rfl) ?_
    refine R_istore (Dat dd_Law_init 26 rfl) rfl rfl ?_
    refine R_aload_n (Dat dd_Law_init 27 rfl) rfl rfl ?_
    obtain ⟨g7, T⟩ := T
    obtain ⟨g8, T⟩ := T
    obtain ⟨g9, T⟩ := T
    refine R_getr (Dat dd_Law_init 28 rfl) rfl rfl (tok g7) g8 (q := child a0 0) rfl g9 ?_
    refine R_iload (Dat dd_Law_init 29 rfl) rfl ?_
    obtain ⟨g10, T⟩ := T
    obtain ⟨g11, T⟩ := T
    refine R_new (Dat dd_Law_init 30 rfl) (ci := 1) rfl rfl (q := a0 + 3 + (wr a4).toNat) rfl g10 (Or.inl g11) ?_
    refine R_dup (Dat dd_Law_init 31 rfl) rfl ?_
    refine R_aload_n (Dat dd_Law_init 32 rfl) rfl rfl ?_
    refine R_iload (Dat dd_Law_init 33 rfl) rfl ?_
    obtain ⟨g12, T⟩ := T
    obtain ⟨g13, T⟩ := T
    obtain ⟨g14, T⟩ := T
    obtain ⟨g15, T⟩ := T
    refine R_iaload (Dat dd_Law_init 34 rfl) g12 g13 g14 g15 ?_
    exact R_call0 (Dat dd_Law_init 35 rfl) rfl rfl rfl rfl rfl rfl T
  · replace T := T.2 c
    refine R_iconst (Dat dd_Law_init 54 rfl) ?_
    refine R_istore (Dat dd_Law_init 55 rfl) rfl rfl ?_
    exact T
theorem t_Law_init_62 {h : Hp} {P : Value → Hp → Prop} {a2 a4 a5 s0 s3 : Int} {a0 a1 s1 s2 s4 : Nat} {a3 : Value} (T : (tg h a1 = 20 ∨ tg h a1 = 30) ∧ ((ln h a1 : Int) ≤ 2147483648) ∧ (0 ≤ (a5 + 1)) ∧ ((a5 + 1) < ln h a1) ∧ (tg h a1 = 20 ∨ tg h a1 = 30) ∧ ((ln h a1 : Int) ≤ 2147483648) ∧ (0 ≤ (a5 + 2)) ∧ ((a5 + 2) < ln h a1) ∧ R 45 0 [.ref s1, .int (I s0), .int (I ((iv h a1 (a5 + 1)) - 48)), .int (I ((iv h a1 (a5 + 2)) - 48))] [] h (fun _ h2 => R 44 83 [.ref a0, .ref a1, .int (I a2), a3, .int (I a4), .int (I a5)] [.ref s2, .int (I s3), .ref s4] h2 P)) : R 44 62 [.ref a0, .ref a1, .int (I a2), a3, .int (I a4), .int (I a5)] [.int (I s0), .ref s1, .ref s2, .int (I s3), .ref s4] h P := by
  refine R_aload_n (Dat dd_Law_init 36 rfl) rfl rfl ?_
  refine R_iload (Dat dd_Law_init 37 rfl) rfl ?_
  refine R_iconst (Dat dd_Law_init 38 rfl) ?_
  refine R_iadd (Dat dd_Law_init 39 rfl) ?_
  obtain ⟨g1, T⟩ := T
  obtain ⟨g2, T⟩ := T
  obtain ⟨g3, T⟩ := T
  obtain ⟨g4, T⟩ := T
  refine R_iaload (Dat dd_Law_init 40 rfl) g1 g2 g3 g4 ?_
  refine R_bipush (Dat dd_Law_init 41 rfl) (a := 48) rfl ?_
  refine R_isub (Dat dd_Law_init 42 rfl) ?_
  refine R_aload_n (Dat dd_Law_init 43 rfl) rfl rfl ?_
  refine R_iload (Dat dd_Law_init 44 rfl) rfl ?_
  refine R_iconst (Dat dd_Law_init 45 rfl) ?_
  refine R_iadd (Dat dd_Law_init 46 rfl) ?_
  obtain ⟨g5, T⟩ := T
  obtain ⟨g6, T⟩ := T
  obtain ⟨g7, T⟩ := T
  obtain ⟨g8, T⟩ := T
  refine R_iaload (Dat dd_Law_init 47 rfl) g5 g6 g7 g8 ?_
  refine R_bipush (Dat dd_Law_init 48 rfl) (a := 48) rfl ?_
  refine R_isub (Dat dd_Law_init 49 rfl) ?_
  exact R_call2 (Dat dd_Law_init 50 rfl) rfl rfl rfl rfl rfl rfl T
theorem t_Law_init_93 {h : Hp} {P : Value → Hp → Prop} {a4 : Int} {a0 : Nat} {a1 a2 a3 a5 : Value} (T : (rng a4) ∧ ((a4 < 3 → (tg h a0 = 4) ∧ (fl h a0 1 = true) ∧ (tg h (child a0 1) ≠ 0) ∧ (tg h (a0 + 16 + 4 * (wr a4).toNat) = 0) ∧ ((a0 + 16 + 4 * (wr a4).toNat) < 500) ∧ (okg 44 46 [.ref a0, a1, a2, a3, .int (I a4), a5] [.ref (a0 + 16 + 4 * (wr a4).toNat), .int (I a4), .ref (child a0 1)] [.ref (a0 + 16 + 4 * (wr a4).toNat)] = true) ∧ R 46 0 [.ref (a0 + 16 + 4 * (wr a4).toNat)] [] (mk h (a0 + 16 + 4 * (wr a4).toNat) 6 0 3) (fun _ h2 => R 44 112 [.ref a0, a1, a2, a3, .int (I a4), a5] [.ref (a0 + 16 + 4 * (wr a4).toNat), .int (I a4), .ref (child a0 1)] h2 P)) ∧ (¬ a4 < 3 → P .null h))) : R 44 93 [.ref a0, a1, a2, a3, .int (I a4), a5] [] h P := by
  refine R_iload (Dat dd_Law_init 56 rfl) rfl ?_
  refine R_iconst (Dat dd_Law_init 57 rfl) ?_
  obtain ⟨g1, T⟩ := T
  refine R_ic_ge (Dat dd_Law_init 58 rfl) rfl g1 (by decide) (fun c => ?_) (fun c => ?_)
  · replace T := T.1 c
    refine R_aload_n (Dat dd_Law_init 59 rfl) rfl rfl ?_
    obtain ⟨g2, T⟩ := T
    obtain ⟨g3, T⟩ := T
    obtain ⟨g4, T⟩ := T
    refine R_getr (Dat dd_Law_init 60 rfl) rfl rfl (tok g2) g3 (q := child a0 1) rfl g4 ?_
    refine R_iload (Dat dd_Law_init 61 rfl) rfl ?_
    obtain ⟨g5, T⟩ := T
    obtain ⟨g6, T⟩ := T
    refine R_new (Dat dd_Law_init 62 rfl) (ci := 5) rfl rfl (q := a0 + 16 + 4 * (wr a4).toNat) rfl g5 (Or.inl g6) ?_
    refine R_dup (Dat dd_Law_init 63 rfl) rfl ?_
    obtain ⟨g7, T⟩ := T
    exact R_call4 (Dat dd_Law_init 64 rfl) rfl rfl rfl rfl g7 rfl T
  · replace T := T.2 c
    exact R_return (Dat dd_Law_init 68 rfl) rfl T
theorem t_Law_init_83 {h : Hp} {P : Value → Hp → Prop} {a2 a4 s1 : Int} {a0 a1 s0 s2 : Nat} {a3 a5 : Value} (T : (elok (tg h s2) (tg h s0) = true) ∧ ((ln h s2 : Int) ≤ 2147483648) ∧ (0 ≤ s1) ∧ (s1 < ln h s2) ∧ (child s2 (s1).toNat = s0) ∧ R 44 27 [.ref a0, .ref a1, .int (I a2), a3, .int (I (a4 + 1)), a5] [] (setF h s2 (s1).toNat) P) : R 44 83 [.ref a0, .ref a1, .int (I a2), a3, .int (I a4), a5] [.ref s0, .int (I s1), .ref s2] h P := by
  obtain ⟨g1, T⟩ := T
  obtain ⟨g2, T⟩ := T
  obtain ⟨g3, T⟩ := T
  obtain ⟨g4, T⟩ := T
  obtain ⟨g5, T⟩ := T
  refine R_aastore (Dat dd_Law_init 51 rfl) g1 g2 g3 g4 g5 ?_
  refine R_iinc (Dat dd_Law_init 52 rfl) rfl rfl rfl ?_
  refine R_goto (Dat dd_Law_init 53 rfl) rfl ?_
  exact T
theorem t_Law_init_112 {h : Hp} {P : Value → Hp → Prop} {a4 s1 : Int} {a0 s0 s2 : Nat} {a1 a2 a3 a5 : Value} (T : (elok (tg h s2) (tg h s0) = true) ∧ ((ln h s2 : Int) ≤ 2147483648) ∧ (0 ≤ s1) ∧ (s1 < ln h s2) ∧ (child s2 (s1).toNat = s0) ∧ R 44 93 [.ref a0, a1, a2, a3, .int (I (a4 + 1)), a5] [] (setF h s2 (s1).toNat) P) : R 44 112 [.ref a0, a1, a2, a3, .int (I a4), a5] [.ref s0, .int (I s1), .ref s2] h P := by
  obtain ⟨g1, T⟩ := T
  obtain ⟨g2, T⟩ := T
  obtain ⟨g3, T⟩ := T
  obtain ⟨g4, T⟩ := T
  obtain ⟨g5, T⟩ := T
  refine R_aastore (Dat dd_Law_init 65 rfl) g1 g2 g3 g4 g5 ?_
  refine R_iinc (Dat dd_Law_init 66 rfl) rfl rfl rfl ?_
  refine R_goto (Dat dd_Law_init 67 rfl) rfl ?_
  exact T
def dl_Cause_init : List (Nat × Instr × Nat) := [(0, .aload_n 0, 1), (1, .invokespecial 3, 3), (4, .aload_n 0, 1), (5, .iload_n 1, 1), (6, .putfield 9, 3), (9, .aload_n 0, 1), (10, .iload_n 2, 1), (11, .putfield 15, 3), (14, .aload_n 0, 1), (15, .iload_n 3, 1), (16, .putfield 18, 3), (19, .return_, 1)]
theorem dd_Cause_init : Dall 45 dl_Cause_init = true := by decide +kernel
theorem t_Cause_init {h : Hp} {P : Value → Hp → Prop} {p0 p1 p2 : Int} {r : Nat} (T : (tg h r = 2) ∧ (tg (setI h r 0 (wr p0)) r = 2) ∧ (tg (setI (setI h r 0 (wr p0)) r 1 (wr p1)) r = 2) ∧ P .null (setI (setI (setI h r 0 (wr p0)) r 1 (wr p1)) r 2 (wr p2))) : R 45 0 [.ref r, .int (I p0), .int (I p1), .int (I p2)] [] h P := by
  refine R_aload_n (Dat dd_Cause_init 0 rfl) rfl rfl ?_
  refine R_call8 (Dat dd_Cause_init 1 rfl) rfl rfl ?_
  refine R_aload_n (Dat dd_Cause_init 2 rfl) rfl rfl ?_
  refine R_iload_n (Dat dd_Cause_init 3 rfl) rfl ?_
  obtain ⟨g1, T⟩ := T
  refine R_puti (Dat dd_Cause_init 4 rfl) rfl rfl rfl (tok g1) rfl (v := wr p0) rfl ?_
  refine R_aload_n (Dat dd_Cause_init 5 rfl) rfl rfl ?_
  refine R_iload_n (Dat dd_Cause_init 6 rfl) rfl ?_
  obtain ⟨g2, T⟩ := T
  refine R_puti (Dat dd_Cause_init 7 rfl) rfl rfl rfl (tok g2) rfl (v := wr p1) rfl ?_
  refine R_aload_n (Dat dd_Cause_init 8 rfl) rfl rfl ?_
  refine R_iload_n (Dat dd_Cause_init 9 rfl) rfl ?_
  obtain ⟨g3, T⟩ := T
  refine R_puti (Dat dd_Cause_init 10 rfl) rfl rfl rfl (tok g3) rfl (v := wr p2) rfl ?_
  exact R_return (Dat dd_Cause_init 11 rfl) rfl T
def dl_Motion_init : List (Nat × Instr × Nat) := [(0, .aload_n 0, 1), (1, .invokespecial 1, 3), (4, .aload_n 0, 1), (5, .new 7, 3), (8, .dup, 1), (9, .invokespecial 9, 3), (12, .putfield 10, 3), (15, .aload_n 0, 1), (16, .iconst 0, 1), (17, .newarray .int, 2), (19, .putfield 16, 3), (22, .return_, 1)]
theorem dd_Motion_init : Dall 46 dl_Motion_init = true := by decide +kernel
theorem t_Motion_init {h : Hp} {P : Value → Hp → Prop} {r : Nat} (T : (tg h (r + 1) = 0) ∧ ((r + 1) < 500) ∧ (okg 46 4 [.ref r] [.ref (r + 1), .ref r] [.ref (r + 1)] = true) ∧ R 4 0 [.ref (r + 1)] [] (mk h (r + 1) 8 0 2) (fun _ h2 => R 46 12 [.ref r] [.ref (r + 1), .ref r] h2 P)) : R 46 0 [.ref r] [] h P := by
  refine R_aload_n (Dat dd_Motion_init 0 rfl) rfl rfl ?_
  refine R_call8 (Dat dd_Motion_init 1 rfl) rfl rfl ?_
  refine R_aload_n (Dat dd_Motion_init 2 rfl) rfl rfl ?_
  obtain ⟨g1, T⟩ := T
  obtain ⟨g2, T⟩ := T
  refine R_new (Dat dd_Motion_init 3 rfl) (ci := 7) rfl rfl (q := r + 1) rfl g1 (Or.inl g2) ?_
  refine R_dup (Dat dd_Motion_init 4 rfl) rfl ?_
  obtain ⟨g3, T⟩ := T
  exact R_call4 (Dat dd_Motion_init 5 rfl) rfl rfl rfl rfl g3 rfl T
theorem t_Motion_init_12 {h : Hp} {P : Value → Hp → Prop} {a0 s0 s1 : Nat} (T : (tg h s1 = 6) ∧ (s0 = (child s1 0) ∨ s0 = 38) ∧ ((s0 = (child s1 0) → (tg (setF h s1 0) (a0 + 3) = 0) ∧ ((a0 + 3) < 500) ∧ (tg (mk (setF h s1 0) (a0 + 3) 20 (0 : Int).toNat (0 : Int).toNat) a0 = 6) ∧ (child a0 1 = (a0 + 3)) ∧ P .null (setF (mk (setF h s1 0) (a0 + 3) 20 (0 : Int).toNat (0 : Int).toNat) a0 1)) ∧ (s0 = 38 → (mv 46 && gw (child s1 0) && !gw s1 && decide ((child s1 0) < 37 ∨ 38 < (child s1 0)) && tg h 38 == 20 && ng [.ref a0] && ng []) = true ∧ (child s1 0) ≠ 38 ∧ (tg (mov h s1 0 (child s1 0) 38) (a0 + 3) = 0) ∧ ((a0 + 3) < 500) ∧ (tg (mk (mov h s1 0 (child s1 0) 38) (a0 + 3) 20 (0 : Int).toNat (0 : Int).toNat) a0 = 6) ∧ (child a0 1 = (a0 + 3)) ∧ P .null (setF (mk (mov h s1 0 (child s1 0) 38) (a0 + 3) 20 (0 : Int).toNat (0 : Int).toNat) a0 1)))) : R 46 12 [.ref a0] [.ref s0, .ref s1] h P := by
  obtain ⟨g1, T⟩ := T
  obtain ⟨g2, T⟩ := T
  rcases g2 with e | e
  · replace T := T.1 e
    subst e
    refine R_putr (Dat dd_Motion_init 6 rfl) rfl rfl rfl (tok g1) rfl ?_
    refine R_aload_n (Dat dd_Motion_init 7 rfl) rfl rfl ?_
    refine R_iconst (Dat dd_Motion_init 8 rfl) ?_
    obtain ⟨g3, T⟩ := T
    obtain ⟨g4, T⟩ := T
    refine R_newa (Dat dd_Motion_init 9 rfl) rfl (q := a0 + 3) rfl g3 (Or.inl g4) (by decide) (by decide) ?_
    obtain ⟨g5, T⟩ := T
    obtain ⟨g6, T⟩ := T
    refine R_putr (Dat dd_Motion_init 10 rfl) rfl rfl rfl (tok g5) g6 ?_
    exact R_return (Dat dd_Motion_init 11 rfl) rfl T
  · replace T := T.2 e
    subst e
    obtain ⟨g7, g8, T⟩ := T
    refine R_putm (Dat dd_Motion_init 6 rfl) rfl rfl rfl (tok g1) (q := child s1 0) rfl g8 g7 ?_
    refine R_aload_n (Dat dd_Motion_init 7 rfl) rfl rfl ?_
    refine R_iconst (Dat dd_Motion_init 8 rfl) ?_
    obtain ⟨g9, T⟩ := T
    obtain ⟨g10, T⟩ := T
    refine R_newa (Dat dd_Motion_init 9 rfl) rfl (q := a0 + 3) rfl g9 (Or.inl g10) (by decide) (by decide) ?_
    obtain ⟨g11, T⟩ := T
    obtain ⟨g12, T⟩ := T
    refine R_putr (Dat dd_Motion_init 10 rfl) rfl rfl rfl (tok g11) g12 ?_
    exact R_return (Dat dd_Motion_init 11 rfl) rfl T
def dl_Law_ruling : List (Nat × Instr × Nat) := [(0, .iconst 0, 1), (1, .istore 6, 2), (3, .iload 6, 2), (5, .aload_n 0, 1), (6, .getfield 19, 3), (9, .arraylength, 1), (10, .if_icmp .ge 50, 3), (13, .iload 6, 2), (15, .iload 5, 2), (17, .if_icmp .eq 37, 3), (20, .aload_n 0, 1), (21, .getfield 19, 3), (24, .iload 6, 2), (26, .aaload, 1), (27, .getfield 35, 3), (30, .iload 4, 2), (32, .if_icmp .gt 22, 3), (35, .aload_n 0, 1), (36, .getfield 19, 3), (39, .iload 6, 2), (41, .aaload, 1), (42, .aload_n 1, 1), (43, .aload_n 2, 1), (44, .iload_n 3, 1), (45, .invokevirtual 39, 3), (48, .ifCond .eq 6, 3), (51, .iload 6, 2), (53, .ireturn, 1), (54, .iinc 6 1, 3), (57, .goto (-54), 3), (60, .bipush (-9), 2), (62, .ireturn, 1)]
theorem dd_Law_ruling : Dall 51 dl_Law_ruling = true := by decide +kernel
theorem t_Law_ruling {h : Hp} {P : Value → Hp → Prop} {p2 p3 p4 : Int} {r p0 p1 : Nat} (T : R 51 3 [.ref r, .ref p0, .ref p1, .int (I p2), .int (I p3), .int (I p4), .int (I 0)] [] h P) : R 51 0 [.ref r, .ref p0, .ref p1, .int (I p2), .int (I p3), .int (I p4), .retAddr 0] [] h P := by
  refine R_iconst (Dat dd_Law_ruling 0 rfl) ?_
  refine R_istore (Dat dd_Law_ruling 1 rfl) rfl rfl ?_
  exact T
theorem t_Law_ruling_3 {h : Hp} {P : Value → Hp → Prop} {a3 a4 a5 a6 : Int} {a0 a1 a2 : Nat} (T : (tg h a0 = 4) ∧ (fl h a0 0 = true) ∧ (tg h (child a0 0) ≠ 0) ∧ ((20 ≤ tg h (child a0 0) ∧ tg h (child a0 0) ≤ 25) ∨ tg h (child a0 0) = 30) ∧ (rng a6) ∧ (rng (ln h (child a0 0) : Int)) ∧ ((a6 < (ln h (child a0 0) : Int) → (rng a6) ∧ (rng a5) ∧ ((a6 = a5 → R 51 3 [.ref a0, .ref a1, .ref a2, .int (I a3), .int (I a4), .int (I a5), .int (I (a6 + 1))] [] h P) ∧ (¬ a6 = a5 → (tg h a0 = 4) ∧ (fl h a0 0 = true) ∧ (tg h (child a0 0) ≠ 0) ∧ (21 ≤ tg h (child a0 0) ∧ tg h (child a0 0) ≤ 25) ∧ ((ln h (child a0 0) : Int) ≤ 2147483648) ∧ (0 ≤ a6) ∧ (a6 < ln h (child a0 0)) ∧ (fl h (child a0 0) (a6).toNat = true) ∧ (tg h (child (child a0 0) (a6).toNat) ≠ 0) ∧ (tg h (child (child a0 0) (a6).toNat) = 2) ∧ (rng (iv h (child (child a0 0) (a6).toNat) 2)) ∧ (rng a4) ∧ ((a4 < (iv h (child (child a0 0) (a6).toNat) 2) → R 51 3 [.ref a0, .ref a1, .ref a2, .int (I a3), .int (I a4), .int (I a5), .int (I (a6 + 1))] [] h P) ∧ (¬ a4 < (iv h (child (child a0 0) (a6).toNat) 2) → (tg h a0 = 4) ∧ (fl h a0 0 = true) ∧ (tg h (child a0 0) ≠ 0) ∧ (21 ≤ tg h (child a0 0) ∧ tg h (child a0 0) ≤ 25) ∧ ((ln h (child a0 0) : Int) ≤ 2147483648) ∧ (0 ≤ a6) ∧ (a6 < ln h (child a0 0)) ∧ (fl h (child a0 0) (a6).toNat = true) ∧ (tg h (child (child a0 0) (a6).toNat) ≠ 0) ∧ (tg h (child (child a0 0) (a6).toNat) = 2) ∧ R 52 0 [.ref (child (child a0 0) (a6).toNat), .ref a1, .ref a2, .int (I a3)] [] h (fun v h2 => R 51 48 [.ref a0, .ref a1, .ref a2, .int (I a3), .int (I a4), .int (I a5), .int (I a6)] (v :: []) h2 P)))))) ∧ (¬ a6 < (ln h (child a0 0) : Int) → P (.int (I (-9))) h))) : R 51 3 [.ref a0, .ref a1, .ref a2, .int (I a3), .int (I a4), .int (I a5), .int (I a6)] [] h P := by
  refine R_iload (Dat dd_Law_ruling 2 rfl) rfl ?_
  refine R_aload_n (Dat dd_Law_ruling 3 rfl) rfl rfl ?_
  obtain ⟨g1, T⟩ := T
  obtain ⟨g2, T⟩ := T
  obtain ⟨g3, T⟩ := T
  refine R_getr (Dat dd_Law_ruling 4 rfl) rfl rfl (tok g1) g2 (q := child a0 0) rfl g3 ?_
  obtain ⟨g4, T⟩ := T
  refine R_alen (Dat dd_Law_ruling 5 rfl) g4 ?_
  obtain ⟨g5, T⟩ := T
  obtain ⟨g6, T⟩ := T
  refine R_ic_ge (Dat dd_Law_ruling 6 rfl) rfl g5 g6 (fun c => ?_) (fun c => ?_)
  · replace T := T.1 c
    refine R_iload (Dat dd_Law_ruling 7 rfl) rfl ?_
    refine R_iload (Dat dd_Law_ruling 8 rfl) rfl ?_
    obtain ⟨g7, T⟩ := T
    obtain ⟨g8, T⟩ := T
    refine R_ic_eq (Dat dd_Law_ruling 9 rfl) rfl g7 g8 (fun c => ?_) (fun c => ?_)
    · replace T := T.1 c
      refine R_iinc (Dat dd_Law_ruling 28 rfl) rfl rfl rfl ?_
      refine R_goto (Dat dd_Law_ruling 29 rfl) rfl ?_
      exact T
    · replace T := T.2 c
      refine R_aload_n (Dat dd_Law_ruling 10 rfl) rfl rfl ?_
      obtain ⟨g9, T⟩ := T
      obtain ⟨g10, T⟩ := T
      obtain ⟨g11, T⟩ := T
      refine R_getr (Dat dd_Law_ruling 11 rfl) rfl rfl (tok g9) g10 (q := child a0 0) rfl g11 ?_
      refine R_iload (Dat dd_Law_ruling 12 rfl) rfl ?_
      obtain ⟨g12, T⟩ := T
      obtain ⟨g13, T⟩ := T
      obtain ⟨g14, T⟩ := T
      obtain ⟨g15, T⟩ := T
      obtain ⟨g16, T⟩ := T
      obtain ⟨g17, T⟩ := T
      refine R_aaload (Dat dd_Law_ruling 13 rfl) g12 g13 g14 g15 g16 rfl g17 ?_
      obtain ⟨g18, T⟩ := T
      refine R_geti (Dat dd_Law_ruling 14 rfl) rfl rfl (tok g18) ?_
      refine R_iload (Dat dd_Law_ruling 15 rfl) rfl ?_
      obtain ⟨g19, T⟩ := T
      obtain ⟨g20, T⟩ := T
      refine R_ic_gt (Dat dd_Law_ruling 16 rfl) rfl g19 g20 (fun c => ?_) (fun c => ?_)
      · replace T := T.1 c
        refine R_iinc (Dat dd_Law_ruling 28 rfl) rfl rfl rfl ?_
        refine R_goto (Dat dd_Law_ruling 29 rfl) rfl ?_
        exact T
      · replace T := T.2 c
        refine R_aload_n (Dat dd_Law_ruling 17 rfl) rfl rfl ?_
        obtain ⟨g21, T⟩ := T
        obtain ⟨g22, T⟩ := T
        obtain ⟨g23, T⟩ := T
        refine R_getr (Dat dd_Law_ruling 18 rfl) rfl rfl (tok g21) g22 (q := child a0 0) rfl g23 ?_
        refine R_iload (Dat dd_Law_ruling 19 rfl) rfl ?_
        obtain ⟨g24, T⟩ := T
        obtain ⟨g25, T⟩ := T
        obtain ⟨g26, T⟩ := T
        obtain ⟨g27, T⟩ := T
        obtain ⟨g28, T⟩ := T
        obtain ⟨g29, T⟩ := T
        refine R_aaload (Dat dd_Law_ruling 20 rfl) g24 g25 g26 g27 g28 rfl g29 ?_
        refine R_aload_n (Dat dd_Law_ruling 21 rfl) rfl rfl ?_
        refine R_aload_n (Dat dd_Law_ruling 22 rfl) rfl rfl ?_
        refine R_iload_n (Dat dd_Law_ruling 23 rfl) rfl ?_
        obtain ⟨g30, T⟩ := T
        exact R_call1 (Dat dd_Law_ruling 24 rfl) rfl g30 rfl rfl rfl rfl rfl T
  · replace T := T.2 c
    refine R_bipush (Dat dd_Law_ruling 30 rfl) (a := (-9)) rfl ?_
    exact R_ireturn (Dat dd_Law_ruling 31 rfl) rfl T
theorem t_Law_ruling_48 {h : Hp} {P : Value → Hp → Prop} {a3 a4 a5 a6 s0 : Int} {a0 a1 a2 : Nat} (T : (rng s0) ∧ ((s0 = 0 → R 51 3 [.ref a0, .ref a1, .ref a2, .int (I a3), .int (I a4), .int (I a5), .int (I (a6 + 1))] [] h P) ∧ (¬ s0 = 0 → P (.int (I a6)) h))) : R 51 48 [.ref a0, .ref a1, .ref a2, .int (I a3), .int (I a4), .int (I a5), .int (I a6)] [.int (I s0)] h P := by
  obtain ⟨g1, T⟩ := T
  refine R_if_eq (Dat dd_Law_ruling 25 rfl) rfl g1  (fun c => ?_) (fun c => ?_)
  · replace T := T.1 c
    refine R_iinc (Dat dd_Law_ruling 28 rfl) rfl rfl rfl ?_
    refine R_goto (Dat dd_Law_ruling 29 rfl) rfl ?_
    exact T
  · replace T := T.2 c
    refine R_iload (Dat dd_Law_ruling 26 rfl) rfl ?_
    exact R_ireturn (Dat dd_Law_ruling 27 rfl) rfl T
def dl_Cause_isSo : List (Nat × Instr × Nat) := [(0, .aload_n 0, 1), (1, .getfield 9, 3), (4, .tableswitch 172 0 4 #[36, 58, 91, 130, 158], 36), (40, .aload_n 1, 1), (41, .getfield 25, 3), (44, .aload_n 2, 1), (45, .getfield 25, 3), (48, .isub, 1), (49, .aload_n 0, 1), (50, .getfield 15, 3), (53, .if_icmp .lt 7, 3), (56, .iconst 1, 1), (57, .goto 4, 3), (60, .iconst 0, 1), (61, .ireturn, 1), (62, .aload_n 2, 1), (63, .getfield 30, 3), (66, .aload_n 1, 1), (67, .getfield 30, 3), (70, .isub, 1), (71, .aload_n 0, 1), (72, .getfield 15, 3), (75, .if_icmp .lt 18, 3), (78, .aload_n 2, 1), (79, .getfield 30, 3), (82, .aload_n 1, 1), (83, .getfield 30, 3), (86, .if_icmp .le 7, 3), (89, .iconst 1, 1), (90, .goto 4, 3), (93, .iconst 0, 1), (94, .ireturn, 1), (95, .aload_n 1, 1), (96, .getfield 25, 3), (99, .aload_n 0, 1), (100, .getfield 15, 3), (103, .if_icmp .lt 29, 3), (106, .aload_n 1, 1), (107, .getfield 30, 3), (110, .aload_n 2, 1), (111, .getfield 30, 3), (114, .if_icmp .lt 18, 3), (117, .aload_n 1, 1), (118, .getfield 25, 3), (121, .aload_n 2, 1), (122, .getfield 25, 3), (125, .if_icmp .le 7, 3), (128, .iconst 1, 1), (129, .goto 4, 3), (132, .iconst 0, 1), (133, .ireturn, 1), (134, .aload_n 1, 1), (135, .getfield 33, 3), (138, .ifCond .le 22, 3), (141, .aload_n 2, 1), (142, .getfield 33, 3), (145, .ifCond .ne 15, 3), (148, .iload_n 3, 1), (149, .aload_n 0, 1), (150, .getfield 15, 3), (153, .if_icmp .ge 7, 3), (156, .iconst 1, 1), (157, .goto 4, 3), (160, .iconst 0, 1), (161, .ireturn, 1), (162, .iload_n 3, 1), (163, .aload_n 0, 1), (164, .getfield 15, 3), (167, .if_icmp .lt 7, 3), (170, .iconst 1, 1), (171, .goto 4, 3), (174, .iconst 0, 1), (175, .ireturn, 1), (176, .aload_n 1, 1), (177, .getfield 30, 3), (180, .aload_n 2, 1), (181, .getfield 30, 3), (184, .isub, 1), (185, .aload_n 0, 1), (186, .getfield 15, 3), (189, .if_icmp .ge 23, 3), (192, .aload_n 2, 1), (193, .getfield 30, 3), (196, .aload_n 1, 1), (197, .getfield 30, 3), (200, .isub, 1), (201, .aload_n 0, 1), (202, .getfield 15, 3), (205, .if_icmp .ge 7, 3), (208, .iconst 1, 1), (209, .goto 4, 3), (212, .iconst 0, 1), (213, .ireturn, 1)]
theorem dd_Cause_isSo : Dall 52 dl_Cause_isSo = true := by decide +kernel
theorem t_Cause_isSo {h : Hp} {P : Value → Hp → Prop} {p2 : Int} {r p0 p1 : Nat} (T : (tg h r = 2) ∧ (rng (iv h r 0)) ∧ ((((iv h r 0) = 0 → (tagok 2 (tg h p0) = true) ∧ (tagok 2 (tg h p1) = true) ∧ (tg h r = 2) ∧ (rng ((iv h p0 4) - (iv h p1 4))) ∧ (rng (iv h r 1)) ∧ ((((iv h p0 4) - (iv h p1 4)) < (iv h r 1) → P (.int (I 0)) h) ∧ (¬ ((iv h p0 4) - (iv h p1 4)) < (iv h r 1) → P (.int (I 1)) h))) ∧ ((iv h r 0) = 1 → (tagok 2 (tg h p1) = true) ∧ (tagok 2 (tg h p0) = true) ∧ (tg h r = 2) ∧ (rng ((iv h p1 5) - (iv h p0 5))) ∧ (rng (iv h r 1)) ∧ ((((iv h p1 5) - (iv h p0 5)) < (iv h r 1) → P (.int (I 0)) h) ∧ (¬ ((iv h p1 5) - (iv h p0 5)) < (iv h r 1) → (tagok 2 (tg h p1) = true) ∧ (tagok 2 (tg h p0) = true) ∧ (rng (iv h p1 5)) ∧ (rng (iv h p0 5)) ∧ (((iv h p0 5) < (iv h p1 5) → P (.int (I 1)) h) ∧ (¬ (iv h p0 5) < (iv h p1 5) → P (.int (I 0)) h))))) ∧ ((iv h r 0) = 2 → (tagok 2 (tg h p0) = true) ∧ (tg h r = 2) ∧ (rng (iv h p0 4)) ∧ (rng (iv h r 1)) ∧ (((iv h p0 4) < (iv h r 1) → P (.int (I 0)) h) ∧ (¬ (iv h p0 4) < (iv h r 1) → (tagok 2 (tg h p0) = true) ∧ (tagok 2 (tg h p1) = true) ∧ (rng (iv h p0 5)) ∧ (rng (iv h p1 5)) ∧ (((iv h p0 5) < (iv h p1 5) → P (.int (I 0)) h) ∧ (¬ (iv h p0 5) < (iv h p1 5) → (tagok 2 (tg h p0) = true) ∧ (tagok 2 (tg h p1) = true) ∧ (rng (iv h p0 4)) ∧ (rng (iv h p1 4)) ∧ (((iv h p1 4) < (iv h p0 4) → P (.int (I 1)) h) ∧ (¬ (iv h p1 4) < (iv h p0 4) → P (.int (I 0)) h))))))) ∧ ((iv h r 0) = 3 → (tagok 2 (tg h p0) = true) ∧ (rng (iv h p0 1)) ∧ (((0 : Int) < (iv h p0 1) → (tagok 2 (tg h p1) = true) ∧ (rng (iv h p1 1)) ∧ (((iv h p1 1) = 0 → (tg h r = 2) ∧ (rng p2) ∧ (rng (iv h r 1)) ∧ ((p2 < (iv h r 1) → P (.int (I 1)) h) ∧ (¬ p2 < (iv h r 1) → P (.int (I 0)) h))) ∧ (¬ (iv h p1 1) = 0 → P (.int (I 0)) h))) ∧ (¬ (0 : Int) < (iv h p0 1) → P (.int (I 0)) h))) ∧ ((iv h r 0) = 4 → (tg h r = 2) ∧ (rng p2) ∧ (rng (iv h r 1)) ∧ ((p2 < (iv h r 1) → P (.int (I 0)) h) ∧ (¬ p2 < (iv h r 1) → P (.int (I 1)) h)))) ∧ ((iv h r 0) < 0 ∨ 4 < (iv h r 0) → (tagok 2 (tg h p0) = true) ∧ (tagok 2 (tg h p1) = true) ∧ (tg h r = 2) ∧ (rng ((iv h p0 5) - (iv h p1 5))) ∧ (rng (iv h r 1)) ∧ ((((iv h p0 5) - (iv h p1 5)) < (iv h r 1) → (tagok 2 (tg h p1) = true) ∧ (tagok 2 (tg h p0) = true) ∧ (tg h r = 2) ∧ (rng ((iv h p1 5) - (iv h p0 5))) ∧ (rng (iv h r 1)) ∧ ((((iv h p1 5) - (iv h p0 5)) < (iv h r 1) → P (.int (I 1)) h) ∧ (¬ ((iv h p1 5) - (iv h p0 5)) < (iv h r 1) → P (.int (I 0)) h))) ∧ (¬ ((iv h p0 5) - (iv h p1 5)) < (iv h r 1) → P (.int (I 0)) h))))) : R 52 0 [.ref r, .ref p0, .ref p1, .int (I p2)] [] h P := by
  refine R_aload_n (Dat dd_Cause_isSo 0 rfl) rfl rfl ?_
  obtain ⟨g1, T⟩ := T
  refine R_geti (Dat dd_Cause_isSo 1 rfl) rfl rfl (tok g1) ?_
  obtain ⟨g2, T⟩ := T
  refine R_tsw (lo := 0) (hi := 4) (Dat dd_Cause_isSo 2 rfl) (td := 176) (ts := [40, 62, 95, 134, 162]) g2 rfl rfl rfl rfl (fun i hi hc => ?_) (fun c => ?_)
  · obtain ⟨T, -⟩ := T
    have hi : i < 5 := hi
    rcases (show i = 0 ∨ i = 1 ∨ i = 2 ∨ i = 3 ∨ i = 4 by omega) with rfl | rfl | rfl | rfl | rfl
    · replace T := T.1 (by exact hc)
      refine R_aload_n (Dat dd_Cause_isSo 3 rfl) rfl rfl ?_
      obtain ⟨g3, T⟩ := T
      refine R_geti (Dat dd_Cause_isSo 4 rfl) rfl rfl g3 ?_
      refine R_aload_n (Dat dd_Cause_isSo 5 rfl) rfl rfl ?_
      obtain ⟨g4, T⟩ := T
      refine R_geti (Dat dd_Cause_isSo 6 rfl) rfl rfl g4 ?_
      refine R_isub (Dat dd_Cause_isSo 7 rfl) ?_
      refine R_aload_n (Dat dd_Cause_isSo 8 rfl) rfl rfl ?_
      obtain ⟨g5, T⟩ := T
      refine R_geti (Dat dd_Cause_isSo 9 rfl) rfl rfl (tok g5) ?_
      obtain ⟨g6, T⟩ := T
      obtain ⟨g7, T⟩ := T
      refine R_ic_lt (Dat dd_Cause_isSo 10 rfl) rfl g6 g7 (fun c => ?_) (fun c => ?_)
      · replace T := T.1 c
        refine R_iconst (Dat dd_Cause_isSo 13 rfl) ?_
        exact R_ireturn (Dat dd_Cause_isSo 14 rfl) rfl T
      · replace T := T.2 c
        refine R_iconst (Dat dd_Cause_isSo 11 rfl) ?_
        refine R_goto (Dat dd_Cause_isSo 12 rfl) rfl ?_
        exact R_ireturn (Dat dd_Cause_isSo 14 rfl) rfl T
    · replace T := T.2.1 (by exact hc)
      refine R_aload_n (Dat dd_Cause_isSo 15 rfl) rfl rfl ?_
      obtain ⟨g8, T⟩ := T
      refine R_geti (Dat dd_Cause_isSo 16 rfl) rfl rfl g8 ?_
      refine R_aload_n (Dat dd_Cause_isSo 17 rfl) rfl rfl ?_
      obtain ⟨g9, T⟩ := T
      refine R_geti (Dat dd_Cause_isSo 18 rfl) rfl rfl g9 ?_
      refine R_isub (Dat dd_Cause_isSo 19 rfl) ?_
      refine R_aload_n (Dat dd_Cause_isSo 20 rfl) rfl rfl ?_
      obtain ⟨g10, T⟩ := T
      refine R_geti (Dat dd_Cause_isSo 21 rfl) rfl rfl (tok g10) ?_
      obtain ⟨g11, T⟩ := T
      obtain ⟨g12, T⟩ := T
      refine R_ic_lt (Dat dd_Cause_isSo 22 rfl) rfl g11 g12 (fun c => ?_) (fun c => ?_)
      · replace T := T.1 c
        refine R_iconst (Dat dd_Cause_isSo 30 rfl) ?_
        exact R_ireturn (Dat dd_Cause_isSo 31 rfl) rfl T
      · replace T := T.2 c
        refine R_aload_n (Dat dd_Cause_isSo 23 rfl) rfl rfl ?_
        obtain ⟨g13, T⟩ := T
        refine R_geti (Dat dd_Cause_isSo 24 rfl) rfl rfl g13 ?_
        refine R_aload_n (Dat dd_Cause_isSo 25 rfl) rfl rfl ?_
        obtain ⟨g14, T⟩ := T
        refine R_geti (Dat dd_Cause_isSo 26 rfl) rfl rfl g14 ?_
        obtain ⟨g15, T⟩ := T
        obtain ⟨g16, T⟩ := T
        refine R_ic_le (Dat dd_Cause_isSo 27 rfl) rfl g15 g16 (fun c => ?_) (fun c => ?_)
        · replace T := T.1 c
          refine R_iconst (Dat dd_Cause_isSo 28 rfl) ?_
          refine R_goto (Dat dd_Cause_isSo 29 rfl) rfl ?_
          exact R_ireturn (Dat dd_Cause_isSo 31 rfl) rfl T
        · replace T := T.2 c
          refine R_iconst (Dat dd_Cause_isSo 30 rfl) ?_
          exact R_ireturn (Dat dd_Cause_isSo 31 rfl) rfl T
    · replace T := T.2.2.1 (by exact hc)
      refine R_aload_n (Dat dd_Cause_isSo 32 rfl) rfl rfl ?_
      obtain ⟨g17, T⟩ := T
      refine R_geti (Dat dd_Cause_isSo 33 rfl) rfl rfl g17 ?_
      refine R_aload_n (Dat dd_Cause_isSo 34 rfl) rfl rfl ?_
      obtain ⟨g18, T⟩ := T
      refine R_geti (Dat dd_Cause_isSo 35 rfl) rfl rfl (tok g18) ?_
      obtain ⟨g19, T⟩ := T
      obtain ⟨g20, T⟩ := T
      refine R_ic_lt (Dat dd_Cause_isSo 36 rfl) rfl g19 g20 (fun c => ?_) (fun c => ?_)
      · replace T := T.1 c
        refine R_iconst (Dat dd_Cause_isSo 49 rfl) ?_
        exact R_ireturn (Dat dd_Cause_isSo 50 rfl) rfl T
      · replace T := T.2 c
        refine R_aload_n (Dat dd_Cause_isSo 37 rfl) rfl rfl ?_
        obtain ⟨g21, T⟩ := T
        refine R_geti (Dat dd_Cause_isSo 38 rfl) rfl rfl g21 ?_
        refine R_aload_n (Dat dd_Cause_isSo 39 rfl) rfl rfl ?_
        obtain ⟨g22, T⟩ := T
        refine R_geti (Dat dd_Cause_isSo 40 rfl) rfl rfl g22 ?_
        obtain ⟨g23, T⟩ := T
        obtain ⟨g24, T⟩ := T
        refine R_ic_lt (Dat dd_Cause_isSo 41 rfl) rfl g23 g24 (fun c => ?_) (fun c => ?_)
        · replace T := T.1 c
          refine R_iconst (Dat dd_Cause_isSo 49 rfl) ?_
          exact R_ireturn (Dat dd_Cause_isSo 50 rfl) rfl T
        · replace T := T.2 c
          refine R_aload_n (Dat dd_Cause_isSo 42 rfl) rfl rfl ?_
          obtain ⟨g25, T⟩ := T
          refine R_geti (Dat dd_Cause_isSo 43 rfl) rfl rfl g25 ?_
          refine R_aload_n (Dat dd_Cause_isSo 44 rfl) rfl rfl ?_
          obtain ⟨g26, T⟩ := T
          refine R_geti (Dat dd_Cause_isSo 45 rfl) rfl rfl g26 ?_
          obtain ⟨g27, T⟩ := T
          obtain ⟨g28, T⟩ := T
          refine R_ic_le (Dat dd_Cause_isSo 46 rfl) rfl g27 g28 (fun c => ?_) (fun c => ?_)
          · replace T := T.1 c
            refine R_iconst (Dat dd_Cause_isSo 47 rfl) ?_
            refine R_goto (Dat dd_Cause_isSo 48 rfl) rfl ?_
            exact R_ireturn (Dat dd_Cause_isSo 50 rfl) rfl T
          · replace T := T.2 c
            refine R_iconst (Dat dd_Cause_isSo 49 rfl) ?_
            exact R_ireturn (Dat dd_Cause_isSo 50 rfl) rfl T
    · replace T := T.2.2.2.1 (by exact hc)
      refine R_aload_n (Dat dd_Cause_isSo 51 rfl) rfl rfl ?_
      obtain ⟨g29, T⟩ := T
      refine R_geti (Dat dd_Cause_isSo 52 rfl) rfl rfl g29 ?_
      obtain ⟨g30, T⟩ := T
      refine R_if_le (Dat dd_Cause_isSo 53 rfl) rfl g30  (fun c => ?_) (fun c => ?_)
      · replace T := T.1 c
        refine R_aload_n (Dat dd_Cause_isSo 54 rfl) rfl rfl ?_
        obtain ⟨g31, T⟩ := T
        refine R_geti (Dat dd_Cause_isSo 55 rfl) rfl rfl g31 ?_
        obtain ⟨g32, T⟩ := T
        refine R_if_ne (Dat dd_Cause_isSo 56 rfl) rfl g32  (fun c => ?_) (fun c => ?_)
        · replace T := T.1 c
          refine R_iload_n (Dat dd_Cause_isSo 57 rfl) rfl ?_
          refine R_aload_n (Dat dd_Cause_isSo 58 rfl) rfl rfl ?_
          obtain ⟨g33, T⟩ := T
          refine R_geti (Dat dd_Cause_isSo 59 rfl) rfl rfl (tok g33) ?_
          obtain ⟨g34, T⟩ := T
          obtain ⟨g35, T⟩ := T
          refine R_ic_ge (Dat dd_Cause_isSo 60 rfl) rfl g34 g35 (fun c => ?_) (fun c => ?_)
          · replace T := T.1 c
            refine R_iconst (Dat dd_Cause_isSo 61 rfl) ?_
            refine R_goto (Dat dd_Cause_isSo 62 rfl) rfl ?_
            exact R_ireturn (Dat dd_Cause_isSo 64 rfl) rfl T
          · replace T := T.2 c
            refine R_iconst (Dat dd_Cause_isSo 63 rfl) ?_
            exact R_ireturn (Dat dd_Cause_isSo 64 rfl) rfl T
        · replace T := T.2 c
          refine R_iconst (Dat dd_Cause_isSo 63 rfl) ?_
          exact R_ireturn (Dat dd_Cause_isSo 64 rfl) rfl T
      · replace T := T.2 c
        refine R_iconst (Dat dd_Cause_isSo 63 rfl) ?_
        exact R_ireturn (Dat dd_Cause_isSo 64 rfl) rfl T
    · replace T := T.2.2.2.2 (by exact hc)
      refine R_iload_n (Dat dd_Cause_isSo 65 rfl) rfl ?_
      refine R_aload_n (Dat dd_Cause_isSo 66 rfl) rfl rfl ?_
      obtain ⟨g36, T⟩ := T
      refine R_geti (Dat dd_Cause_isSo 67 rfl) rfl rfl (tok g36) ?_
      obtain ⟨g37, T⟩ := T
      obtain ⟨g38, T⟩ := T
      refine R_ic_lt (Dat dd_Cause_isSo 68 rfl) rfl g37 g38 (fun c => ?_) (fun c => ?_)
      · replace T := T.1 c
        refine R_iconst (Dat dd_Cause_isSo 71 rfl) ?_
        exact R_ireturn (Dat dd_Cause_isSo 72 rfl) rfl T
      · replace T := T.2 c
        refine R_iconst (Dat dd_Cause_isSo 69 rfl) ?_
        refine R_goto (Dat dd_Cause_isSo 70 rfl) rfl ?_
        exact R_ireturn (Dat dd_Cause_isSo 72 rfl) rfl T
  · replace T := T.2 c
    refine R_aload_n (Dat dd_Cause_isSo 73 rfl) rfl rfl ?_
    obtain ⟨g39, T⟩ := T
    refine R_geti (Dat dd_Cause_isSo 74 rfl) rfl rfl g39 ?_
    refine R_aload_n (Dat dd_Cause_isSo 75 rfl) rfl rfl ?_
    obtain ⟨g40, T⟩ := T
    refine R_geti (Dat dd_Cause_isSo 76 rfl) rfl rfl g40 ?_
    refine R_isub (Dat dd_Cause_isSo 77 rfl) ?_
    refine R_aload_n (Dat dd_Cause_isSo 78 rfl) rfl rfl ?_
    obtain ⟨g41, T⟩ := T
    refine R_geti (Dat dd_Cause_isSo 79 rfl) rfl rfl (tok g41) ?_
    obtain ⟨g42, T⟩ := T
    obtain ⟨g43, T⟩ := T
    refine R_ic_ge (Dat dd_Cause_isSo 80 rfl) rfl g42 g43 (fun c => ?_) (fun c => ?_)
    · replace T := T.1 c
      refine R_aload_n (Dat dd_Cause_isSo 81 rfl) rfl rfl ?_
      obtain ⟨g44, T⟩ := T
      refine R_geti (Dat dd_Cause_isSo 82 rfl) rfl rfl g44 ?_
      refine R_aload_n (Dat dd_Cause_isSo 83 rfl) rfl rfl ?_
      obtain ⟨g45, T⟩ := T
      refine R_geti (Dat dd_Cause_isSo 84 rfl) rfl rfl g45 ?_
      refine R_isub (Dat dd_Cause_isSo 85 rfl) ?_
      refine R_aload_n (Dat dd_Cause_isSo 86 rfl) rfl rfl ?_
      obtain ⟨g46, T⟩ := T
      refine R_geti (Dat dd_Cause_isSo 87 rfl) rfl rfl (tok g46) ?_
      obtain ⟨g47, T⟩ := T
      obtain ⟨g48, T⟩ := T
      refine R_ic_ge (Dat dd_Cause_isSo 88 rfl) rfl g47 g48 (fun c => ?_) (fun c => ?_)
      · replace T := T.1 c
        refine R_iconst (Dat dd_Cause_isSo 89 rfl) ?_
        refine R_goto (Dat dd_Cause_isSo 90 rfl) rfl ?_
        exact R_ireturn (Dat dd_Cause_isSo 92 rfl) rfl T
      · replace T := T.2 c
        refine R_iconst (Dat dd_Cause_isSo 91 rfl) ?_
        exact R_ireturn (Dat dd_Cause_isSo 92 rfl) rfl T
    · replace T := T.2 c
      refine R_iconst (Dat dd_Cause_isSo 91 rfl) ?_
      exact R_ireturn (Dat dd_Cause_isSo 92 rfl) rfl T
def dl_Rule_learn : List (Nat × Instr × Nat) := [(0, .iconst 0, 1), (1, .istore 5, 2), (3, .iload 5, 2), (5, .aload_n 1, 1), (6, .getfield 15, 3), (9, .if_icmp .ge 126, 3), (12, .iconst 0, 1), (13, .istore 6, 2), (15, .iload 6, 2), (17, .aload_n 1, 1), (18, .getfield 15, 3), (21, .if_icmp .ge 108, 3), (24, .aload_n 0, 1), (25, .getfield 9, 3), (28, .bipush 8, 2), (30, .iload 5, 2), (32, .imul, 1), (33, .iload 6, 2), (35, .iadd, 1), (36, .iconst 0, 1), (37, .iastore, 1), (38, .iconst 0, 1), (39, .istore 7, 2), (41, .iload 7, 2), (43, .iconst 1, 1), (44, .iadd, 1), (45, .aload_n 1, 1), (46, .getfield 15, 3), (49, .if_icmp .ge 74, 3), (52, .aload_n 2, 1), (53, .aload_n 1, 1), (54, .getfield 21, 3), (57, .iload 5, 2), (59, .aaload, 1), (60, .aload_n 1, 1), (61, .getfield 21, 3), (64, .iload 6, 2), (66, .aaload, 1), (67, .iload 7, 2), (69, .iload_n 3, 1), (70, .iload 4, 2), (72, .invokevirtual 25, 3), (75, .istore 8, 2), (77, .iload 8, 2), (79, .bipush (-9), 2), (81, .if_icmp .eq 36, 3), (84, .aload_n 2, 1), (85, .getfield 31, 3), (88, .iload 8, 2), (90, .aaload, 1), (91, .invokevirtual 35, 3), (94, .ifCond .eq 23, 3), (97, .aload_n 0, 1), (98, .getfield 9, 3), (101, .bipush 8, 2), (103, .iload 5, 2), (105, .imul, 1), (106, .iload 6, 2), (108, .iadd, 1), (109, .dup2, 1), (110, .iaload, 1), (111, .iconst 1, 1), (112, .iload 7, 2), (114, .ishl, 1), (115, .ior, 1), (116, .iastore, 1), (117, .iinc 7 1, 3), (120, .goto (-79), 3), (123, .iinc 6 1, 3), (126, .goto (-111), 3), (129, .iinc 5 1, 3), (132, .goto (-129), 3), (135, .return_, 1)]
theorem dd_Rule_learn : Dall 56 dl_Rule_learn = true := by decide +kernel
theorem t_Rule_learn {h : Hp} {P : Value → Hp → Prop} {p2 p3 : Int} {r p0 p1 : Nat} (T : R 56 3 [.ref r, .ref p0, .ref p1, .int (I p2), .int (I p3), .int (I 0), .retAddr 0, .retAddr 0, .retAddr 0] [] h P) : R 56 0 [.ref r, .ref p0, .ref p1, .int (I p2), .int (I p3), .retAddr 0, .retAddr 0, .retAddr 0, .retAddr 0] [] h P := by
  refine R_iconst (Dat dd_Rule_learn 0 rfl) ?_
  refine R_istore (Dat dd_Rule_learn 1 rfl) rfl rfl ?_
  exact T
theorem t_Rule_learn_3 {h : Hp} {P : Value → Hp → Prop} {a3 a4 a5 : Int} {a0 a1 a2 : Nat} {a6 a7 a8 : Value} (T : (tg h a1 = 1) ∧ (rng a5) ∧ (rng (iv h a1 1)) ∧ ((a5 < (iv h a1 1) → R 56 15 [.ref a0, .ref a1, .ref a2, .int (I a3), .int (I a4), .int (I a5), .int (I 0), a7, a8] [] h P) ∧ (¬ a5 < (iv h a1 1) → P .null h))) : R 56 3 [.ref a0, .ref a1, .ref a2, .int (I a3), .int (I a4), .int (I a5), a6, a7, a8] [] h P := by
  refine R_iload (Dat dd_Rule_learn 2 rfl) rfl ?_
  refine R_aload_n (Dat dd_Rule_learn 3 rfl) rfl rfl ?_
  obtain ⟨g1, T⟩ := T
  refine R_geti (Dat dd_Rule_learn 4 rfl) rfl rfl (tok g1) ?_
  obtain ⟨g2, T⟩ := T
  obtain ⟨g3, T⟩ := T
  refine R_ic_ge (Dat dd_Rule_learn 5 rfl) rfl g2 g3 (fun c => ?_) (fun c => ?_)
  · replace T := T.1 c
    refine R_iconst (Dat dd_Rule_learn 6 rfl) ?_
    refine R_istore (Dat dd_Rule_learn 7 rfl) rfl rfl ?_
    exact T
  · replace T := T.2 c
    exact R_return (Dat dd_Rule_learn 72 rfl) rfl T
theorem t_Rule_learn_15 {h : Hp} {P : Value → Hp → Prop} {a3 a4 a5 a6 : Int} {a0 a1 a2 : Nat} {a7 a8 : Value} (T : (tg h a1 = 1) ∧ (rng a6) ∧ (rng (iv h a1 1)) ∧ ((a6 < (iv h a1 1) → (tg h a0 = 8) ∧ (fl h a0 0 = true) ∧ (tg h (child a0 0) ≠ 0) ∧ (tg h (child a0 0) = 20) ∧ ((ln h (child a0 0) : Int) ≤ 2147483648) ∧ (0 ≤ ((8 * a5) + a6)) ∧ (((8 * a5) + a6) < ln h (child a0 0)) ∧ R 56 41 [.ref a0, .ref a1, .ref a2, .int (I a3), .int (I a4), .int (I a5), .int (I a6), .int (I 0), a8] [] (setI h (child a0 0) ((8 * a5) + a6) 0) P) ∧ (¬ a6 < (iv h a1 1) → R 56 3 [.ref a0, .ref a1, .ref a2, .int (I a3), .int (I a4), .int (I (a5 + 1)), .int (I a6), a7, a8] [] h P))) : R 56 15 [.ref a0, .ref a1, .ref a2, .int (I a3), .int (I a4), .int (I a5), .int (I a6), a7, a8] [] h P := by
  refine R_iload (Dat dd_Rule_learn 8 rfl) rfl ?_
  refine R_aload_n (Dat dd_Rule_learn 9 rfl) rfl rfl ?_
  obtain ⟨g1, T⟩ := T
  refine R_geti (Dat dd_Rule_learn 10 rfl) rfl rfl (tok g1) ?_
  obtain ⟨g2, T⟩ := T
  obtain ⟨g3, T⟩ := T
  refine R_ic_ge (Dat dd_Rule_learn 11 rfl) rfl g2 g3 (fun c => ?_) (fun c => ?_)
  · replace T := T.1 c
    refine R_aload_n (Dat dd_Rule_learn 12 rfl) rfl rfl ?_
    obtain ⟨g4, T⟩ := T
    obtain ⟨g5, T⟩ := T
    obtain ⟨g6, T⟩ := T
    refine R_getr (Dat dd_Rule_learn 13 rfl) rfl rfl (tok g4) g5 (q := child a0 0) rfl g6 ?_
    refine R_bipush (Dat dd_Rule_learn 14 rfl) (a := 8) rfl ?_
    refine R_iload (Dat dd_Rule_learn 15 rfl) rfl ?_
    refine R_imul (Dat dd_Rule_learn 16 rfl) ?_
    refine R_iload (Dat dd_Rule_learn 17 rfl) rfl ?_
    refine R_iadd (Dat dd_Rule_learn 18 rfl) ?_
    refine R_iconst (Dat dd_Rule_learn 19 rfl) ?_
    obtain ⟨g7, T⟩ := T
    obtain ⟨g8, T⟩ := T
    obtain ⟨g9, T⟩ := T
    obtain ⟨g10, T⟩ := T
    refine R_iastore (Dat dd_Rule_learn 20 rfl) g7 g8 g9 g10 (v := 0) rfl ?_
    refine R_iconst (Dat dd_Rule_learn 21 rfl) ?_
    refine R_istore (Dat dd_Rule_learn 22 rfl) rfl rfl ?_
    exact T
  · replace T := T.2 c
    refine R_iinc (Dat dd_Rule_learn 70 rfl) rfl rfl rfl ?_
    refine R_goto (Dat dd_Rule_learn 71 rfl) rfl ?_
    exact T
theorem t_Rule_learn_41 {h : Hp} {P : Value → Hp → Prop} {a3 a4 a5 a6 a7 : Int} {a0 a1 a2 : Nat} {a8 : Value} (T : (tg h a1 = 1) ∧ (rng (a7 + 1)) ∧ (rng (iv h a1 1)) ∧ (((a7 + 1) < (iv h a1 1) → (tg h a1 = 1) ∧ (fl h a1 0 = true) ∧ (tg h (child a1 0) ≠ 0) ∧ (21 ≤ tg h (child a1 0) ∧ tg h (child a1 0) ≤ 25) ∧ ((ln h (child a1 0) : Int) ≤ 2147483648) ∧ (0 ≤ a5) ∧ (a5 < ln h (child a1 0)) ∧ (fl h (child a1 0) (a5).toNat = true) ∧ (tg h (child (child a1 0) (a5).toNat) ≠ 0) ∧ (tg h a1 = 1) ∧ (fl h a1 0 = true) ∧ (tg h (child a1 0) ≠ 0) ∧ (21 ≤ tg h (child a1 0) ∧ tg h (child a1 0) ≤ 25) ∧ ((ln h (child a1 0) : Int) ≤ 2147483648) ∧ (0 ≤ a6) ∧ (a6 < ln h (child a1 0)) ∧ (fl h (child a1 0) (a6).toNat = true) ∧ (tg h (child (child a1 0) (a6).toNat) ≠ 0) ∧ (tg h a2 = 4) ∧ R 51 0 [.ref a2, .ref (child (child a1 0) (a5).toNat), .ref (child (child a1 0) (a6).toNat), .int (I a7), .int (I a3), .int (I a4), .retAddr 0] [] h (fun v h2 => R 56 75 [.ref a0, .ref a1, .ref a2, .int (I a3), .int (I a4), .int (I a5), .int (I a6), .int (I a7), a8] (v :: []) h2 P)) ∧ (¬ (a7 + 1) < (iv h a1 1) → R 56 15 [.ref a0, .ref a1, .ref a2, .int (I a3), .int (I a4), .int (I a5), .int (I (a6 + 1)), .int (I a7), a8] [] h P))) : R 56 41 [.ref a0, .ref a1, .ref a2, .int (I a3), .int (I a4), .int (I a5), .int (I a6), .int (I a7), a8] [] h P := by
  refine R_iload (Dat dd_Rule_learn 23 rfl) rfl ?_
  refine R_iconst (Dat dd_Rule_learn 24 rfl) ?_
  refine R_iadd (Dat dd_Rule_learn 25 rfl) ?_
  refine R_aload_n (Dat dd_Rule_learn 26 rfl) rfl rfl ?_
  obtain ⟨g1, T⟩ := T
  refine R_geti (Dat dd_Rule_learn 27 rfl) rfl rfl (tok g1) ?_
  obtain ⟨g2, T⟩ := T
  obtain ⟨g3, T⟩ := T
  refine R_ic_ge (Dat dd_Rule_learn 28 rfl) rfl g2 g3 (fun c => ?_) (fun c => ?_)
  · replace T := T.1 c
    refine R_aload_n (Dat dd_Rule_learn 29 rfl) rfl rfl ?_
    refine R_aload_n (Dat dd_Rule_learn 30 rfl) rfl rfl ?_
    obtain ⟨g4, T⟩ := T
    obtain ⟨g5, T⟩ := T
    obtain ⟨g6, T⟩ := T
    refine R_getr (Dat dd_Rule_learn 31 rfl) rfl rfl (tok g4) g5 (q := child a1 0) rfl g6 ?_
    refine R_iload (Dat dd_Rule_learn 32 rfl) rfl ?_
    obtain ⟨g7, T⟩ := T
    obtain ⟨g8, T⟩ := T
    obtain ⟨g9, T⟩ := T
    obtain ⟨g10, T⟩ := T
    obtain ⟨g11, T⟩ := T
    obtain ⟨g12, T⟩ := T
    refine R_aaload (Dat dd_Rule_learn 33 rfl) g7 g8 g9 g10 g11 rfl g12 ?_
    refine R_aload_n (Dat dd_Rule_learn 34 rfl) rfl rfl ?_
    obtain ⟨g13, T⟩ := T
    obtain ⟨g14, T⟩ := T
    obtain ⟨g15, T⟩ := T
    refine R_getr (Dat dd_Rule_learn 35 rfl) rfl rfl (tok g13) g14 (q := child a1 0) rfl g15 ?_
    refine R_iload (Dat dd_Rule_learn 36 rfl) rfl ?_
    obtain ⟨g16, T⟩ := T
    obtain ⟨g17, T⟩ := T
    obtain ⟨g18, T⟩ := T
    obtain ⟨g19, T⟩ := T
    obtain ⟨g20, T⟩ := T
    obtain ⟨g21, T⟩ := T
    refine R_aaload (Dat dd_Rule_learn 37 rfl) g16 g17 g18 g19 g20 rfl g21 ?_
    refine R_iload (Dat dd_Rule_learn 38 rfl) rfl ?_
    refine R_iload_n (Dat dd_Rule_learn 39 rfl) rfl ?_
    refine R_iload (Dat dd_Rule_learn 40 rfl) rfl ?_
    obtain ⟨g22, T⟩ := T
    exact R_call1 (Dat dd_Rule_learn 41 rfl) rfl g22 rfl rfl rfl rfl rfl T
  · replace T := T.2 c
    refine R_iinc (Dat dd_Rule_learn 68 rfl) rfl rfl rfl ?_
    refine R_goto (Dat dd_Rule_learn 69 rfl) rfl ?_
    exact T
theorem t_Rule_learn_75 {h : Hp} {P : Value → Hp → Prop} {a3 a4 a5 a6 a7 s0 : Int} {a0 a1 a2 : Nat} {a8 : Value} (T : (rng s0) ∧ ((s0 = (-9) → R 56 41 [.ref a0, .ref a1, .ref a2, .int (I a3), .int (I a4), .int (I a5), .int (I a6), .int (I (a7 + 1)), .int (I s0)] [] h P) ∧ (¬ s0 = (-9) → (tg h a2 = 4) ∧ (fl h a2 0 = true) ∧ (tg h (child a2 0) ≠ 0) ∧ (21 ≤ tg h (child a2 0) ∧ tg h (child a2 0) ≤ 25) ∧ ((ln h (child a2 0) : Int) ≤ 2147483648) ∧ (0 ≤ s0) ∧ (s0 < ln h (child a2 0)) ∧ (fl h (child a2 0) (s0).toNat = true) ∧ (tg h (child (child a2 0) (s0).toNat) ≠ 0) ∧ (tg h (child (child a2 0) (s0).toNat) = 2) ∧ R 57 0 [.ref (child (child a2 0) (s0).toNat)] [] h (fun v h2 => R 56 94 [.ref a0, .ref a1, .ref a2, .int (I a3), .int (I a4), .int (I a5), .int (I a6), .int (I a7), .int (I s0)] (v :: []) h2 P)))) : R 56 75 [.ref a0, .ref a1, .ref a2, .int (I a3), .int (I a4), .int (I a5), .int (I a6), .int (I a7), a8] [.int (I s0)] h P := by
  refine R_istore (Dat dd_Rule_learn 42 rfl) rfl rfl ?_
  refine R_iload (Dat dd_Rule_learn 43 rfl) rfl ?_
  refine R_bipush (Dat dd_Rule_learn 44 rfl) (a := (-9)) rfl ?_
  obtain ⟨g1, T⟩ := T
  refine R_ic_eq (Dat dd_Rule_learn 45 rfl) rfl g1 (by decide) (fun c => ?_) (fun c => ?_)
  · replace T := T.1 c
    refine R_iinc (Dat dd_Rule_learn 66 rfl) rfl rfl rfl ?_
    refine R_goto (Dat dd_Rule_learn 67 rfl) rfl ?_
    exact T
  · replace T := T.2 c
    refine R_aload_n (Dat dd_Rule_learn 46 rfl) rfl rfl ?_
    obtain ⟨g2, T⟩ := T
    obtain ⟨g3, T⟩ := T
    obtain ⟨g4, T⟩ := T
    refine R_getr (Dat dd_Rule_learn 47 rfl) rfl rfl (tok g2) g3 (q := child a2 0) rfl g4 ?_
    refine R_iload (Dat dd_Rule_learn 48 rfl) rfl ?_
    obtain ⟨g5, T⟩ := T
    obtain ⟨g6, T⟩ := T
    obtain ⟨g7, T⟩ := T
    obtain ⟨g8, T⟩ := T
    obtain ⟨g9, T⟩ := T
    obtain ⟨g10, T⟩ := T
    refine R_aaload (Dat dd_Rule_learn 49 rfl) g5 g6 g7 g8 g9 rfl g10 ?_
    obtain ⟨g11, T⟩ := T
    exact R_call1 (Dat dd_Rule_learn 50 rfl) rfl g11 rfl rfl rfl rfl rfl T
theorem t_Rule_learn_94 {h : Hp} {P : Value → Hp → Prop} {a3 a4 a5 a6 a7 s0 : Int} {a0 a1 a2 : Nat} {a8 : Value} (T : (rng s0) ∧ ((s0 = 0 → R 56 41 [.ref a0, .ref a1, .ref a2, .int (I a3), .int (I a4), .int (I a5), .int (I a6), .int (I (a7 + 1)), a8] [] h P) ∧ (¬ s0 = 0 → (tg h a0 = 8) ∧ (fl h a0 0 = true) ∧ (tg h (child a0 0) ≠ 0) ∧ (tg h (child a0 0) = 20 ∨ tg h (child a0 0) = 30) ∧ ((ln h (child a0 0) : Int) ≤ 2147483648) ∧ (0 ≤ ((8 * a5) + a6)) ∧ (((8 * a5) + a6) < ln h (child a0 0)) ∧ (tg h (child a0 0) = 20) ∧ ((ln h (child a0 0) : Int) ≤ 2147483648) ∧ (0 ≤ ((8 * a5) + a6)) ∧ (((8 * a5) + a6) < ln h (child a0 0)) ∧ R 56 41 [.ref a0, .ref a1, .ref a2, .int (I a3), .int (I a4), .int (I a5), .int (I a6), .int (I (a7 + 1)), a8] [] (setI h (child a0 0) ((8 * a5) + a6) (wr (bor (iv h (child a0 0) ((8 * a5) + a6)) (shl 1 a7)))) P))) : R 56 94 [.ref a0, .ref a1, .ref a2, .int (I a3), .int (I a4), .int (I a5), .int (I a6), .int (I a7), a8] [.int (I s0)] h P := by
  obtain ⟨g1, T⟩ := T
  refine R_if_eq (Dat dd_Rule_learn 51 rfl) rfl g1  (fun c => ?_) (fun c => ?_)
  · replace T := T.1 c
    refine R_iinc (Dat dd_Rule_learn 66 rfl) rfl rfl rfl ?_
    refine R_goto (Dat dd_Rule_learn 67 rfl) rfl ?_
    exact T
  · replace T := T.2 c
    refine R_aload_n (Dat dd_Rule_learn 52 rfl) rfl rfl ?_
    obtain ⟨g2, T⟩ := T
    obtain ⟨g3, T⟩ := T
    obtain ⟨g4, T⟩ := T
    refine R_getr (Dat dd_Rule_learn 53 rfl) rfl rfl (tok g2) g3 (q := child a0 0) rfl g4 ?_
    refine R_bipush (Dat dd_Rule_learn 54 rfl) (a := 8) rfl ?_
    refine R_iload (Dat dd_Rule_learn 55 rfl) rfl ?_
    refine R_imul (Dat dd_Rule_learn 56 rfl) ?_
    refine R_iload (Dat dd_Rule_learn 57 rfl) rfl ?_
    refine R_iadd (Dat dd_Rule_learn 58 rfl) ?_
    refine R_dup2 (Dat dd_Rule_learn 59 rfl) rfl ?_
    obtain ⟨g5, T⟩ := T
    obtain ⟨g6, T⟩ := T
    obtain ⟨g7, T⟩ := T
    obtain ⟨g8, T⟩ := T
    refine R_iaload (Dat dd_Rule_learn 60 rfl) g5 g6 g7 g8 ?_
    refine R_iconst (Dat dd_Rule_learn 61 rfl) ?_
    refine R_iload (Dat dd_Rule_learn 62 rfl) rfl ?_
    refine R_ishl (Dat dd_Rule_learn 63 rfl) ?_
    refine R_ior (Dat dd_Rule_learn 64 rfl) ?_
    obtain ⟨g9, T⟩ := T
    obtain ⟨g10, T⟩ := T
    obtain ⟨g11, T⟩ := T
    obtain ⟨g12, T⟩ := T
    refine R_iastore (Dat dd_Rule_learn 65 rfl) g9 g10 g11 g12 (v := wr (bor (iv h (child a0 0) ((8 * a5) + a6)) (shl 1 a7))) rfl ?_
    refine R_iinc (Dat dd_Rule_learn 66 rfl) rfl rfl rfl ?_
    refine R_goto (Dat dd_Rule_learn 67 rfl) rfl ?_
    exact T
def dl_Cause_makesChange : List (Nat × Instr × Nat) := [(0, .aload_n 0, 1), (1, .getfield 9, 3), (4, .iconst 3, 1), (5, .if_icmp .gt 7, 3), (8, .iconst 1, 1), (9, .goto 4, 3), (12, .iconst 0, 1), (13, .ireturn, 1)]
theorem dd_Cause_makesChange : Dall 57 dl_Cause_makesChange = true := by decide +kernel
theorem t_Cause_makesChange {h : Hp} {P : Value → Hp → Prop} {r : Nat} (T : (tg h r = 2) ∧ (rng (iv h r 0)) ∧ (((3 : Int) < (iv h r 0) → P (.int (I 0)) h) ∧ (¬ (3 : Int) < (iv h r 0) → P (.int (I 1)) h))) : R 57 0 [.ref r] [] h P := by
  refine R_aload_n (Dat dd_Cause_makesChange 0 rfl) rfl rfl ?_
  obtain ⟨g1, T⟩ := T
  refine R_geti (Dat dd_Cause_makesChange 1 rfl) rfl rfl (tok g1) ?_
  refine R_iconst (Dat dd_Cause_makesChange 2 rfl) ?_
  obtain ⟨g2, T⟩ := T
  refine R_ic_gt (Dat dd_Cause_makesChange 3 rfl) rfl g2 (by decide) (fun c => ?_) (fun c => ?_)
  · replace T := T.1 c
    refine R_iconst (Dat dd_Cause_makesChange 6 rfl) ?_
    exact R_ireturn (Dat dd_Cause_makesChange 7 rfl) rfl T
  · replace T := T.2 c
    refine R_iconst (Dat dd_Cause_makesChange 4 rfl) ?_
    refine R_goto (Dat dd_Cause_makesChange 5 rfl) rfl ?_
    exact R_ireturn (Dat dd_Cause_makesChange 7 rfl) rfl T
def dl_Motion_forget : List (Nat × Instr × Nat) := [(0, .aload_n 0, 1), (1, .aload_n 0, 1), (2, .getfield 16, 3), (5, .iload_n 1, 1), (6, .invokestatic 20, 3), (9, .putfield 16, 3), (12, .aload_n 0, 1), (13, .getfield 16, 3), (16, .iconst 0, 1), (17, .iload_n 1, 1), (18, .iconst 0, 1), (19, .invokestatic 26, 3), (22, .return_, 1)]
theorem dd_Motion_forget : Dall 58 dl_Motion_forget = true := by decide +kernel
theorem t_Motion_forget {h : Hp} {P : Value → Hp → Prop} {p0 : Int} {r : Nat} (T : (tg h r = 6) ∧ (fl h r 1 = true) ∧ (tg h (child r 1) ≠ 0) ∧ (okg 58 23 [.ref r, .int (I p0)] [.ref r] [.ref (child r 1), .int (I p0)] = true) ∧ R 23 0 [.ref (child r 1), .int (I p0)] [] h (fun v h2 => R 58 9 [.ref r, .int (I p0)] (v :: [.ref r]) h2 P)) : R 58 0 [.ref r, .int (I p0)] [] h P := by
  refine R_aload_n (Dat dd_Motion_forget 0 rfl) rfl rfl ?_
  refine R_aload_n (Dat dd_Motion_forget 1 rfl) rfl rfl ?_
  obtain ⟨g1, T⟩ := T
  obtain ⟨g2, T⟩ := T
  obtain ⟨g3, T⟩ := T
  refine R_getr (Dat dd_Motion_forget 2 rfl) rfl rfl (tok g1) g2 (q := child r 1) rfl g3 ?_
  refine R_iload_n (Dat dd_Motion_forget 3 rfl) rfl ?_
  obtain ⟨g4, T⟩ := T
  exact R_call3 (Dat dd_Motion_forget 4 rfl) rfl rfl rfl rfl g4 rfl T
theorem t_Motion_forget_9 {h : Hp} {P : Value → Hp → Prop} {a1 : Int} {a0 s0 s1 : Nat} (T : (tg h s1 = 6) ∧ (s0 = (child s1 1) ∨ s0 = 38) ∧ ((s0 = (child s1 1) → (tg (setF h s1 1) a0 = 6) ∧ (fl (setF h s1 1) a0 1 = true) ∧ (tg (setF h s1 1) (child a0 1) ≠ 0) ∧ R 59 0 [.ref (child a0 1), .int (I 0), .int (I a1), .int (I 0), .retAddr 0] [] (setF h s1 1) (fun _ h2 => R 58 22 [.ref a0, .int (I a1)] [] h2 P)) ∧ (s0 = 38 → (mv 58 && gw (child s1 1) && !gw s1 && decide ((child s1 1) < 37 ∨ 38 < (child s1 1)) && tg h 38 == 20 && ng [.ref a0, .int (I a1)] && ng []) = true ∧ (child s1 1) ≠ 38 ∧ (tg (mov h s1 1 (child s1 1) 38) a0 = 6) ∧ (fl (mov h s1 1 (child s1 1) 38) a0 1 = true) ∧ (tg (mov h s1 1 (child s1 1) 38) (child a0 1) ≠ 0) ∧ R 59 0 [.ref (child a0 1), .int (I 0), .int (I a1), .int (I 0), .retAddr 0] [] (mov h s1 1 (child s1 1) 38) (fun _ h2 => R 58 22 [.ref a0, .int (I a1)] [] h2 P)))) : R 58 9 [.ref a0, .int (I a1)] [.ref s0, .ref s1] h P := by
  obtain ⟨g1, T⟩ := T
  obtain ⟨g2, T⟩ := T
  rcases g2 with e | e
  · replace T := T.1 e
    subst e
    refine R_putr (Dat dd_Motion_forget 5 rfl) rfl rfl rfl (tok g1) rfl ?_
    refine R_aload_n (Dat dd_Motion_forget 6 rfl) rfl rfl ?_
    obtain ⟨g3, T⟩ := T
    obtain ⟨g4, T⟩ := T
    obtain ⟨g5, T⟩ := T
    refine R_getr (Dat dd_Motion_forget 7 rfl) rfl rfl (tok g3) g4 (q := child a0 1) rfl g5 ?_
    refine R_iconst (Dat dd_Motion_forget 8 rfl) ?_
    refine R_iload_n (Dat dd_Motion_forget 9 rfl) rfl ?_
    refine R_iconst (Dat dd_Motion_forget 10 rfl) ?_
    exact R_call0 (Dat dd_Motion_forget 11 rfl) rfl rfl rfl rfl rfl rfl T
  · replace T := T.2 e
    subst e
    obtain ⟨g6, g7, T⟩ := T
    refine R_putm (Dat dd_Motion_forget 5 rfl) rfl rfl rfl (tok g1) (q := child s1 1) rfl g7 g6 ?_
    refine R_aload_n (Dat dd_Motion_forget 6 rfl) rfl rfl ?_
    obtain ⟨g8, T⟩ := T
    obtain ⟨g9, T⟩ := T
    obtain ⟨g10, T⟩ := T
    refine R_getr (Dat dd_Motion_forget 7 rfl) rfl rfl (tok g8) g9 (q := child a0 1) rfl g10 ?_
    refine R_iconst (Dat dd_Motion_forget 8 rfl) ?_
    refine R_iload_n (Dat dd_Motion_forget 9 rfl) rfl ?_
    refine R_iconst (Dat dd_Motion_forget 10 rfl) ?_
    exact R_call0 (Dat dd_Motion_forget 11 rfl) rfl rfl rfl rfl rfl rfl T
theorem t_Motion_forget_22 {h : Hp} {P : Value → Hp → Prop} {a0 a1 : Value} (T : P .null h) : R 58 22 [a0, a1] [] h P := by
  exact R_return (Dat dd_Motion_forget 12 rfl) rfl T
def dl_Rule_shaken : List (Nat × Instr × Nat) := [(0, .aload_n 0, 1), (1, .aload_n 0, 1), (2, .iload_n 1, 1), (3, .iconst 0, 1), (4, .iload_n 2, 1), (5, .invokevirtual 41, 3), (8, .iconst 1, 1), (9, .iload_n 2, 1), (10, .invokevirtual 41, 3), (13, .ireturn, 1)]
theorem dd_Rule_shaken : Dall 61 dl_Rule_shaken = true := by decide +kernel
theorem t_Rule_shaken {h : Hp} {P : Value → Hp → Prop} {p0 p1 : Int} {r : Nat} (T : (tg h r = 8) ∧ R 62 0 [.ref r, .int (I p0), .int (I 0), .int (I p1), .retAddr 0, .retAddr 0, .retAddr 0, .retAddr 0] [] h (fun v h2 => R 61 8 [.ref r, .int (I p0), .int (I p1)] (v :: [.ref r]) h2 P)) : R 61 0 [.ref r, .int (I p0), .int (I p1)] [] h P := by
  refine R_aload_n (Dat dd_Rule_shaken 0 rfl) rfl rfl ?_
  refine R_aload_n (Dat dd_Rule_shaken 1 rfl) rfl rfl ?_
  refine R_iload_n (Dat dd_Rule_shaken 2 rfl) rfl ?_
  refine R_iconst (Dat dd_Rule_shaken 3 rfl) ?_
  refine R_iload_n (Dat dd_Rule_shaken 4 rfl) rfl ?_
  obtain ⟨g1, T⟩ := T
  exact R_call1 (Dat dd_Rule_shaken 5 rfl) rfl g1 rfl rfl rfl rfl rfl T
theorem t_Rule_shaken_8 {h : Hp} {P : Value → Hp → Prop} {a2 s0 : Int} {s1 : Nat} {a0 a1 : Value} (T : (tg h s1 = 8) ∧ R 62 0 [.ref s1, .int (I s0), .int (I 1), .int (I a2), .retAddr 0, .retAddr 0, .retAddr 0, .retAddr 0] [] h (fun v h2 => R 61 13 [a0, a1, .int (I a2)] (v :: []) h2 P)) : R 61 8 [a0, a1, .int (I a2)] [.int (I s0), .ref s1] h P := by
  refine R_iconst (Dat dd_Rule_shaken 6 rfl) ?_
  refine R_iload_n (Dat dd_Rule_shaken 7 rfl) rfl ?_
  obtain ⟨g1, T⟩ := T
  exact R_call1 (Dat dd_Rule_shaken 8 rfl) rfl g1 rfl rfl rfl rfl rfl T
theorem t_Rule_shaken_13 {h : Hp} {P : Value → Hp → Prop} {s0 : Int} {a0 a1 a2 : Value} (T : P (.int (I s0)) h) : R 61 13 [a0, a1, a2] [.int (I s0)] h P := by
  exact R_ireturn (Dat dd_Rule_shaken 9 rfl) rfl T
def dl_Rule_pairsShaken : List (Nat × Instr × Nat) := [(0, .iload_n 1, 1), (1, .istore 4, 2), (3, .iload_n 2, 1), (4, .istore 5, 2), (6, .iload 5, 2), (8, .iconst 1, 1), (9, .iadd, 1), (10, .iload_n 3, 1), (11, .if_icmp .ge 79, 3), (14, .iload 4, 2), (16, .iload 5, 2), (18, .invokestatic 45, 3), (21, .istore 6, 2), (23, .iload 4, 2), (25, .iload 5, 2), (27, .iconst 1, 1), (28, .iadd, 1), (29, .invokestatic 45, 3), (32, .istore 7, 2), (34, .aload_n 0, 1), (35, .getfield 9, 3), (38, .bipush 8, 2), (40, .iload 6, 2), (42, .imul, 1), (43, .iload 7, 2), (45, .iadd, 1), (46, .iaload, 1), (47, .iload 5, 2), (49, .ishr, 1), (50, .iconst 1, 1), (51, .iand, 1), (52, .iconst 1, 1), (53, .if_icmp .ne 31, 3), (56, .iload 4, 2), (58, .iload 6, 2), (60, .iload 7, 2), (62, .ixor, 1), (63, .bipush 9, 2), (65, .imul, 1), (66, .iconst 3, 1), (67, .iload 5, 2), (69, .imul, 1), (70, .ishl, 1), (71, .ixor, 1), (72, .istore 4, 2), (74, .aload_n 0, 1), (75, .dup, 1), (76, .getfield 49, 3), (79, .iconst 1, 1), (80, .iadd, 1), (81, .putfield 49, 3), (84, .iinc 5 2, 3), (87, .goto (-81), 3), (90, .iload 4, 2), (92, .ireturn, 1)]
theorem dd_Rule_pairsShaken : Dall 62 dl_Rule_pairsShaken = true := by decide +kernel
theorem t_Rule_pairsShaken {h : Hp} {P : Value → Hp → Prop} {p0 p1 p2 : Int} {r : Nat} (T : R 62 6 [.ref r, .int (I p0), .int (I p1), .int (I p2), .int (I p0), .int (I p1), .retAddr 0, .retAddr 0] [] h P) : R 62 0 [.ref r, .int (I p0), .int (I p1), .int (I p2), .retAddr 0, .retAddr 0, .retAddr 0, .retAddr 0] [] h P := by
  refine R_iload_n (Dat dd_Rule_pairsShaken 0 rfl) rfl ?_
  refine R_istore (Dat dd_Rule_pairsShaken 1 rfl) rfl rfl ?_
  refine R_iload_n (Dat dd_Rule_pairsShaken 2 rfl) rfl ?_
  refine R_istore (Dat dd_Rule_pairsShaken 3 rfl) rfl rfl ?_
  exact T
theorem t_Rule_pairsShaken_6 {h : Hp} {P : Value → Hp → Prop} {a3 a4 a5 : Int} {a0 : Nat} {a1 a2 a6 a7 : Value} (T : (rng (a5 + 1)) ∧ (rng a3) ∧ (((a5 + 1) < a3 → R 32 0 [.int (I a4), .int (I a5)] [] h (fun v h2 => R 62 21 [.ref a0, a1, a2, .int (I a3), .int (I a4), .int (I a5), a6, a7] (v :: []) h2 P)) ∧ (¬ (a5 + 1) < a3 → P (.int (I a4)) h))) : R 62 6 [.ref a0, a1, a2, .int (I a3), .int (I a4), .int (I a5), a6, a7] [] h P := by
  refine R_iload (Dat dd_Rule_pairsShaken 4 rfl) rfl ?_
  refine R_iconst (Dat dd_Rule_pairsShaken 5 rfl) ?_
  refine R_iadd (Dat dd_Rule_pairsShaken 6 rfl) ?_
  refine R_iload_n (Dat dd_Rule_pairsShaken 7 rfl) rfl ?_
  obtain ⟨g1, T⟩ := T
  obtain ⟨g2, T⟩ := T
  refine R_ic_ge (Dat dd_Rule_pairsShaken 8 rfl) rfl g1 g2 (fun c => ?_) (fun c => ?_)
  · replace T := T.1 c
    refine R_iload (Dat dd_Rule_pairsShaken 9 rfl) rfl ?_
    refine R_iload (Dat dd_Rule_pairsShaken 10 rfl) rfl ?_
    exact R_call0 (Dat dd_Rule_pairsShaken 11 rfl) rfl rfl rfl rfl rfl rfl T
  · replace T := T.2 c
    refine R_iload (Dat dd_Rule_pairsShaken 53 rfl) rfl ?_
    exact R_ireturn (Dat dd_Rule_pairsShaken 54 rfl) rfl T
theorem t_Rule_pairsShaken_21 {h : Hp} {P : Value → Hp → Prop} {a3 a4 a5 s0 : Int} {a0 : Nat} {a1 a2 a6 a7 : Value} (T : R 32 0 [.int (I a4), .int (I (a5 + 1))] [] h (fun v h2 => R 62 32 [.ref a0, a1, a2, .int (I a3), .int (I a4), .int (I a5), .int (I s0), a7] (v :: []) h2 P)) : R 62 21 [.ref a0, a1, a2, .int (I a3), .int (I a4), .int (I a5), a6, a7] [.int (I s0)] h P := by
  refine R_istore (Dat dd_Rule_pairsShaken 12 rfl) rfl rfl ?_
  refine R_iload (Dat dd_Rule_pairsShaken 13 rfl) rfl ?_
  refine R_iload (Dat dd_Rule_pairsShaken 14 rfl) rfl ?_
  refine R_iconst (Dat dd_Rule_pairsShaken 15 rfl) ?_
  refine R_iadd (Dat dd_Rule_pairsShaken 16 rfl) ?_
  exact R_call0 (Dat dd_Rule_pairsShaken 17 rfl) rfl rfl rfl rfl rfl rfl T
theorem t_Rule_pairsShaken_32 {h : Hp} {P : Value → Hp → Prop} {a3 a4 a5 a6 s0 : Int} {a0 : Nat} {a1 a2 a7 : Value} (T : (tg h a0 = 8) ∧ (fl h a0 0 = true) ∧ (tg h (child a0 0) ≠ 0) ∧ (tg h (child a0 0) = 20 ∨ tg h (child a0 0) = 30) ∧ ((ln h (child a0 0) : Int) ≤ 2147483648) ∧ (0 ≤ ((8 * a6) + s0)) ∧ (((8 * a6) + s0) < ln h (child a0 0)) ∧ (rng (band (shr (iv h (child a0 0) ((8 * a6) + s0)) a5) 1)) ∧ (((band (shr (iv h (child a0 0) ((8 * a6) + s0)) a5) 1) = 1 → (tg h a0 = 8) ∧ (tg h a0 = 8) ∧ R 62 6 [.ref a0, a1, a2, .int (I a3), .int (I (bxor a4 (shl ((bxor a6 s0) * 9) (3 * a5)))), .int (I (a5 + 2)), .int (I a6), .int (I s0)] [] (setI h a0 1 (wr ((iv h a0 1) + 1))) P) ∧ (¬ (band (shr (iv h (child a0 0) ((8 * a6) + s0)) a5) 1) = 1 → R 62 6 [.ref a0, a1, a2, .int (I a3), .int (I a4), .int (I (a5 + 2)), .int (I a6), .int (I s0)] [] h P))) : R 62 32 [.ref a0, a1, a2, .int (I a3), .int (I a4), .int (I a5), .int (I a6), a7] [.int (I s0)] h P := by
  refine R_istore (Dat dd_Rule_pairsShaken 18 rfl) rfl rfl ?_
  refine R_aload_n (Dat dd_Rule_pairsShaken 19 rfl) rfl rfl ?_
  obtain ⟨g1, T⟩ := T
  obtain ⟨g2, T⟩ := T
  obtain ⟨g3, T⟩ := T
  refine R_getr (Dat dd_Rule_pairsShaken 20 rfl) rfl rfl (tok g1) g2 (q := child a0 0) rfl g3 ?_
  refine R_bipush (Dat dd_Rule_pairsShaken 21 rfl) (a := 8) rfl ?_
  refine R_iload (Dat dd_Rule_pairsShaken 22 rfl) rfl ?_
  refine R_imul (Dat dd_Rule_pairsShaken 23 rfl) ?_
  refine R_iload (Dat dd_Rule_pairsShaken 24 rfl) rfl ?_
  refine R_iadd (Dat dd_Rule_pairsShaken 25 rfl) ?_
  obtain ⟨g4, T⟩ := T
  obtain ⟨g5, T⟩ := T
  obtain ⟨g6, T⟩ := T
  obtain ⟨g7, T⟩ := T
  refine R_iaload (Dat dd_Rule_pairsShaken 26 rfl) g4 g5 g6 g7 ?_
  refine R_iload (Dat dd_Rule_pairsShaken 27 rfl) rfl ?_
  refine R_ishr (Dat dd_Rule_pairsShaken 28 rfl) ?_
  refine R_iconst (Dat dd_Rule_pairsShaken 29 rfl) ?_
  refine R_iand (Dat dd_Rule_pairsShaken 30 rfl) ?_
  refine R_iconst (Dat dd_Rule_pairsShaken 31 rfl) ?_
  obtain ⟨g8, T⟩ := T
  refine R_ic_ne (Dat dd_Rule_pairsShaken 32 rfl) rfl g8 (by decide) (fun c => ?_) (fun c => ?_)
  · replace T := T.1 c
    refine R_iload (Dat dd_Rule_pairsShaken 33 rfl) rfl ?_
    refine R_iload (Dat dd_Rule_pairsShaken 34 rfl) rfl ?_
    refine R_iload (Dat dd_Rule_pairsShaken 35 rfl) rfl ?_
    refine R_ixor (Dat dd_Rule_pairsShaken 36 rfl) ?_
    refine R_bipush (Dat dd_Rule_pairsShaken 37 rfl) (a := 9) rfl ?_
    refine R_imul (Dat dd_Rule_pairsShaken 38 rfl) ?_
    refine R_iconst (Dat dd_Rule_pairsShaken 39 rfl) ?_
    refine R_iload (Dat dd_Rule_pairsShaken 40 rfl) rfl ?_
    refine R_imul (Dat dd_Rule_pairsShaken 41 rfl) ?_
    refine R_ishl (Dat dd_Rule_pairsShaken 42 rfl) ?_
    refine R_ixor (Dat dd_Rule_pairsShaken 43 rfl) ?_
    refine R_istore (Dat dd_Rule_pairsShaken 44 rfl) rfl rfl ?_
    refine R_aload_n (Dat dd_Rule_pairsShaken 45 rfl) rfl rfl ?_
    refine R_dup (Dat dd_Rule_pairsShaken 46 rfl) rfl ?_
    obtain ⟨g9, T⟩ := T
    refine R_geti (Dat dd_Rule_pairsShaken 47 rfl) rfl rfl (tok g9) ?_
    refine R_iconst (Dat dd_Rule_pairsShaken 48 rfl) ?_
    refine R_iadd (Dat dd_Rule_pairsShaken 49 rfl) ?_
    obtain ⟨g10, T⟩ := T
    refine R_puti (Dat dd_Rule_pairsShaken 50 rfl) rfl rfl rfl (tok g10) rfl (v := wr ((iv h a0 1) + 1)) rfl ?_
    refine R_iinc (Dat dd_Rule_pairsShaken 51 rfl) rfl rfl rfl ?_
    refine R_goto (Dat dd_Rule_pairsShaken 52 rfl) rfl ?_
    exact T
  · replace T := T.2 c
    refine R_iinc (Dat dd_Rule_pairsShaken 51 rfl) rfl rfl rfl ?_
    refine R_goto (Dat dd_Rule_pairsShaken 52 rfl) rfl ?_
    exact T
def dl_Box_lieOf : List (Nat × Instr × Nat) := [(0, .iconst 0, 1), (1, .istore_n 2, 1), (2, .iconst 1, 1), (3, .aload_n 0, 1), (4, .getfield 25, 3), (7, .ishl, 1), (8, .iconst 1, 1), (9, .isub, 1), (10, .istore_n 3, 1), (11, .iconst 0, 1), (12, .istore 4, 2), (14, .iload 4, 2), (16, .aload_n 0, 1), (17, .getfield 25, 3), (20, .if_icmp .ge 52, 3), (23, .iconst 1, 1), (24, .iload_n 1, 1), (25, .iload 4, 2), (27, .invokestatic 70, 3), (30, .ishl, 1), (31, .istore 5, 2), (33, .iload_n 2, 1), (34, .iload_n 3, 1), (35, .iload 5, 2), (37, .iconst 1, 1), (38, .isub, 1), (39, .iand, 1), (40, .invokestatic 74, 3), (43, .getstatic 37, 3), (46, .aload_n 0, 1), (47, .getfield 25, 3), (50, .iconst 1, 1), (51, .isub, 1), (52, .iload 4, 2), (54, .isub, 1), (55, .iaload, 1), (56, .imul, 1), (57, .iadd, 1), (58, .istore_n 2, 1), (59, .iload_n 3, 1), (60, .iload 5, 2), (62, .iconst (-1), 1), (63, .ixor, 1), (64, .iand, 1), (65, .istore_n 3, 1), (66, .iinc 4 1, 3), (69, .goto (-55), 3), (72, .iload_n 2, 1), (73, .ireturn, 1)]
theorem dd_Box_lieOf : Dall 63 dl_Box_lieOf = true := by decide +kernel
theorem t_Box_lieOf {h : Hp} {P : Value → Hp → Prop} {p0 : Int} (S : XS h) (T : R 63 14 [.ref 1, .int (I p0), .int (I 0), .int (I ((shl 1 (iv h 1 1)) - 1)), .int (I 0), .retAddr 0] [] h P) : R 63 0 [.ref 1, .int (I p0), .retAddr 0, .retAddr 0, .retAddr 0, .retAddr 0] [] h P := by
  refine R_iconst (Dat dd_Box_lieOf 0 rfl) ?_
  refine R_istore_n (Dat dd_Box_lieOf 1 rfl) rfl rfl ?_
  refine R_iconst (Dat dd_Box_lieOf 2 rfl) ?_
  refine R_aload_n (Dat dd_Box_lieOf 3 rfl) rfl rfl ?_
  refine R_geti (Dat dd_Box_lieOf 4 rfl) rfl rfl (tok S.t1) ?_
  refine R_ishl (Dat dd_Box_lieOf 5 rfl) ?_
  refine R_iconst (Dat dd_Box_lieOf 6 rfl) ?_
  refine R_isub (Dat dd_Box_lieOf 7 rfl) ?_
  refine R_istore_n (Dat dd_Box_lieOf 8 rfl) rfl rfl ?_
  refine R_iconst (Dat dd_Box_lieOf 9 rfl) ?_
  refine R_istore (Dat dd_Box_lieOf 10 rfl) rfl rfl ?_
  exact T
theorem t_Box_lieOf_14 {h : Hp} {P : Value → Hp → Prop} {a1 a2 a3 a4 : Int} {a5 : Value} (S : XS h) (T : (rng a4) ∧ (rng (iv h 1 1)) ∧ ((a4 < (iv h 1 1) → R 32 0 [.int (I a1), .int (I a4)] [] h (fun v h2 => R 63 30 [.ref 1, .int (I a1), .int (I a2), .int (I a3), .int (I a4), a5] (v :: [.int (I 1)]) h2 P)) ∧ (¬ a4 < (iv h 1 1) → P (.int (I a2)) h))) : R 63 14 [.ref 1, .int (I a1), .int (I a2), .int (I a3), .int (I a4), a5] [] h P := by
  refine R_iload (Dat dd_Box_lieOf 11 rfl) rfl ?_
  refine R_aload_n (Dat dd_Box_lieOf 12 rfl) rfl rfl ?_
  refine R_geti (Dat dd_Box_lieOf 13 rfl) rfl rfl (tok S.t1) ?_
  obtain ⟨g1, T⟩ := T
  obtain ⟨g2, T⟩ := T
  refine R_ic_ge (Dat dd_Box_lieOf 14 rfl) rfl g1 g2 (fun c => ?_) (fun c => ?_)
  · replace T := T.1 c
    refine R_iconst (Dat dd_Box_lieOf 15 rfl) ?_
    refine R_iload_n (Dat dd_Box_lieOf 16 rfl) rfl ?_
    refine R_iload (Dat dd_Box_lieOf 17 rfl) rfl ?_
    exact R_call0 (Dat dd_Box_lieOf 18 rfl) rfl rfl rfl rfl rfl rfl T
  · replace T := T.2 c
    refine R_iload_n (Dat dd_Box_lieOf 47 rfl) rfl ?_
    exact R_ireturn (Dat dd_Box_lieOf 48 rfl) rfl T
theorem t_Box_lieOf_30 {h : Hp} {P : Value → Hp → Prop} {a1 a2 a3 a4 s0 s1 : Int} {a5 : Value} (S : XS h) (T : R 64 0 [.int (I (band a3 ((shl s1 s0) - 1)))] [] h (fun v h2 => R 63 43 [.ref 1, .int (I a1), .int (I a2), .int (I a3), .int (I a4), .int (I (shl s1 s0))] (v :: [.int (I a2)]) h2 P)) : R 63 30 [.ref 1, .int (I a1), .int (I a2), .int (I a3), .int (I a4), a5] [.int (I s0), .int (I s1)] h P := by
  refine R_ishl (Dat dd_Box_lieOf 19 rfl) ?_
  refine R_istore (Dat dd_Box_lieOf 20 rfl) rfl rfl ?_
  refine R_iload_n (Dat dd_Box_lieOf 21 rfl) rfl ?_
  refine R_iload_n (Dat dd_Box_lieOf 22 rfl) rfl ?_
  refine R_iload (Dat dd_Box_lieOf 23 rfl) rfl ?_
  refine R_iconst (Dat dd_Box_lieOf 24 rfl) ?_
  refine R_isub (Dat dd_Box_lieOf 25 rfl) ?_
  refine R_iand (Dat dd_Box_lieOf 26 rfl) ?_
  exact R_call0 (Dat dd_Box_lieOf 27 rfl) rfl rfl rfl rfl rfl rfl T
theorem t_Box_lieOf_43 {h : Hp} {P : Value → Hp → Prop} {a1 a3 a4 a5 s0 s1 : Int} {a2 : Value} (S : XS h) (T : (0 ≤ (((iv h 1 1) - 1) - a4)) ∧ ((((iv h 1 1) - 1) - a4) < 8) ∧ R 63 14 [.ref 1, .int (I a1), .int (I (s1 + (s0 * (iv h 500 (((iv h 1 1) - 1) - a4))))), .int (I (band a3 (bxor a5 (-1)))), .int (I (a4 + 1)), .int (I a5)] [] h P) : R 63 43 [.ref 1, .int (I a1), a2, .int (I a3), .int (I a4), .int (I a5)] [.int (I s0), .int (I s1)] h P := by
  refine R_getst (Dat dd_Box_lieOf 28 rfl) (r := 500) rfl S.t500 ?_
  refine R_aload_n (Dat dd_Box_lieOf 29 rfl) rfl rfl ?_
  refine R_geti (Dat dd_Box_lieOf 30 rfl) rfl rfl (tok S.t1) ?_
  refine R_iconst (Dat dd_Box_lieOf 31 rfl) ?_
  refine R_isub (Dat dd_Box_lieOf 32 rfl) ?_
  refine R_iload (Dat dd_Box_lieOf 33 rfl) rfl ?_
  refine R_isub (Dat dd_Box_lieOf 34 rfl) ?_
  obtain ⟨g1, T⟩ := T
  obtain ⟨g2, T⟩ := T
  refine R_iaload (Dat dd_Box_lieOf 35 rfl) (Or.inr S.t500) (lnle (show ln h 500 = 8 from S.l500) (by decide)) g1 (lnlt (show ln h 500 = 8 from S.l500) g2) ?_
  refine R_imul (Dat dd_Box_lieOf 36 rfl) ?_
  refine R_iadd (Dat dd_Box_lieOf 37 rfl) ?_
  refine R_istore_n (Dat dd_Box_lieOf 38 rfl) rfl rfl ?_
  refine R_iload_n (Dat dd_Box_lieOf 39 rfl) rfl ?_
  refine R_iload (Dat dd_Box_lieOf 40 rfl) rfl ?_
  refine R_iconst (Dat dd_Box_lieOf 41 rfl) ?_
  refine R_ixor (Dat dd_Box_lieOf 42 rfl) ?_
  refine R_iand (Dat dd_Box_lieOf 43 rfl) ?_
  refine R_istore_n (Dat dd_Box_lieOf 44 rfl) rfl rfl ?_
  refine R_iinc (Dat dd_Box_lieOf 45 rfl) rfl rfl rfl ?_
  refine R_goto (Dat dd_Box_lieOf 46 rfl) rfl ?_
  exact T
def dl_Box_turnedRow : List (Nat × Instr × Nat) := [(0, .iconst 0, 1), (1, .istore_n 2, 1), (2, .iconst 0, 1), (3, .istore_n 3, 1), (4, .iload_n 3, 1), (5, .aload_n 0, 1), (6, .getfield 25, 3), (9, .if_icmp .ge 19, 3), (12, .iload_n 2, 1), (13, .iconst 3, 1), (14, .ishl, 1), (15, .iload_n 1, 1), (16, .iload_n 3, 1), (17, .invokestatic 70, 3), (20, .ior, 1), (21, .istore_n 2, 1), (22, .iinc 3 1, 3), (25, .goto (-21), 3), (28, .iload_n 2, 1), (29, .ireturn, 1)]
theorem dd_Box_turnedRow : Dall 69 dl_Box_turnedRow = true := by decide +kernel
theorem t_Box_turnedRow {h : Hp} {P : Value → Hp → Prop} {p0 : Int} (S : XS h) (T : R 69 4 [.ref 1, .int (I p0), .int (I 0), .int (I 0)] [] h P) : R 69 0 [.ref 1, .int (I p0), .retAddr 0, .retAddr 0] [] h P := by
  refine R_iconst (Dat dd_Box_turnedRow 0 rfl) ?_
  refine R_istore_n (Dat dd_Box_turnedRow 1 rfl) rfl rfl ?_
  refine R_iconst (Dat dd_Box_turnedRow 2 rfl) ?_
  refine R_istore_n (Dat dd_Box_turnedRow 3 rfl) rfl rfl ?_
  exact T
theorem t_Box_turnedRow_4 {h : Hp} {P : Value → Hp → Prop} {a1 a2 a3 : Int} (S : XS h) (T : (rng a3) ∧ (rng (iv h 1 1)) ∧ ((a3 < (iv h 1 1) → R 32 0 [.int (I a1), .int (I a3)] [] h (fun v h2 => R 69 20 [.ref 1, .int (I a1), .int (I a2), .int (I a3)] (v :: [.int (I (shl a2 3))]) h2 P)) ∧ (¬ a3 < (iv h 1 1) → P (.int (I a2)) h))) : R 69 4 [.ref 1, .int (I a1), .int (I a2), .int (I a3)] [] h P := by
  refine R_iload_n (Dat dd_Box_turnedRow 4 rfl) rfl ?_
  refine R_aload_n (Dat dd_Box_turnedRow 5 rfl) rfl rfl ?_
  refine R_geti (Dat dd_Box_turnedRow 6 rfl) rfl rfl (tok S.t1) ?_
  obtain ⟨g1, T⟩ := T
  obtain ⟨g2, T⟩ := T
  refine R_ic_ge (Dat dd_Box_turnedRow 7 rfl) rfl g1 g2 (fun c => ?_) (fun c => ?_)
  · replace T := T.1 c
    refine R_iload_n (Dat dd_Box_turnedRow 8 rfl) rfl ?_
    refine R_iconst (Dat dd_Box_turnedRow 9 rfl) ?_
    refine R_ishl (Dat dd_Box_turnedRow 10 rfl) ?_
    refine R_iload_n (Dat dd_Box_turnedRow 11 rfl) rfl ?_
    refine R_iload_n (Dat dd_Box_turnedRow 12 rfl) rfl ?_
    exact R_call0 (Dat dd_Box_turnedRow 13 rfl) rfl rfl rfl rfl rfl rfl T
  · replace T := T.2 c
    refine R_iload_n (Dat dd_Box_turnedRow 18 rfl) rfl ?_
    exact R_ireturn (Dat dd_Box_turnedRow 19 rfl) rfl T
theorem t_Box_turnedRow_20 {h : Hp} {P : Value → Hp → Prop} {a1 a3 s0 s1 : Int} {a2 : Value} (S : XS h) (T : R 69 4 [.ref 1, .int (I a1), .int (I (bor s1 s0)), .int (I (a3 + 1))] [] h P) : R 69 20 [.ref 1, .int (I a1), a2, .int (I a3)] [.int (I s0), .int (I s1)] h P := by
  refine R_ior (Dat dd_Box_turnedRow 14 rfl) ?_
  refine R_istore_n (Dat dd_Box_turnedRow 15 rfl) rfl rfl ?_
  refine R_iinc (Dat dd_Box_turnedRow 16 rfl) rfl rfl rfl ?_
  refine R_goto (Dat dd_Box_turnedRow 17 rfl) rfl ?_
  exact T
def dl_Box_spoonedRow : List (Nat × Instr × Nat) := [(0, .iload_n 1, 1), (1, .iconst 3, 1), (2, .ishr, 1), (3, .iload_n 1, 1), (4, .iconst 0, 1), (5, .invokestatic 70, 3), (8, .iconst 3, 1), (9, .aload_n 0, 1), (10, .getfield 25, 3), (13, .iconst 1, 1), (14, .isub, 1), (15, .imul, 1), (16, .ishl, 1), (17, .ior, 1), (18, .ireturn, 1)]
theorem dd_Box_spoonedRow : Dall 72 dl_Box_spoonedRow = true := by decide +kernel
theorem t_Box_spoonedRow {h : Hp} {P : Value → Hp → Prop} {p0 : Int} (S : XS h) (T : R 32 0 [.int (I p0), .int (I 0)] [] h (fun v h2 => R 72 8 [.ref 1, .int (I p0)] (v :: [.int (I (shr p0 3))]) h2 P)) : R 72 0 [.ref 1, .int (I p0)] [] h P := by
  refine R_iload_n (Dat dd_Box_spoonedRow 0 rfl) rfl ?_
  refine R_iconst (Dat dd_Box_spoonedRow 1 rfl) ?_
  refine R_ishr (Dat dd_Box_spoonedRow 2 rfl) ?_
  refine R_iload_n (Dat dd_Box_spoonedRow 3 rfl) rfl ?_
  refine R_iconst (Dat dd_Box_spoonedRow 4 rfl) ?_
  exact R_call0 (Dat dd_Box_spoonedRow 5 rfl) rfl rfl rfl rfl rfl rfl T
theorem t_Box_spoonedRow_8 {h : Hp} {P : Value → Hp → Prop} {s0 s1 : Int} {a1 : Value} (S : XS h) (T : P (.int (I (bor s1 (shl s0 (3 * ((iv h 1 1) - 1)))))) h) : R 72 8 [.ref 1, a1] [.int (I s0), .int (I s1)] h P := by
  refine R_iconst (Dat dd_Box_spoonedRow 6 rfl) ?_
  refine R_aload_n (Dat dd_Box_spoonedRow 7 rfl) rfl rfl ?_
  refine R_geti (Dat dd_Box_spoonedRow 8 rfl) rfl rfl (tok S.t1) ?_
  refine R_iconst (Dat dd_Box_spoonedRow 9 rfl) ?_
  refine R_isub (Dat dd_Box_spoonedRow 10 rfl) ?_
  refine R_imul (Dat dd_Box_spoonedRow 11 rfl) ?_
  refine R_ishl (Dat dd_Box_spoonedRow 12 rfl) ?_
  refine R_ior (Dat dd_Box_spoonedRow 13 rfl) ?_
  exact R_ireturn (Dat dd_Box_spoonedRow 14 rfl) rfl T
def dl_Motion_after : List (Nat × Instr × Nat) := [(0, .aload_n 0, 1), (1, .getfield 16, 3), (4, .iload_n 2, 1), (5, .iaload, 1), (6, .ifCond .ne 31, 3), (9, .aload_n 0, 1), (10, .getfield 16, 3), (13, .iload_n 2, 1), (14, .aload_n 1, 1), (15, .aload_n 0, 1), (16, .getfield 10, 3), (19, .aload_n 1, 1), (20, .iload_n 2, 1), (21, .invokevirtual 32, 3), (24, .aload_n 1, 1), (25, .getfield 38, 3), (28, .invokevirtual 42, 3), (31, .invokevirtual 46, 3), (34, .iconst 1, 1), (35, .iadd, 1), (36, .iastore, 1), (37, .aload_n 0, 1), (38, .getfield 16, 3), (41, .iload_n 2, 1), (42, .iaload, 1), (43, .iconst 1, 1), (44, .isub, 1), (45, .ireturn, 1)]
theorem dd_Motion_after : Dall 74 dl_Motion_after = true := by decide +kernel
theorem t_Motion_after {h : Hp} {P : Value → Hp → Prop} {p1 : Int} {r p0 : Nat} (T : (tg h r = 6) ∧ (fl h r 1 = true) ∧ (tg h (child r 1) ≠ 0) ∧ (tg h (child r 1) = 20 ∨ tg h (child r 1) = 30) ∧ ((ln h (child r 1) : Int) ≤ 2147483648) ∧ (0 ≤ p1) ∧ (p1 < ln h (child r 1)) ∧ (rng (iv h (child r 1) p1)) ∧ (((iv h (child r 1) p1) = 0 → (tg h r = 6) ∧ (fl h r 1 = true) ∧ (tg h (child r 1) ≠ 0) ∧ (tg h r = 6) ∧ (fl h r 0 = true) ∧ (tg h (child r 0) ≠ 0) ∧ (tg h p0 = 1) ∧ R 29 0 [.ref p0, .int (I p1)] [] h (fun v h2 => R 74 24 [.ref r, .ref p0, .int (I p1)] (v :: [.ref (child r 0), .ref p0, .int (I p1), .ref (child r 1)]) h2 P)) ∧ (¬ (iv h (child r 1) p1) = 0 → (tg h r = 6) ∧ (fl h r 1 = true) ∧ (tg h (child r 1) ≠ 0) ∧ (tg h (child r 1) = 20 ∨ tg h (child r 1) = 30) ∧ ((ln h (child r 1) : Int) ≤ 2147483648) ∧ (0 ≤ p1) ∧ (p1 < ln h (child r 1)) ∧ P (.int (I ((iv h (child r 1) p1) - 1))) h))) : R 74 0 [.ref r, .ref p0, .int (I p1)] [] h P := by
  refine R_aload_n (Dat dd_Motion_after 0 rfl) rfl rfl ?_
  obtain ⟨g1, T⟩ := T
  obtain ⟨g2, T⟩ := T
  obtain ⟨g3, T⟩ := T
  refine R_getr (Dat dd_Motion_after 1 rfl) rfl rfl (tok g1) g2 (q := child r 1) rfl g3 ?_
  refine R_iload_n (Dat dd_Motion_after 2 rfl) rfl ?_
  obtain ⟨g4, T⟩ := T
  obtain ⟨g5, T⟩ := T
  obtain ⟨g6, T⟩ := T
  obtain ⟨g7, T⟩ := T
  refine R_iaload (Dat dd_Motion_after 3 rfl) g4 g5 g6 g7 ?_
  obtain ⟨g8, T⟩ := T
  refine R_if_ne (Dat dd_Motion_after 4 rfl) rfl g8  (fun c => ?_) (fun c => ?_)
  · replace T := T.1 c
    refine R_aload_n (Dat dd_Motion_after 5 rfl) rfl rfl ?_
    obtain ⟨g9, T⟩ := T
    obtain ⟨g10, T⟩ := T
    obtain ⟨g11, T⟩ := T
    refine R_getr (Dat dd_Motion_after 6 rfl) rfl rfl (tok g9) g10 (q := child r 1) rfl g11 ?_
    refine R_iload_n (Dat dd_Motion_after 7 rfl) rfl ?_
    refine R_aload_n (Dat dd_Motion_after 8 rfl) rfl rfl ?_
    refine R_aload_n (Dat dd_Motion_after 9 rfl) rfl rfl ?_
    obtain ⟨g12, T⟩ := T
    obtain ⟨g13, T⟩ := T
    obtain ⟨g14, T⟩ := T
    refine R_getr (Dat dd_Motion_after 10 rfl) rfl rfl (tok g12) g13 (q := child r 0) rfl g14 ?_
    refine R_aload_n (Dat dd_Motion_after 11 rfl) rfl rfl ?_
    refine R_iload_n (Dat dd_Motion_after 12 rfl) rfl ?_
    obtain ⟨g15, T⟩ := T
    exact R_call1 (Dat dd_Motion_after 13 rfl) rfl g15 rfl rfl rfl rfl rfl T
  · replace T := T.2 c
    refine R_aload_n (Dat dd_Motion_after 21 rfl) rfl rfl ?_
    obtain ⟨g16, T⟩ := T
    obtain ⟨g17, T⟩ := T
    obtain ⟨g18, T⟩ := T
    refine R_getr (Dat dd_Motion_after 22 rfl) rfl rfl (tok g16) g17 (q := child r 1) rfl g18 ?_
    refine R_iload_n (Dat dd_Motion_after 23 rfl) rfl ?_
    obtain ⟨g19, T⟩ := T
    obtain ⟨g20, T⟩ := T
    obtain ⟨g21, T⟩ := T
    obtain ⟨g22, T⟩ := T
    refine R_iaload (Dat dd_Motion_after 24 rfl) g19 g20 g21 g22 ?_
    refine R_iconst (Dat dd_Motion_after 25 rfl) ?_
    refine R_isub (Dat dd_Motion_after 26 rfl) ?_
    exact R_ireturn (Dat dd_Motion_after 27 rfl) rfl T
theorem t_Motion_after_24 {h : Hp} {P : Value → Hp → Prop} {a2 s0 s3 : Int} {a0 a1 s1 s2 s4 : Nat} (T : (tg h a1 = 1) ∧ (tg h s1 = 8) ∧ R 61 0 [.ref s1, .int (I s0), .int (I (iv h a1 1))] [] h (fun v h2 => R 74 31 [.ref a0, .ref a1, .int (I a2)] (v :: [.ref s2, .int (I s3), .ref s4]) h2 P)) : R 74 24 [.ref a0, .ref a1, .int (I a2)] [.int (I s0), .ref s1, .ref s2, .int (I s3), .ref s4] h P := by
  refine R_aload_n (Dat dd_Motion_after 14 rfl) rfl rfl ?_
  obtain ⟨g1, T⟩ := T
  refine R_geti (Dat dd_Motion_after 15 rfl) rfl rfl (tok g1) ?_
  obtain ⟨g2, T⟩ := T
  exact R_call1 (Dat dd_Motion_after 16 rfl) rfl g2 rfl rfl rfl rfl rfl T
theorem t_Motion_after_31 {h : Hp} {P : Value → Hp → Prop} {a2 s0 s2 : Int} {a0 s1 s3 : Nat} {a1 : Value} (T : (tg h s1 = 1) ∧ R 63 0 [.ref s1, .int (I s0), .retAddr 0, .retAddr 0, .retAddr 0, .retAddr 0] [] h (fun v h2 => R 74 34 [.ref a0, a1, .int (I a2)] (v :: [.int (I s2), .ref s3]) h2 P)) : R 74 31 [.ref a0, a1, .int (I a2)] [.int (I s0), .ref s1, .int (I s2), .ref s3] h P := by
  obtain ⟨g1, T⟩ := T
  exact R_call1 (Dat dd_Motion_after 17 rfl) rfl g1 rfl rfl rfl rfl rfl T
theorem t_Motion_after_34 {h : Hp} {P : Value → Hp → Prop} {a2 s0 s1 : Int} {a0 s2 : Nat} {a1 : Value} (T : (tg h s2 = 20) ∧ ((ln h s2 : Int) ≤ 2147483648) ∧ (0 ≤ s1) ∧ (s1 < ln h s2) ∧ (tg (setI h s2 s1 (wr (s0 + 1))) a0 = 6) ∧ (fl (setI h s2 s1 (wr (s0 + 1))) a0 1 = true) ∧ (tg (setI h s2 s1 (wr (s0 + 1))) (child a0 1) ≠ 0) ∧ (tg (setI h s2 s1 (wr (s0 + 1))) (child a0 1) = 20 ∨ tg (setI h s2 s1 (wr (s0 + 1))) (child a0 1) = 30) ∧ ((ln (setI h s2 s1 (wr (s0 + 1))) (child a0 1) : Int) ≤ 2147483648) ∧ (0 ≤ a2) ∧ (a2 < ln (setI h s2 s1 (wr (s0 + 1))) (child a0 1)) ∧ P (.int (I ((iv (setI h s2 s1 (wr (s0 + 1))) (child a0 1) a2) - 1))) (setI h s2 s1 (wr (s0 + 1)))) : R 74 34 [.ref a0, a1, .int (I a2)] [.int (I s0), .int (I s1), .ref s2] h P := by
  refine R_iconst (Dat dd_Motion_after 18 rfl) ?_
  refine R_iadd (Dat dd_Motion_after 19 rfl) ?_
  obtain ⟨g1, T⟩ := T
  obtain ⟨g2, T⟩ := T
  obtain ⟨g3, T⟩ := T
  obtain ⟨g4, T⟩ := T
  refine R_iastore (Dat dd_Motion_after 20 rfl) g1 g2 g3 g4 (v := wr (s0 + 1)) rfl ?_
  refine R_aload_n (Dat dd_Motion_after 21 rfl) rfl rfl ?_
  obtain ⟨g5, T⟩ := T
  obtain ⟨g6, T⟩ := T
  obtain ⟨g7, T⟩ := T
  refine R_getr (Dat dd_Motion_after 22 rfl) rfl rfl (tok g5) g6 (q := child a0 1) rfl g7 ?_
  refine R_iload_n (Dat dd_Motion_after 23 rfl) rfl ?_
  obtain ⟨g8, T⟩ := T
  obtain ⟨g9, T⟩ := T
  obtain ⟨g10, T⟩ := T
  obtain ⟨g11, T⟩ := T
  refine R_iaload (Dat dd_Motion_after 24 rfl) g8 g9 g10 g11 ?_
  refine R_iconst (Dat dd_Motion_after 25 rfl) ?_
  refine R_isub (Dat dd_Motion_after 26 rfl) ?_
  exact R_ireturn (Dat dd_Motion_after 27 rfl) rfl T
