theorem R_lsw {m pc : Nat} {ls st : List Value} {h : Hp} {P : Value → Hp → Prop} {d off : Int} {ps : Array (Int × Int)} {len t : Nat} {a : Int} (hd : Dd m pc (.lookupswitch d ps) len) (hs : ((ps.toList.zip (ps.toList.drop 1)).all (fun (a, next) => a.1 < next.1)) = true) (ha : rng a) (ho : Op.lookupswitch.offset ps.toList d a = off) (ht : (pc : Int) + off = (t : Int)) (k : R m t ls st h P) : R m pc ls (.int (I a) :: st) h P := R_go hd (fun go call => by
  simp only [stp, i1, I_toInt ha, ho, hs, gd_t]
  exact jmp_go ht) k
theorem lsw_def {d a : Int} : ∀ {ps : List (Int × Int)}, (∀ q ∈ ps, ¬ q.1 = a) → Op.lookupswitch.offset ps d a = d
  | [], _ => rfl
  | (x, o) :: l, h => by
    rw [Op.lookupswitch.offset_cons, if_neg (h _ List.mem_cons_self)]
    exact lsw_def (fun q hq => h q (List.mem_cons_of_mem _ hq))

def dl_Arrays_rangeCheck : List (Nat × Instr × Nat) := [(0, .iload_n 1, 1), (1, .iload_n 2, 1), (2, .if_icmp .le 44, 3), (46, .iload_n 1, 1), (47, .ifCond .ge 12, 3), (59, .iload_n 2, 1), (60, .iload_n 0, 1), (61, .if_icmp .le 12, 3), (73, .return_, 1)]
theorem dd_Arrays_rangeCheck : Dall 61 dl_Arrays_rangeCheck = true := by decide +kernel
theorem t_Arrays_rangeCheck {h : Hp} {P : Value → Hp → Prop} {p0 p1 p2 : Int} (T : (rng p1) ∧ (rng p2) ∧ ((p2 < p1 → False) ∧ (¬ p2 < p1 → (rng p1) ∧ ((p1 < 0 → False) ∧ (¬ p1 < 0 → (rng p2) ∧ (rng p0) ∧ ((p0 < p2 → False) ∧ (¬ p0 < p2 → P .null h))))))) : R 61 0 [.int (I p0), .int (I p1), .int (I p2)] [] h P := by
  refine R_iload_n (Dat dd_Arrays_rangeCheck 0 rfl) rfl ?_
  refine R_iload_n (Dat dd_Arrays_rangeCheck 1 rfl) rfl ?_
  obtain ⟨g1, T⟩ := T
  obtain ⟨g2, T⟩ := T
  refine R_ic_le (Dat dd_Arrays_rangeCheck 2 rfl) rfl g1 g2 (fun c => ?_) (fun c => ?_)
  · replace T := T.1 c
    exact T.elim
  · replace T := T.2 c
    refine R_iload_n (Dat dd_Arrays_rangeCheck 3 rfl) rfl ?_
    obtain ⟨g3, T⟩ := T
    refine R_if_ge (Dat dd_Arrays_rangeCheck 4 rfl) rfl g3  (fun c => ?_) (fun c => ?_)
    · replace T := T.1 c
      exact T.elim
    · replace T := T.2 c
      refine R_iload_n (Dat dd_Arrays_rangeCheck 5 rfl) rfl ?_
      refine R_iload_n (Dat dd_Arrays_rangeCheck 6 rfl) rfl ?_
      obtain ⟨g4, T⟩ := T
      obtain ⟨g5, T⟩ := T
      refine R_ic_le (Dat dd_Arrays_rangeCheck 7 rfl) rfl g4 g5 (fun c => ?_) (fun c => ?_)
      · replace T := T.1 c
        exact T.elim
      · replace T := T.2 c
        exact R_return (Dat dd_Arrays_rangeCheck 8 rfl) rfl T
def dl_Y_tell : List (Nat × Instr × Nat) := [(0, .aload_n 0, 1), (1, .iload_n 1, 1), (2, .invokevirtual 142, 3), (5, .ifCond .ne 5, 3), (8, .iconst (-1), 1), (9, .ireturn, 1), (10, .aload_n 0, 1), (11, .getfield 19, 3), (14, .iload_n 1, 1), (15, .iaload, 1), (16, .istore_n 2, 1), (17, .aload_n 0, 1), (18, .getfield 25, 3), (21, .iload_n 1, 1), (22, .iaload, 1), (23, .lookupswitch 67 #[(1, 25), (2, 40)], 25), (48, .aload_n 0, 1), (49, .iconst 2, 1), (50, .invokevirtual 260, 3), (53, .aload_n 0, 1), (54, .iconst 1, 1), (55, .invokevirtual 260, 3), (58, .iload_n 2, 1), (59, .bipush 100, 2), (61, .iadd, 1), (62, .ireturn, 1), (63, .aload_n 0, 1), (64, .iconst 3, 1), (65, .invokevirtual 260, 3), (68, .aload_n 0, 1), (69, .iconst 2, 1), (70, .invokevirtual 260, 3), (73, .aload_n 0, 1), (74, .iconst 1, 1), (75, .invokevirtual 260, 3), (78, .aload_n 0, 1), (79, .iconst 1, 1), (80, .invokevirtual 260, 3), (83, .iconst 2, 1), (84, .iload_n 2, 1), (85, .imul, 1), (86, .bipush 100, 2), (88, .iadd, 1), (89, .ireturn, 1), (90, .aload_n 0, 1), (91, .iconst 1, 1), (92, .invokevirtual 260, 3), (95, .iload_n 2, 1), (96, .ireturn, 1)]
theorem dd_Y_tell : Dall 201 dl_Y_tell = true := by decide +kernel
theorem t_Y_tell {h : Hp} {P : Value → Hp → Prop} {p0 : Int} (S : YS h) (T : R 137 0 [.ref 400, .int (I p0)] [] h (fun v h2 => R 201 5 [.ref 400, .int (I p0), .retAddr 0] (v :: []) h2 P)) : R 201 0 [.ref 400, .int (I p0), .retAddr 0] [] h P := by
  refine R_aload_n (Dat dd_Y_tell 0 rfl) rfl rfl ?_
  refine R_iload_n (Dat dd_Y_tell 1 rfl) rfl ?_
  exact R_call1 (Dat dd_Y_tell 2 rfl) rfl S.t400 rfl rfl rfl rfl rfl T
theorem t_Y_tell_5 {h : Hp} {P : Value → Hp → Prop} {a1 s0 : Int} {a2 : Value} (S : YS h) (T : (rng s0) ∧ ((s0 = 0 → P (.int (I (-1))) h) ∧ (¬ s0 = 0 → (0 ≤ a1) ∧ (a1 < 7) ∧ (0 ≤ a1) ∧ (a1 < 7) ∧ (rng (iv h 412 a1)) ∧ ((((iv h 412 a1) = 1 → R 202 0 [.ref 400, .int (I 2)] [] h (fun _ h2 => R 201 53 [.ref 400, .int (I a1), .int (I (iv h 410 a1))] [] h2 P)) ∧ ((iv h 412 a1) = 2 → R 202 0 [.ref 400, .int (I 3)] [] h (fun _ h2 => R 201 68 [.ref 400, .int (I a1), .int (I (iv h 410 a1))] [] h2 P))) ∧ (¬ ((iv h 412 a1) = 1 ∨ (iv h 412 a1) = 2) → R 202 0 [.ref 400, .int (I 1)] [] h (fun _ h2 => R 201 95 [.ref 400, .int (I a1), .int (I (iv h 410 a1))] [] h2 P)))))) : R 201 5 [.ref 400, .int (I a1), a2] [.int (I s0)] h P := by
  obtain ⟨g1, T⟩ := T
  refine R_if_ne (Dat dd_Y_tell 3 rfl) rfl g1  (fun c => ?_) (fun c => ?_)
  · replace T := T.1 c
    refine R_iconst (Dat dd_Y_tell 4 rfl) ?_
    exact R_ireturn (Dat dd_Y_tell 5 rfl) rfl T
  · replace T := T.2 c
    refine R_aload_n (Dat dd_Y_tell 6 rfl) rfl rfl ?_
    refine R_getr (Dat dd_Y_tell 7 rfl) rfl rfl (tok S.t400) S.f400_9 (q := 410) rfl (tnz S.t410) ?_
    refine R_iload_n (Dat dd_Y_tell 8 rfl) rfl ?_
    obtain ⟨g2, T⟩ := T
    obtain ⟨g3, T⟩ := T
    refine R_iaload (Dat dd_Y_tell 9 rfl) (Or.inl S.t410) (lnle (show ln h 410 = 7 from S.l410) (by decide)) g2 (lnlt (show ln h 410 = 7 from S.l410) g3) ?_
    refine R_istore_n (Dat dd_Y_tell 10 rfl) rfl rfl ?_
    refine R_aload_n (Dat dd_Y_tell 11 rfl) rfl rfl ?_
    refine R_getr (Dat dd_Y_tell 12 rfl) rfl rfl (tok S.t400) S.f400_11 (q := 412) rfl (tnz S.t412) ?_
    refine R_iload_n (Dat dd_Y_tell 13 rfl) rfl ?_
    obtain ⟨g4, T⟩ := T
    obtain ⟨g5, T⟩ := T
    refine R_iaload (Dat dd_Y_tell 14 rfl) (Or.inl S.t412) (lnle (show ln h 412 = 7 from S.l412) (by decide)) g4 (lnlt (show ln h 412 = 7 from S.l412) g5) ?_
    obtain ⟨g6, T⟩ := T
    by_cases c0 : (iv h 412 a1) = 1 ∨ (iv h 412 a1) = 2
    · rcases c0 with c | c
      · replace T := T.1.1 c
        refine R_lsw (Dat dd_Y_tell 15 rfl) rfl g6 (off := 25) (t := 48) (by rw [c]; rfl) rfl ?_
        refine R_aload_n (Dat dd_Y_tell 16 rfl) rfl rfl ?_
        refine R_iconst (Dat dd_Y_tell 17 rfl) ?_
        exact R_call1 (Dat dd_Y_tell 18 rfl) rfl S.t400 rfl rfl rfl rfl rfl T
      · replace T := T.1.2 c
        refine R_lsw (Dat dd_Y_tell 15 rfl) rfl g6 (off := 40) (t := 63) (by rw [c]; rfl) rfl ?_
        refine R_aload_n (Dat dd_Y_tell 26 rfl) rfl rfl ?_
        refine R_iconst (Dat dd_Y_tell 27 rfl) ?_
        exact R_call1 (Dat dd_Y_tell 28 rfl) rfl S.t400 rfl rfl rfl rfl rfl T
    · replace T := T.2 c0
      refine R_lsw (Dat dd_Y_tell 15 rfl) rfl g6 (off := 67) (t := 90) (by exact lsw_def (by intro q hq; simp only [Array.toList, List.mem_cons, List.not_mem_nil, or_false] at hq; rcases hq with rfl | rfl <;> intro z <;> exact c0 (by simp at z; omega))) rfl ?_
      refine R_aload_n (Dat dd_Y_tell 44 rfl) rfl rfl ?_
      refine R_iconst (Dat dd_Y_tell 45 rfl) ?_
      exact R_call1 (Dat dd_Y_tell 46 rfl) rfl S.t400 rfl rfl rfl rfl rfl T
theorem t_Y_tell_53 {h : Hp} {P : Value → Hp → Prop} {a2 : Int} {a1 : Value} (S : YS h) (T : R 202 0 [.ref 400, .int (I 1)] [] h (fun _ h2 => R 201 58 [.ref 400, a1, .int (I a2)] [] h2 P)) : R 201 53 [.ref 400, a1, .int (I a2)] [] h P := by
  refine R_aload_n (Dat dd_Y_tell 19 rfl) rfl rfl ?_
  refine R_iconst (Dat dd_Y_tell 20 rfl) ?_
  exact R_call1 (Dat dd_Y_tell 21 rfl) rfl S.t400 rfl rfl rfl rfl rfl T
theorem t_Y_tell_68 {h : Hp} {P : Value → Hp → Prop} {a2 : Int} {a1 : Value} (S : YS h) (T : R 202 0 [.ref 400, .int (I 2)] [] h (fun _ h2 => R 201 73 [.ref 400, a1, .int (I a2)] [] h2 P)) : R 201 68 [.ref 400, a1, .int (I a2)] [] h P := by
  refine R_aload_n (Dat dd_Y_tell 29 rfl) rfl rfl ?_
  refine R_iconst (Dat dd_Y_tell 30 rfl) ?_
  exact R_call1 (Dat dd_Y_tell 31 rfl) rfl S.t400 rfl rfl rfl rfl rfl T
theorem t_Y_tell_95 {h : Hp} {P : Value → Hp → Prop} {a2 : Int} {a0 a1 : Value} (S : YS h) (T : P (.int (I a2)) h) : R 201 95 [a0, a1, .int (I a2)] [] h P := by
  refine R_iload_n (Dat dd_Y_tell 47 rfl) rfl ?_
  exact R_ireturn (Dat dd_Y_tell 48 rfl) rfl T
theorem t_Y_tell_58 {h : Hp} {P : Value → Hp → Prop} {a2 : Int} {a0 a1 : Value} (S : YS h) (T : P (.int (I (a2 + 100))) h) : R 201 58 [a0, a1, .int (I a2)] [] h P := by
  refine R_iload_n (Dat dd_Y_tell 22 rfl) rfl ?_
  refine R_bipush (Dat dd_Y_tell 23 rfl) (a := 100) rfl ?_
  refine R_iadd (Dat dd_Y_tell 24 rfl) ?_
  exact R_ireturn (Dat dd_Y_tell 25 rfl) rfl T
theorem t_Y_tell_73 {h : Hp} {P : Value → Hp → Prop} {a2 : Int} {a1 : Value} (S : YS h) (T : R 202 0 [.ref 400, .int (I 1)] [] h (fun _ h2 => R 201 78 [.ref 400, a1, .int (I a2)] [] h2 P)) : R 201 73 [.ref 400, a1, .int (I a2)] [] h P := by
  refine R_aload_n (Dat dd_Y_tell 32 rfl) rfl rfl ?_
  refine R_iconst (Dat dd_Y_tell 33 rfl) ?_
  exact R_call1 (Dat dd_Y_tell 34 rfl) rfl S.t400 rfl rfl rfl rfl rfl T
theorem t_Y_tell_78 {h : Hp} {P : Value → Hp → Prop} {a2 : Int} {a1 : Value} (S : YS h) (T : R 202 0 [.ref 400, .int (I 1)] [] h (fun _ h2 => R 201 83 [.ref 400, a1, .int (I a2)] [] h2 P)) : R 201 78 [.ref 400, a1, .int (I a2)] [] h P := by
  refine R_aload_n (Dat dd_Y_tell 35 rfl) rfl rfl ?_
  refine R_iconst (Dat dd_Y_tell 36 rfl) ?_
  exact R_call1 (Dat dd_Y_tell 37 rfl) rfl S.t400 rfl rfl rfl rfl rfl T
theorem t_Y_tell_83 {h : Hp} {P : Value → Hp → Prop} {a2 : Int} {a0 a1 : Value} (S : YS h) (T : P (.int (I ((2 * a2) + 100))) h) : R 201 83 [a0, a1, .int (I a2)] [] h P := by
  refine R_iconst (Dat dd_Y_tell 38 rfl) ?_
  refine R_iload_n (Dat dd_Y_tell 39 rfl) rfl ?_
  refine R_imul (Dat dd_Y_tell 40 rfl) ?_
  refine R_bipush (Dat dd_Y_tell 41 rfl) (a := 100) rfl ?_
  refine R_iadd (Dat dd_Y_tell 42 rfl) ?_
  exact R_ireturn (Dat dd_Y_tell 43 rfl) rfl T
