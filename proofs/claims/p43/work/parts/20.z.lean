theorem R_lsw {m pc : Nat} {ls st : List Value} {h : Hp} {P : Value → Hp → Prop} {d off : Int} {ps : Array (Int × Int)} {len t : Nat} {a : Int} (hd : Dd m pc (.lookupswitch d ps) len) (hs : ((ps.toList.zip (ps.toList.drop 1)).all (fun (a, next) => a.1 < next.1)) = true) (ha : rng a) (ho : Op.lookupswitch.offset ps.toList d a = off) (ht : (pc : Int) + off = (t : Int)) (k : R m t ls st h P) : R m pc ls (.int (I a) :: st) h P := R_go hd (fun go call => by
  simp only [stp, i1, I_toInt ha, ho, hs, gd_t]
  exact jmp_go ht) k
theorem lsw_def {d a : Int} : ∀ {ps : List (Int × Int)}, (∀ q ∈ ps, ¬ q.1 = a) → Op.lookupswitch.offset ps d a = d
  | [], _ => rfl
  | (x, o) :: l, h => by
    rw [Op.lookupswitch.offset_cons, if_neg (h _ List.mem_cons_self)]
    exact lsw_def (fun q hq => h q (List.mem_cons_of_mem _ hq))

def dl_Arrays_rangeCheck : List (Nat × Instr × Nat) := [(0, .iload_n 1, 1), (1, .iload_n 2, 1), (2, .if_icmp .le 44, 3), (46, .iload_n 1, 1), (47, .ifCond .ge 12, 3), (59, .iload_n 2, 1), (60, .iload_n 0, 1), (61, .if_icmp .le 12, 3), (73, .return_, 1)]
theorem dd_Arrays_rangeCheck : Dall 60 dl_Arrays_rangeCheck = true := by decide +kernel
theorem t_Arrays_rangeCheck {h : Hp} {P : Value → Hp → Prop} {p0 p1 p2 : Int} (T : (rng p1) ∧ (rng p2) ∧ ((p2 < p1 → False) ∧ (¬ p2 < p1 → (rng p1) ∧ ((p1 < 0 → False) ∧ (¬ p1 < 0 → (rng p2) ∧ (rng p0) ∧ ((p0 < p2 → False) ∧ (¬ p0 < p2 → P .null h))))))) : R 60 0 [.int (I p0), .int (I p1), .int (I p2)] [] h P := by
  refine R_iload_n (Dat dd_Arrays_rangeCheck 0 rfl) rfl ?_
  refine R_iload_n (Dat dd_Arrays_rangeCheck 1 rfl) rfl ?_
  obtain ⟨g1, T⟩ := T
  obtain ⟨g2, T⟩ := T
  refine R_ic_le (Dat dd_Arrays_rangeCheck 2 rfl) rfl g1 g2 (fun c => ?_) (fun c => ?_)
  · replace T := T.1 c
    exact T.elim
  · replace T := T.2 c
    refine R_iload_n (Dat dd_Arrays_rangeCheck 3 rfl) rfl ?_
    obtain ⟨g3, T⟩ := T
    refine R_if_ge (Dat dd_Arrays_rangeCheck 4 rfl) rfl g3  (fun c => ?_) (fun c => ?_)
    · replace T := T.1 c
      exact T.elim
    · replace T := T.2 c
      refine R_iload_n (Dat dd_Arrays_rangeCheck 5 rfl) rfl ?_
      refine R_iload_n (Dat dd_Arrays_rangeCheck 6 rfl) rfl ?_
      obtain ⟨g4, T⟩ := T
      obtain ⟨g5, T⟩ := T
      refine R_ic_le (Dat dd_Arrays_rangeCheck 7 rfl) rfl g4 g5 (fun c => ?_) (fun c => ?_)
      · replace T := T.1 c
        exact T.elim
      · replace T := T.2 c
        exact R_return (Dat dd_Arrays_rangeCheck 8 rfl) rfl T
