/-! The law's rows: opened. -/
theorem selg_ge {used : Nat} : ∀ (f k g : Nat), selg used f k g = 99 ∨ g ≤ selg used f k g
  | 0, _, _ => Or.inl rfl
  | f + 1, k, g => by
    rw [selg]
    by_cases c : (used >>> g) &&& 1 = 1
    · rw [if_pos c]
      have := selg_ge (used := used) f k (g + 1)
      omega
    · rw [if_neg c]
      by_cases c2 : k = 0
      · rw [if_pos c2]; omega
      · rw [if_neg c2]
        have := selg_ge (used := used) f (k - 1) (g + 1)
        omega
section OPEN
variable {n : Nat} {d : Nat → Nat → Int} {P : Value → Hp → Prop} {h : Hp}
/-- the product of the first numbers -/
theorem Lopen_prod {G W : Nat} (hn : 2 ≤ n ∧ n ≤ 7) (ag : AG n d G h) {a1 : Int} (kk : ∀ a7 : Value, R 96 34 [.ref G, .int (I a1), .ref W, .int (I (fct n : Nat)), .int (I a1), .int (I 0), .int (I 0), a7] [] h P) : ∀ (j m : Nat), 1 ≤ m → m + j = n → ∀ a5 a6 a7 : Value,
    R 96 5 [.ref G, .int (I a1), .ref W, .int (I (fct m : Nat)), .int (I ((m : Nat) + 1)), a5, a6, a7] [] h P := by
  obtain ⟨⟨gt, gl⟩, g24, ga⟩ := id ag
  intro j
  induction j with
  | zero =>
    intro m h1 hm a5 a6 a7
    refine t_L_open_5 ?_
    rw [g24, gl]
    refine ⟨Or.inl gt, by omega, by omega, by omega, by omega, fun _ => ?_, fun q => absurd (by omega) q⟩
    rw [show m = n by omega]
    exact kk _
  | succ j ih =>
    intro m h1 hm a5 a6 a7
    refine t_L_open_5 ?_
    rw [g24, gl]
    refine ⟨Or.inl gt, by omega, by omega, by omega, by omega, fun q => absurd q (by omega), fun _ => ?_⟩
    have z := ih (m + 1) (by omega) (by omega) a5 a6 a7
    have e : ((fct (m + 1) : Nat) : Int) = (fct m : Nat) * ((m : Nat) + 1) := by
      rw [fct, Int.natCast_mul, Int.natCast_add, Int.mul_comm]
      rfl
    rw [e, Int.natCast_add] at z
    exact z
/-- one place is filled -/
theorem Lopen_in {G W p k used s : Nat} (hn : 2 ≤ n ∧ n ≤ 7) (ag : AG n d G h) (wt : tg h W = 20) (wl : ln h W = 7) (hp : p < 7) (hs : s < n) (hu : used < 128) {a1 : Value} {rem : Nat} (hrem : rem < fct k) (hk : k ≤ 7) (kk : ∀ a7 : Value, R 96 115 [.ref G, a1, .ref W, .int (I (fct k : Nat)), .int (I (rem : Nat)), .int (I ((used ||| 1 <<< s : Nat) : Int)), .int (I (p : Nat)), a7] [] (setI h W (p : Nat) (s : Nat)) P) : ∀ (f x j : Nat) (left : Int), x + f = 8 → selg used f j x = s → left = ((j * fct k + rem : Nat) : Int) → j ≤ 7 →
    R 96 56 [.ref G, a1, .ref W, .int (I (fct k : Nat)), .int (I left), .int (I (used : Nat)), .int (I (p : Nat)), .int (I (x : Nat))] [] h P := by
  obtain ⟨⟨gt, gl⟩, g24, ga⟩ := id ag
  intro f
  induction f with
  | zero =>
    intro x j left hx hsel
    rw [selg] at hsel
    omega
  | succ f ih =>
    intro x j left hx hsel el hj
    have hxs : x ≤ s := by
      have := selg_ge (used := used) (f + 1) j x
      omega
    rw [selg] at hsel
    have b1 : shr (used : Nat) (x : Nat) = ((used >>> x : Nat) : Int) := shr_nat (by omega) (by omega)
    have hle := Nat.shiftRight_le used x
    have b2 : band ((used >>> x : Nat) : Int) 1 = ((used >>> x &&& 1 : Nat) : Int) := band_nat (b := 1) (by omega) (by decide)
    have h1 : used >>> x &&& 1 ≤ 1 := Nat.and_le_right
    have f5 : fct k ≤ 5040 := fct_le hk
    have jb : j * fct k ≤ 7 * 5040 := Nat.mul_le_mul hj f5
    have fp := fct_pos k
    refine t_L_open_56 ?_
    rw [g24, gl, b1, b2]
    refine ⟨Or.inl gt, by omega, by omega, by omega, by omega, fun _ => ⟨by omega, fun q => ?_, fun q => ⟨by omega, by omega, fun q2 => ?_, fun q2 => ?_⟩⟩, fun q => absurd (by omega) q⟩
    · rw [if_pos (by omega)] at hsel
      exact t_L_open_109 (ih (x + 1) j left (by omega) hsel el hj)
    · have j0 : j = 0 := by
        apply Classical.byContradiction
        intro z
        have : 1 * fct k ≤ j * fct k := Nat.mul_le_mul_right _ (by omega)
        omega
      subst j0
      rw [if_neg (by omega), if_pos rfl] at hsel
      subst hsel
      have e1 : shl 1 (x : Nat) = ((1 <<< x : Nat) : Int) := by
        have b8 : 1 <<< x < 2147483648 := by
          rw [one_sh]
          exact Nat.lt_of_le_of_lt (pow_le31 (k := x) (by omega)) (by decide)
        exact shl_nat (a := 1) (by omega) b8
      have b9 : 1 <<< x < 2147483648 := by
        rw [one_sh]
        exact Nat.lt_of_le_of_lt (pow_le31 (k := x) (by omega)) (by decide)
      rw [e1, bor_nat (by omega) b9, wl, el, Nat.zero_mul, Nat.zero_add, wr_eq (by omega)]
      exact ⟨wt, by omega, by omega, by omega, kk _⟩
    · have j0 : j ≠ 0 := fun z => by
        subst z
        rw [Nat.zero_mul, Nat.zero_add] at el
        omega
      rw [if_neg (by omega), if_neg j0] at hsel
      refine t_L_open_109 (ih (x + 1) (j - 1) _ (by omega) hsel ?_ (by omega))
      have : j * fct k = (j - 1) * fct k + fct k := by
        obtain ⟨i, rfl⟩ : ∃ i, j = i + 1 := ⟨j - 1, by omega⟩
        rw [Nat.add_sub_cancel, Nat.add_mul, Nat.one_mul]
      omega
theorem Lopen_out {G W lie : Nat} (hn : 2 ≤ n ∧ n ≤ 7) (hGW : G ≠ W) (hl : lie < fct n) {a1 : Value} : ∀ (k p left used : Nat) (h : Hp), AG n d G h → tg h W = 20 → ln h W = 7 → p + k = n → left < fct k → used < 128 → eqL (rw_ n lie) (opl k left used) p = true → (∀ q : Nat, q < p → iv h W (q : Nat) = (dg (rw_ n lie) q : Nat)) →
    (∀ h', Fr (fun q => q == W) h h' → AR n (rw_ n lie) W h' → P .null h') → ∀ a7 : Value, R 96 34 [.ref G, a1, .ref W, .int (I (fct k : Nat)), .int (I (left : Nat)), .int (I (used : Nat)), .int (I (p : Nat)), a7] [] h P := by
  intro k
  induction k with
  | zero =>
    intro p left used h ag wt wl hp hle hu heq hv kk a7
    obtain ⟨⟨gt, gl⟩, g24, ga⟩ := id ag
    refine t_L_open_34 ?_
    rw [g24, gl]
    refine ⟨Or.inl gt, by omega, by omega, by omega, by omega, fun q => absurd q (by omega), fun _ => kk h (Fr.rf _ _) ⟨⟨wt, wl⟩, fun q hq => hv q (by omega)⟩⟩
  | succ k ih =>
    intro p left used h ag wt wl hp hle hu heq hv kk a7
    obtain ⟨⟨gt, gl⟩, g24, ga⟩ := id ag
    have f5 : fct (k + 1) ≤ 5040 := fct_le (by omega)
    have fp := fct_pos k
    refine t_L_open_34 ?_
    rw [g24, gl]
    have e1 : ((n : Nat) : Int) - (p : Nat) = ((k + 1 : Nat) : Int) := by omega
    have e2 : ((fct (k + 1) : Nat) : Int) / ((k + 1 : Nat) : Int) = ((fct k : Nat) : Int) := by
      rw [fct, ← Int.natCast_ediv, Nat.mul_div_cancel_left _ (Nat.succ_pos k)]
    rw [e1, e2]
    refine ⟨Or.inl gt, by omega, by omega, by omega, by omega, fun _ => ⟨Or.inl gt, by omega, by omega, by omega, by omega, ?_⟩, fun q => absurd (by omega) q⟩
    rw [opl, eqL, Bool.and_eq_true] at heq
    have es : selg used 8 (left / fct k) 0 = dg (rw_ n lie) p := Nat.eq_of_beq_eq_true heq.1
    have hd := ((rank_facts hn hl).2.2.2.1 p (by omega)).1
    have j7 : left / fct k ≤ k := by
      have : left < fct k * (k + 1) := by rw [Nat.mul_comm]; exact hle
      have := Nat.div_lt_of_lt_mul this
      omega
    have e3 := Nat.div_add_mod left (fct k)
    rw [Nat.mul_comm] at e3
    have us : used ||| 1 <<< dg (rw_ n lie) p < 128 := Nat.or_lt_two_pow (n := 7) hu (by rw [one_sh]; exact Nat.pow_lt_pow_right (by decide) (by omega))
    rw [es] at heq
    refine Lopen_in hn ag wt wl (by omega) hd hu (Nat.mod_lt left fp) (by omega) (fun a7 => t_L_open_115 ?_) 8 0 (left / fct k) _ (by omega) es (by rw [e3]) (by omega)
    have fr : Fr (fun q => q == W) h (setI h W (p : Nat) (dg (rw_ n lie) p : Nat)) := Fr.set (S := fun q => q == W) h _ _ (beq_self_eq_true W)
    refine ih (p + 1) (left % fct k) _ _ (ag.gp (fr.gp1 hGW)) (by rw [fr.t]; exact wt) (by rw [fr.l]; exact wl) (by omega) (Nat.mod_lt left fp) us heq.2 (fun q hq => ?_) (fun h' f1 f2 => kk h' (fr.tr f1) f2) _
    rw [iv_setI]
    by_cases c : q = p
    · rw [if_pos ⟨rfl, by omega⟩, c]
    · rw [if_neg (by omega)]; exact hv q (by omega)
theorem s_Lopen {G W lie : Nat} (hn : 2 ≤ n ∧ n ≤ 7) (hGW : G ≠ W) (hl : lie < fct n) (ag : AG n d G h) (wt : tg h W = 20) (wl : ln h W = 7) (kk : ∀ h', Fr (fun q => q == W) h h' → AR n (rw_ n lie) W h' → P .null h') : R 96 0 [.ref G, .int (I (lie : Nat)), .ref W, .retAddr 0, .retAddr 0, .retAddr 0, .retAddr 0, .retAddr 0] [] h P := by
  refine t_L_open (Lopen_prod hn ag (fun a7 => ?_) (n - 1) 1 (by omega) (by omega) _ _ _)
  exact Lopen_out hn hGW hl n 0 lie 0 h ag wt wl (by omega) hl (by decide) (rank_facts hn hl).2.2.1 (fun q hq => absurd hq (Nat.not_lt_zero q)) kk _
end OPEN
