/-! The law's rows: shaken, numbered, opened. -/
section ROWS
variable {n : Nat} {d : Nat → Nat → Int} {P : Value → Hp → Prop} {h : Hp}
theorem chg_iff {l x y p : Nat} {hard lo : Int} : chg d l hard lo x y p = true ↔ (rul d l x y p hard lo ≠ -9 ∧ d 5 (6 * l + (rul d l x y p hard lo).toNat) ≤ 3) := by
  unfold chg
  exact @decide_eq_true_iff _ (Classical.propDecidable _)
theorem Fr.gp1 {W r : Nat} {h1 : Hp} (a : Fr (fun q => q == W) h h1) (hr : r ≠ W) : Gp h h1 r := a.g.p (by simpa using hr)
theorem AR.swap {r W p : Nat} (hn : 2 ≤ n ∧ n ≤ 7) (hr : okRow n r) (ar : AR n r W h) (hp : p + 1 < n) : AR n (swp r p) W (setI (setI h W (p : Nat) (wr (iv h W ((p : Nat) + 1)))) W ((p : Nat) + 1) (wr (iv h W (p : Nat)))) := by
  obtain ⟨⟨t, l⟩, a⟩ := ar
  refine ⟨⟨t, l⟩, fun q hq => ?_⟩
  have e := (hr.dgs hn).2.2.2 p hp q hq
  have p1 := a (p + 1) hp
  have p0 := a p (by omega)
  have c1 : ((p + 1 : Nat) : Int) = (p : Int) + 1 := by omega
  rw [c1] at p1
  have b0 := dg_lt r p
  have b1 := dg_lt r (p + 1)
  rw [iv_setI, p1, p0, wr_eq (by omega), wr_eq (by omega), e]
  by_cases q1 : q = p + 1
  · rw [if_pos ⟨rfl, by omega⟩, if_neg (by omega), if_pos q1]
  · rw [if_neg (by omega), iv_setI]
    by_cases q2 : q = p
    · rw [if_pos ⟨rfl, by omega⟩, if_pos q2]
    · rw [if_neg (by omega), if_neg q2, if_neg q1]; exact a q hq
theorem Lpairs {G L W l : Nat} (hn : 2 ≤ n ∧ n ≤ 7) (hb : GB n d) (lb : LB d l) (hG : G ≠ W) (hL : L ≠ W) {hard lo : Int} (hh : rng hard) (hlo : rng lo) {a6 : Int} : ∀ (k p r : Nat) (h : Hp) (cnt : Int) (a8 a9 : Value), AG n d G h → AL d l L h → okRow n r → AR n r W h → n ≤ p + 2 * k → p < 10 →
    (∀ h', Fr (fun q => q == W) h h' → AR n (prs (chg d l hard lo) n k p r) W h' → ∀ (a7 a8 a9 : Value), R 94 6 [.ref G, .ref L, .int (I lo), .ref W, .int (I hard), .int (I (cnt + (prc (chg d l hard lo) n k p r : Nat))), .int (I (a6 + 1)), a7, a8, a9] [] h' P) →
    R 94 16 [.ref G, .ref L, .int (I lo), .ref W, .int (I hard), .int (I cnt), .int (I a6), .int (I (p : Nat)), a8, a9] [] h P := by
  intro k
  induction k with
  | zero =>
    intro p r h cnt a8 a9 ag al hr ar hp hp2 kk
    obtain ⟨⟨gt, gl⟩, g24, ga⟩ := id ag
    refine t_L_shake_16 ?_
    rw [g24, gl]
    refine ⟨Or.inl gt, by omega, by omega, by omega, by omega, fun q => absurd q (by omega), fun _ => ?_⟩
    have z := kk h (Fr.rf _ _) ar (.int (I (p : Nat))) a8 a9
    rw [prc, Int.natCast_zero, Int.add_zero] at z
    exact z
  | succ k ih =>
    intro p r h cnt a8 a9 ag al hr ar hp hp2 kk
    obtain ⟨⟨gt, gl⟩, g24, ga⟩ := id ag
    obtain ⟨⟨wt, wl⟩, wa⟩ := id ar
    obtain ⟨⟨lt, ll⟩, l0, la⟩ := id al
    refine t_L_shake_16 ?_
    rw [g24, gl, wl]
    rw [prs, prc] at kk
    refine ⟨Or.inl gt, by omega, by omega, by omega, by omega, fun q => ?_, fun q => ?_⟩
    · have q1 : p + 1 < n := by omega
      rw [if_pos q1, if_pos q1] at kk
      have d1 := hr.d hn (p := p) (by omega)
      have d2 := hr.d hn (p := p + 1) (by omega)
      have w1 := wa p (by omega)
      have w2 := wa (p + 1) q1
      have c1 : ((p + 1 : Nat) : Int) = (p : Int) + 1 := by omega
      rw [c1] at w2
      refine ⟨Or.inl wt, by omega, by omega, by omega, Or.inl wt, by omega, by omega, by omega, ?_⟩
      rw [w1, w2]
      refine s_Lruling hn.2 ag al hb lb d1 d2 ⟨by omega, by omega⟩ hh hlo (t_L_shake_47 ?_)
      have bd := rulg_bd d l (dg r p) (dg r (p + 1)) (p : Nat) hard lo (d 4 l).toNat 0
      have bd : rul d l (dg r p) (dg r (p + 1)) (p : Nat) hard lo = -9 ∨ (0 ≤ rul d l (dg r p) (dg r (p + 1)) (p : Nat) hard lo ∧ rul d l (dg r p) (dg r (p + 1)) (p : Nat) hard lo < d 4 l) := by
        have := lb.1.1
        unfold rul
        omega
      have no : ¬ chg d l hard lo (dg r p) (dg r (p + 1)) p = true → ∀ (v a9 : Value), R 94 96 [.ref G, .ref L, .int (I lo), .ref W, .int (I hard), .int (I cnt), .int (I a6), .int (I (p : Nat)), v, a9] [] h P := fun z v a9 => by
        rw [if_neg z, if_neg z] at kk
        refine t_L_shake_96 (ih (p + 2) r h cnt _ _ ag al hr ar (by omega) (by omega) fun h' f1 f2 a7 a8 a9 => ?_)
        have := kk h' f1 f2 a7 a8 a9
        rw [Nat.zero_add] at this
        exact this
      refine ⟨by have := lb.1.2; omega, fun z => no ?_ _ _, fun z => ?_⟩
      · intro w
        have w := chg_iff.mp w
        omega
      · have b2 : rul d l (dg r p) (dg r (p + 1)) (p : Nat) hard lo = ((rul d l (dg r p) (dg r (p + 1)) (p : Nat) hard lo).toNat : Int) := by omega
        generalize hu : (rul d l (dg r p) (dg r (p + 1)) (p : Nat) hard lo).toNat = u at b2
        have u6 : (u : Int) < d 4 l := by omega
        have l6 := lb.1.2
        obtain ⟨x5, x6, x7⟩ := la u u6
        obtain ⟨y5, -, -⟩ := lb.2 u (by omega) u6
        rw [b2, x5, ll, wl]
        refine ⟨Or.inl lt, by omega, by omega, by omega, by omega, fun z3 => no ?_ _ _, fun z3 => ?_⟩
        · intro w
          have w := (chg_iff.mp w).2
          rw [hu] at w
          omega
        · have yes : chg d l hard lo (dg r p) (dg r (p + 1)) p = true := by
            apply chg_iff.mpr
            rw [hu]
            exact ⟨by omega, by omega⟩
          rw [if_pos yes, if_pos yes] at kk
          refine ⟨Or.inl wt, by omega, by omega, by omega, Or.inl wt, by omega, by omega, by omega, wt, by omega, by omega, by omega, wt, ?_, by omega, ?_, ?_⟩
          · show ((ln h W : Nat) : Int) ≤ _; omega
          · show _ < ((ln h W : Nat) : Int); omega
          have fr : Fr (fun q => q == W) h (setI (setI h W (p : Nat) (wr (iv h W ((p : Nat) + 1)))) W ((p : Nat) + 1) (wr (iv h W (p : Nat)))) := (Fr.set (S := fun q => q == W) h _ _ (beq_self_eq_true W)).tr (Fr.set _ _ _ (beq_self_eq_true W))
          refine t_L_shake_96 (ih (p + 2) (swp r p) _ (cnt + 1) _ _ (ag.gp (fr.gp1 hG)) (al.gp (fr.gp1 hL)) ((hr.step hn).1 p q1) (ar.swap hn hr q1) (by omega) (by omega) fun h' f1 f2 a7 a8 a9 => ?_)
          have := kk h' (fr.tr f1) f2 a7 a8 a9
          rw [Int.natCast_add, ← Int.add_assoc] at this
          exact this
    · have q1 : ¬ p + 1 < n := by omega
      rw [if_neg q1, if_neg q1] at kk
      have z := kk h (Fr.rf _ _) ar (.int (I (p : Nat))) a8 a9
      rw [Int.natCast_zero, Int.add_zero] at z
      exact z
theorem s_Lshake {G L W l r : Nat} (hn : 2 ≤ n ∧ n ≤ 7) (hb : GB n d) (lb : LB d l) (hG : G ≠ W) (hL : L ≠ W) {hard lo : Int} (hh : rng hard) (hlo : rng lo) (ag : AG n d G h) (al : AL d l L h) (hr : okRow n r) (ar : AR n r W h)
    (kk : ∀ h', Fr (fun q => q == W) h h' → AR n (shk (chg d l hard lo) n r) W h' → P (.int (I (shc (chg d l hard lo) n r : Nat))) h') : R 94 0 [.ref G, .ref L, .int (I lo), .ref W, .int (I hard), .retAddr 0, .retAddr 0, .retAddr 0, .retAddr 0, .retAddr 0] [] h P := by
  refine t_L_shake (t_L_shake_6 ⟨by decide, fun _ => ?_, fun q => absurd (by decide) q⟩)
  refine Lpairs hn hb lb hG hL hh hlo 4 0 r h 0 _ _ ag al hr ar (by omega) (by omega) fun h1 f1 r1 a7 a8 a9 => ?_
  refine t_L_shake_6 ⟨by decide, fun _ => ?_, fun q => absurd (by decide) q⟩
  refine Lpairs hn hb lb hG hL hh hlo 4 1 _ h1 _ _ _ (ag.gp (f1.gp1 hG)) (al.gp (f1.gp1 hL)) (prs_ok hn _ _ _ hr) r1 (by omega) (by omega) fun h2 f2 r2 a7 a8 a9 => ?_
  refine t_L_shake_6 ⟨by decide, fun q => absurd q (by decide), fun _ => ?_⟩
  have e : (0 : Int) + ((prc (chg d l hard lo) n 4 0 r : Nat) : Int) + ((prc (chg d l hard lo) n 4 1 (prs (chg d l hard lo) n 4 0 r) : Nat) : Int) = ((shc (chg d l hard lo) n r : Nat) : Int) := by unfold shc; omega
  rw [e]
  exact kk h2 (f1.tr f2) r2
/-- the number of a row, place by place from the last -/
def nmb (n r : Nat) : Nat → Nat
  | 0 => 0
  | k + 1 => nmb n r k + lss r (n - 1 - k) k * fct k
theorem clg_nmb {n r : Nat} : ∀ (k lie : Nat), clg n r k lie = lie * fct k + nmb n r k
  | 0, lie => by rw [clg, fct, nmb]; omega
  | k + 1, lie => by
    have e : n - (k + 1) = n - 1 - k := by omega
    rw [clg, clg_nmb k, fct, nmb, e, Nat.add_mul, Nat.mul_assoc]
    omega
theorem cl_nmb (n r : Nat) : cl n r = nmb n r n := by
  unfold cl
  rw [clg_nmb, Nat.zero_mul, Nat.zero_add]
theorem Lnum_in {G W r p : Nat} (hn : 2 ≤ n ∧ n ≤ 7) (ag : AG n d G h) (ar : AR n r W h) (hp : p < n) {a2 a3 a4 : Int} (e4 : a4 = (p : Nat)) (kk : ∀ a5 a6 : Value, R 95 12 [.ref G, .ref W, .int (I (a2 + (lss r p (n - 1 - p) : Nat) * a3)), .int (I (a3 * ((n : Nat) - a4))), .int (I (a4 + (-1))), a5, a6] [] h P) : ∀ (j i : Nat) (a6 : Int), i + j = n - 1 - p → a6 = (p : Int) + 1 + i →
    R 95 26 [.ref G, .ref W, .int (I a2), .int (I a3), .int (I a4), .int (I (lss r p i : Nat)), .int (I a6)] [] h P := by
  obtain ⟨⟨gt, gl⟩, g24, ga⟩ := id ag
  obtain ⟨⟨wt, wl⟩, wa⟩ := id ar
  intro j
  induction j with
  | zero =>
    intro i a6 hi e6
    refine t_L_number_26 ?_
    rw [g24, gl]
    refine ⟨Or.inl gt, by omega, by omega, by omega, by omega, fun q => absurd q (by omega), fun _ => ⟨Or.inl gt, by omega, by omega, ?_⟩⟩
    have : i = n - 1 - p := by omega
    rw [this]
    exact kk _ _
  | succ j ih =>
    intro i a6 hi e6
    refine t_L_number_26 ?_
    rw [g24, gl, wl]
    have w0 := wa p hp
    have w1 := wa (p + i + 1) (by omega)
    have e7 : a6 = ((p + i + 1 : Nat) : Int) := by omega
    have b0 := dg_lt r p
    have b1 := dg_lt r (p + i + 1)
    have n1 := ih (i + 1) (a6 + 1) (by omega) (by omega)
    rw [lss] at n1
    refine ⟨Or.inl gt, by omega, by omega, by omega, by omega, fun _ => ⟨Or.inl wt, by omega, by omega, by omega, Or.inl wt, by omega, by omega, by omega, ?_, ?_, ?_, ?_⟩, fun q => absurd (by omega) q⟩
    · rw [e7, w1]; omega
    · rw [e4, w0]; omega
    · intro q
      rw [e7, w1, e4, w0] at q
      refine t_L_number_53 ?_
      rw [if_pos (by omega), Int.natCast_add] at n1
      exact n1
    · intro q
      rw [e7, w1, e4, w0] at q
      refine t_L_number_53 ?_
      rw [if_neg (by omega), Int.natCast_add] at n1
      exact n1
theorem Lnum_out {G W r : Nat} (hn : 2 ≤ n ∧ n ≤ 7) (ag : AG n d G h) (ar : AR n r W h) (kk : P (.int (I (cl n r : Nat))) h) : ∀ (j k : Nat) (a2 a3 a4 : Int), k + j = n → a2 = (nmb n r k : Nat) → a3 = (fct k : Nat) → a4 = (n : Int) - 1 - k → ∀ a5 a6 : Value,
    R 95 12 [.ref G, .ref W, .int (I a2), .int (I a3), .int (I a4), a5, a6] [] h P := by
  intro j
  induction j with
  | zero =>
    intro k a2 a3 a4 hk e2 e3 e4 a5 a6
    refine t_L_number_12 ⟨by omega, fun _ => ?_, fun q => absurd (by omega) q⟩
    rw [e2, show k = n by omega, ← cl_nmb]
    exact kk
  | succ j ih =>
    intro k a2 a3 a4 hk e2 e3 e4 a5 a6
    refine t_L_number_12 ⟨by omega, fun q => absurd q (by omega), fun _ => ?_⟩
    have ep : n - 1 - (n - 1 - k) = k := by omega
    refine Lnum_in hn ag ar (p := n - 1 - k) (by omega) (by omega) (fun a5 a6 => ?_) k 0 (a4 + 1) (by omega) (by omega)
    rw [ep]
    refine ih (k + 1) _ _ _ (by omega) ?_ ?_ (by omega) _ _
    · rw [nmb, e2, e3, Int.natCast_add, Int.natCast_mul]
    · have : (n : Int) - a4 = ((k + 1 : Nat) : Int) := by omega
      rw [this, fct, e3, Int.natCast_mul, Int.mul_comm]
theorem s_Lnumber {G W r : Nat} (hn : 2 ≤ n ∧ n ≤ 7) (ag : AG n d G h) (ar : AR n r W h) (kk : P (.int (I (cl n r : Nat))) h) : R 95 0 [.ref G, .ref W, .retAddr 0, .retAddr 0, .retAddr 0, .retAddr 0, .retAddr 0] [] h P := by
  obtain ⟨⟨gt, gl⟩, g24, ga⟩ := id ag
  refine t_L_number ?_
  rw [g24, gl]
  exact ⟨Or.inl gt, by omega, by omega, Lnum_out hn ag ar kk n 0 0 1 _ (by omega) rfl rfl (by omega) _ _⟩
end ROWS
