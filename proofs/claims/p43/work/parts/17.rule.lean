/-! What rows are worth, and how they are shaken. -/
def sm (f : Nat → Int) : Nat → Int
  | 0 => 0
  | k + 1 => sm f k + f k
def ab (a : Int) : Int := if a < 0 then -a else a
/-- how mixed a row is, how parted -/
def mxf (sz : Nat → Int) (r p : Nat) : Int := ab (sz (dg r p) - sz (dg r (p + 1)))
def mxv (sz : Nat → Int) (n r : Nat) : Int := sm (mxf sz r) (n - 1)
def ptf (sz : Nat → Int) (r q p : Nat) : Int := if sz (dg r p) < sz (dg r q) then 1 else 0
def ptv (sz : Nat → Int) (n r : Nat) : Int := sm (fun q => sm (ptf sz r q) q) n
theorem okRow.d {n r : Nat} (hn : 2 ≤ n ∧ n ≤ 7) (h : okRow n r) {p : Nat} (hp : p < n) : dg r p < n := by
  obtain ⟨lie, hl, rfl⟩ := h
  exact ((rank_facts hn hl).2.2.2.1 p hp).1
section VAL
variable {n : Nat} {h : Hp} {P : Value → Hp → Prop}
theorem GX.bd {sz : Nat → Int} (gx : GX n sz h) {g : Nat} (hg : g < n) : rng (sz g) := (gx g hg).2.2.2
end VAL
/-! shakes -/
def prs (c : Nat → Nat → Nat → Bool) (n : Nat) : Nat → Nat → Nat → Nat
  | 0, _, r => r
  | k + 1, p, r => if p + 1 < n then prs c n k (p + 2) (if c (dg r p) (dg r (p + 1)) p then swp r p else r) else r
def prc (c : Nat → Nat → Nat → Bool) (n : Nat) : Nat → Nat → Nat → Nat
  | 0, _, _ => 0
  | k + 1, p, r => if p + 1 < n then (if c (dg r p) (dg r (p + 1)) p then 1 else 0) + prc c n k (p + 2) (if c (dg r p) (dg r (p + 1)) p then swp r p else r) else 0
def shk (c : Nat → Nat → Nat → Bool) (n r : Nat) : Nat := prs c n 4 1 (prs c n 4 0 r)
def shc (c : Nat → Nat → Nat → Bool) (n r : Nat) : Nat := prc c n 4 0 r + prc c n 4 1 (prs c n 4 0 r)
theorem prs_ok {c : Nat → Nat → Nat → Bool} {n : Nat} (hn : 2 ≤ n ∧ n ≤ 7) : ∀ (k p r : Nat), okRow n r → okRow n (prs c n k p r)
  | 0, _, _, h => h
  | k + 1, p, r, h => by
    rw [prs]
    by_cases q : p + 1 < n
    · rw [if_pos q]
      refine prs_ok hn k _ _ ?_
      by_cases q2 : c (dg r p) (dg r (p + 1)) p = true
      · rw [if_pos q2]; exact (h.step hn).1 p q
      · rw [if_neg q2]; exact h
    · rw [if_neg q]; exact h
theorem shk_ok {c : Nat → Nat → Nat → Bool} {n r : Nat} (hn : 2 ≤ n ∧ n ≤ 7) (h : okRow n r) : okRow n (shk c n r) := prs_ok hn _ _ _ (prs_ok hn _ _ _ h)
/-- what a rule knows -/
def RU (n : Nat) (c : Nat → Nat → Nat → Bool) (h : Hp) (r : Nat) : Prop := tg h r = 8 ∧ fl h r 0 = true ∧ child r 0 ≠ r ∧ tg h (child r 0) = 20 ∧ ln h (child r 0) = 64 ∧ ∀ x y : Nat, x < n → y < n → ∃ w : Nat, w < 128 ∧ iv h (child r 0) ((8 * x + y : Nat) : Int) = (w : Nat) ∧ ∀ p, p + 1 < n → (w >>> p) &&& 1 = if c x y p then 1 else 0
theorem RU.fr {n : Nat} {c : Nat → Nat → Nat → Bool} {h h1 : Hp} {r : Nat} {S : Nat → Bool} (u : RU n c h r) (a : Fr S h h1) (s : S (child r 0) = false) : RU n c h1 r := by
  obtain ⟨u1, u2, u3, u4, u5, u6⟩ := u
  refine ⟨by rw [a.t]; exact u1, by rw [a.f]; exact u2, u3, by rw [a.t]; exact u4, by rw [a.l]; exact u5, fun x y hx hy => ?_⟩
  obtain ⟨w, w1, w2, w3⟩ := u6 x y hx hy
  exact ⟨w, w1, by rw [a.i s]; exact w2, w3⟩
theorem I_wr_add (a b : Int) : I (wr a + b) = I (a + b) := by rw [← I_add, I_wr, I_add]
theorem pairs_loop {n : Nat} {c : Nat → Nat → Nat → Bool} {P : Value → Hp → Prop} {r : Nat} {l1 l2 : Value} (hn : 2 ≤ n ∧ n ≤ 7) : ∀ (k p row : Nat) (h : Hp) (l6 l7 : Value), RU n c h r → okRow n row → n ≤ p + 2 * k → p < 10 → (∀ h', Fr (fun q => q == r) h h' → I (iv h' r 1) = I (iv h r 1 + (prc c n k p row : Nat)) → P (.int (I (prs c n k p row : Nat))) h') →
    R 62 6 [.ref r, l1, l2, .int (I (n : Nat)), .int (I (row : Nat)), .int (I (p : Nat)), l6, l7] [] h P := by
  intro k
  induction k with
  | zero =>
    intro p row h l6 l7 u hr hp hp2 kk
    refine t_Rule_pairsShaken_6 ⟨by omega, by omega, fun q => absurd q (by omega), fun q => ?_⟩
    exact kk h (Fr.rf _ _) (by rw [prc]; exact congrArg I (Int.add_zero _).symm)
  | succ k ih =>
    intro p row h l6 l7 u hr hp hp2 kk
    have hlt := hr.lt hn
    refine t_Rule_pairsShaken_6 ⟨by omega, by omega, fun q => ?_, fun q => ?_⟩
    · have q1 : p + 1 < n := by omega
      have d1 := hr.d hn (p := p) (by omega)
      have d2 := hr.d hn (p := p + 1) (by omega)
      refine s_grainIn hlt (by omega) (t_Rule_pairsShaken_21 (s_grainIn (p := p + 1) hlt (by omega) ?_))
      obtain ⟨u1, u2, u3, u4, u5, u6⟩ := id u
      obtain ⟨w, w1, w2, w3⟩ := u6 _ _ d1 d2
      have e0 : (8 * ((dg row p : Nat) : Int)) + (dg row (p + 1) : Nat) = ((8 * dg row p + dg row (p + 1) : Nat) : Int) := by omega
      have a1 : shr (w : Nat) (p : Nat) = ((w >>> p : Nat) : Int) := shr_nat (by omega) (by omega)
      have hw := Nat.shiftRight_le w p
      have a2 : band ((w >>> p : Nat) : Int) 1 = ((w >>> p &&& 1 : Nat) : Int) := band_nat (b := 1) (by omega) (by decide)
      have w4 := w3 p q1
      have hle : w >>> p &&& 1 ≤ 1 := Nat.and_le_right
      rw [prc, prs, if_pos q1, if_pos q1] at kk
      refine t_Rule_pairsShaken_32 ?_
      rw [e0, w2, a1, a2, u5]
      refine ⟨u1, u2, by omega, Or.inl u4, by omega, by omega, by omega, by omega, fun z => ?_, fun z => ?_⟩
      · have hc : c (dg row p) (dg row (p + 1)) p = true := by
          cases hcc : c (dg row p) (dg row (p + 1)) p with
          | true => rfl
          | false => rw [hcc] at w4; rw [if_neg (by decide)] at w4; omega
        rw [if_pos hc, if_pos hc] at kk
        have d3 := dg_lt row p
        have d4 := dg_lt row (p + 1)
        have x8 : dg row p ^^^ dg row (p + 1) < 8 := Nat.xor_lt_two_pow (n := 3) d3 d4
        have b1 : bxor (dg row p : Nat) (dg row (p + 1) : Nat) = ((dg row p ^^^ dg row (p + 1) : Nat) : Int) := bxor_nat (by omega) (by omega)
        have b2 : ((dg row p ^^^ dg row (p + 1) : Nat) : Int) * 9 = (((dg row p ^^^ dg row (p + 1)) * 9 : Nat) : Int) := by omega
        have b3 : (3 * (p : Int)) = ((3 * p : Nat) : Int) := by omega
        have b5 : ((dg row p ^^^ dg row (p + 1)) * 9) <<< (3 * p) < 2 ^ (6 + 3 * p) := sh_lt (k := 6) (by omega)
        have b6 := pow_le31 (k := 6 + 3 * p) (by omega)
        have b4 : shl (((dg row p ^^^ dg row (p + 1)) * 9 : Nat) : Int) ((3 * p : Nat) : Int) = ((((dg row p ^^^ dg row (p + 1)) * 9) <<< (3 * p) : Nat) : Int) := shl_nat (by omega) (by omega)
        have b7 : bxor (row : Nat) ((((dg row p ^^^ dg row (p + 1)) * 9) <<< (3 * p) : Nat) : Int) = ((swp row p : Nat) : Int) := bxor_nat (by omega) (by omega)
        rw [b1, b2, b3, b4, b7]
        have fr : Fr (fun q => q == r) h (setI h r 1 (wr (iv h r 1 + 1))) := Fr.set h _ _ (beq_self_eq_true r)
        refine ⟨u1, u1, ih (p + 2) _ _ _ _ (u.fr fr (by simpa using u3)) ((hr.step hn).1 p q1) (by omega) (by omega) fun h' f1 f2 => kk h' (fr.tr f1) ?_⟩
        rw [f2, iv_setI, if_pos ⟨rfl, rfl⟩, I_wr_add]
        congr 1
        omega
      · have hc : ¬ c (dg row p) (dg row (p + 1)) p = true := by
          intro hcc
          rw [if_pos hcc] at w4
          omega
        rw [if_neg hc, if_neg hc] at kk
        exact ih (p + 2) _ _ _ _ u hr (by omega) (by omega) fun h' f1 f2 => kk h' f1 (by rw [f2, Nat.zero_add])
    · have q1 : ¬ p + 1 < n := by omega
      rw [prc, prs, if_neg q1, if_neg q1] at kk
      exact kk h (Fr.rf _ _) (congrArg I (Int.add_zero _).symm)
theorem s_shaken {n : Nat} {c : Nat → Nat → Nat → Bool} {P : Value → Hp → Prop} {r row : Nat} {h : Hp} (hn : 2 ≤ n ∧ n ≤ 7) (u : RU n c h r) (hr : okRow n row) (k : ∀ h', Fr (fun q => q == r) h h' → I (iv h' r 1) = I (iv h r 1 + (shc c n row : Nat)) → P (.int (I (shk c n row : Nat))) h') : R 61 0 [.ref r, .int (I (row : Nat)), .int (I (n : Nat))] [] h P := by
  refine t_Rule_shaken ⟨u.1, t_Rule_pairsShaken ?_⟩
  refine pairs_loop hn 4 0 row h _ _ u hr (by omega) (by omega) fun h1 f1 g1 => ?_
  have u1 := u.fr f1 (by simpa using u.2.2.1)
  refine t_Rule_shaken_8 ⟨u1.1, t_Rule_pairsShaken ?_⟩
  refine pairs_loop hn 4 1 _ h1 _ _ u1 (prs_ok hn _ _ _ hr) (by omega) (by omega) fun h2 f2 g2 => ?_
  refine t_Rule_shaken_13 (k h2 (f1.tr f2) ?_)
  rw [g2, ← I_add, g1, I_add, Int.add_assoc]
  rfl
