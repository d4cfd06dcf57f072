/-! The box: what it finds of rows. -/
def bcE (p0 : Int) : Int := (band (((band (((band (p0 - (band (ushr p0 1) 1431655765)) 858993459) + (band (ushr (p0 - (band (ushr p0 1) 1431655765)) 2) 858993459)) + (ushr ((band (p0 - (band (ushr p0 1) 1431655765)) 858993459) + (band (ushr (p0 - (band (ushr p0 1) 1431655765)) 2) 858993459)) 4)) 252645135) + (ushr (band (((band (p0 - (band (ushr p0 1) 1431655765)) 858993459) + (band (ushr (p0 - (band (ushr p0 1) 1431655765)) 2) 858993459)) + (ushr ((band (p0 - (band (ushr p0 1) 1431655765)) 858993459) + (band (ushr (p0 - (band (ushr p0 1) 1431655765)) 2) 858993459)) 4)) 252645135) 8)) + (ushr ((band (((band (p0 - (band (ushr p0 1) 1431655765)) 858993459) + (band (ushr (p0 - (band (ushr p0 1) 1431655765)) 2) 858993459)) + (ushr ((band (p0 - (band (ushr p0 1) 1431655765)) 858993459) + (band (ushr (p0 - (band (ushr p0 1) 1431655765)) 2) 858993459)) 4)) 252645135) + (ushr (band (((band (p0 - (band (ushr p0 1) 1431655765)) 858993459) + (band (ushr (p0 - (band (ushr p0 1) 1431655765)) 2) 858993459)) + (ushr ((band (p0 - (band (ushr p0 1) 1431655765)) 858993459) + (band (ushr (p0 - (band (ushr p0 1) 1431655765)) 2) 858993459)) 4)) 252645135) 8)) 16)) 63)
theorem bc_all : ∀ w : _root_.Fin 128, bcE ((w : Nat) : Int) = (popc w : Nat) := by decide +kernel
theorem pow2_le {a b : Nat} (h : a ≤ b) : 2 ^ a ≤ 2 ^ b := Nat.pow_le_pow_right (by decide) h
section BOX2
variable {n : Nat} {h : Hp} {P : Value → Hp → Prop}
theorem s_bitCount {w : Nat} (hw : w < 128) (k : P (.int (I (popc w : Nat))) h) : R 64 0 [.int (I (w : Nat))] [] h P := by
  refine t_Integer_bitCount ?_
  show P (.int (I (bcE (w : Nat)))) h
  rw [show bcE (w : Nat) = (popc w : Nat) from bc_all ⟨w, hw⟩]
  exact k
theorem lieOf_loop (b : BX n h) {r : Nat} (hr : r < 2097152) : ∀ (k p lie left : Nat) (l5 : Value), p + k = n → left < 128 → P (.int (I (lix n r k lie left : Nat))) h →
    R 63 14 [.ref 1, .int (I (r : Nat)), .int (I (lie : Nat)), .int (I (left : Nat)), .int (I (p : Nat)), l5] [] h P := by
  obtain ⟨S, hn, e1, -, hF, -⟩ := b
  intro k
  induction k with
  | zero =>
    intro p lie left l5 hp hl k
    exact t_Box_lieOf_14 S ⟨by omega, by omega, fun c => absurd c (by omega), fun c => k⟩
  | succ k ih =>
    intro p lie left l5 hp hl kk
    have d8 := dg_lt r p
    have o1 : (1 : Nat) <<< dg r p ≤ 128 := by rw [one_sh]; exact pow2_le (b := 7) (by omega)
    have o2 : 0 < (1 : Nat) <<< dg r p := by rw [one_sh]; exact Nat.two_pow_pos _
    refine t_Box_lieOf_14 S ⟨by omega, by omega, fun c => ?_, fun c => absurd (by omega) c⟩
    refine s_grainIn hr (by omega) ?_
    refine t_Box_lieOf_30 S ?_
    have a1 : shl 1 (dg r p : Nat) = ((1 <<< dg r p : Nat) : Int) := shl_nat (a := 1) (by omega) (by omega)
    have a2 : ((1 <<< dg r p : Nat) : Int) - (1 : Int) = ((1 <<< dg r p - 1 : Nat) : Int) := by omega
    have a3 : band (left : Nat) ((1 <<< dg r p - 1 : Nat) : Int) = ((left &&& (1 <<< dg r p - 1) : Nat) : Int) := band_nat (by omega) (by omega)
    rw [a1, a2, a3]
    refine s_bitCount (Nat.lt_of_le_of_lt Nat.and_le_left hl) ?_
    refine t_Box_lieOf_43 S ?_
    have ek : ((n : Int) - 1) - (p : Int) = (k : Nat) := by omega
    have a4 : band (left : Nat) (bxor ((1 <<< dg r p : Nat) : Int) (-1)) = ((left ^^^ (left &&& (1 <<< dg r p)) : Nat) : Int) := bnot_nat (by omega) (by omega)
    rw [e1, ek, hF k (by omega), a4]
    refine ⟨by omega, by omega, ?_⟩
    refine ih (p + 1) (lie + popc (left &&& (1 <<< dg r p - 1)) * fct k) _ _ (by omega) (Nat.xor_lt_two_pow (n := 7) hl (Nat.lt_of_le_of_lt Nat.and_le_left hl)) ?_
    have e3 : n - (k + 1) = p := by omega
    rw [lix, e3] at kk
    exact kk
theorem s_lieOf (b : BX n h) {r : Nat} (hr : okRow n r) (k : P (.int (I (cl n r : Nat))) h) : R 63 0 [.ref 1, .int (I (r : Nat)), .retAddr 0, .retAddr 0, .retAddr 0, .retAddr 0] [] h P := by
  have hlt := hr.lt b.2.1
  obtain ⟨lie, hl, rfl⟩ := hr
  obtain ⟨q1, q2, -⟩ := rank_facts b.2.1 hl
  refine t_Box_lieOf b.1 ?_
  have o1 : (1 : Nat) <<< n ≤ 128 := by rw [one_sh]; exact pow2_le (b := 7) b.2.1.2
  have o2 : 0 < (1 : Nat) <<< n := by rw [one_sh]; exact Nat.two_pow_pos _
  have hn7 := b.2.1.2
  have a1 : shl 1 (n : Nat) = ((1 <<< n : Nat) : Int) := shl_nat (a := 1) (by omega) (by omega)
  have a2 : ((1 <<< n : Nat) : Int) - (1 : Int) = ((1 <<< n - 1 : Nat) : Int) := by omega
  rw [b.2.2.1, a1, a2]
  refine lieOf_loop b hlt n 0 0 _ _ (by omega) (by omega) ?_
  rw [q2]
  rw [q1] at k
  exact k
/-- the place of a grain -/
def plg (r g : Nat) : Nat → Nat → Int
  | 0, _ => -1
  | k + 1, p => if dg r p = g then (p : Nat) else plg r g k (p + 1)
theorem placeOf_loop (b : BX n h) {r g : Nat} (hr : r < 2097152) (hg : g < 8) : ∀ (k p : Nat), p + k = n → P (.int (I (plg r g k p))) h →
    R 31 2 [.ref 1, .int (I (g : Nat)), .int (I (r : Nat)), .int (I (p : Nat))] [] h P := by
  obtain ⟨S, hn, e1, -, hF, -⟩ := b
  intro k
  induction k with
  | zero =>
    intro p hp k
    exact t_Box_placeOf_2 S ⟨by omega, by omega, fun c => absurd c (by omega), fun c => k⟩
  | succ k ih =>
    intro p hp kk
    have d8 := dg_lt r p
    refine t_Box_placeOf_2 S ⟨by omega, by omega, fun c => ?_, fun c => absurd (by omega) c⟩
    refine s_grainIn hr (by omega) ?_
    rw [plg] at kk
    refine t_Box_placeOf_15 S ⟨by omega, by omega, fun c => ?_, fun c => ?_⟩
    · rw [if_pos (by omega)] at kk; exact kk
    · rw [if_neg (by omega)] at kk; exact ih (p + 1) (by omega) kk
theorem s_placeOf (b : BX n h) {r g : Nat} (hr : r < 2097152) (hg : g < 8) (k : P (.int (I (plg r g n 0))) h) : R 31 0 [.ref 1, .int (I (g : Nat)), .int (I (r : Nat)), .retAddr 0] [] h P :=
  t_Box_placeOf b.1 (placeOf_loop b hr hg n 0 (by omega) k)
theorem turned_loop (b : BX n h) {r : Nat} (hr : r < 2097152) : ∀ (k p t : Nat), p + k = n → t < 8 ^ p → P (.int (I (trg n r k t : Nat))) h →
    R 69 4 [.ref 1, .int (I (r : Nat)), .int (I (t : Nat)), .int (I (p : Nat))] [] h P := by
  obtain ⟨S, hn, e1, -, hF, -⟩ := b
  intro k
  induction k with
  | zero =>
    intro p t hp ht k
    exact t_Box_turnedRow_4 S ⟨by omega, by omega, fun c => absurd c (by omega), fun c => k⟩
  | succ k ih =>
    intro p t hp ht kk
    have d8 := dg_lt r p
    refine t_Box_turnedRow_4 S ⟨by omega, by omega, fun c => ?_, fun c => absurd (by omega) c⟩
    refine s_grainIn hr (by omega) ?_
    have e8 : (8 : Nat) ^ p = 2 ^ (3 * p) := by rw [Nat.pow_mul]
    have e9 : (8 : Nat) ^ (p + 1) = 2 ^ (3 * p + 3) := by rw [show 3 * p + 3 = 3 * (p + 1) by omega, Nat.pow_mul]
    rw [e8] at ht
    have t1 : t <<< 3 < 2 ^ (3 * p + 3) := sh_lt ht
    have t2 := pow_le31 (k := 3 * p + 3) (by omega)
    have a1 : shl (t : Nat) 3 = ((t <<< 3 : Nat) : Int) := shl_nat (k := 3) (by omega) (by omega)
    have a2 : bor ((t <<< 3 : Nat) : Int) (dg r p : Nat) = ((t <<< 3 ||| dg r p : Nat) : Int) := bor_nat (by omega) (by omega)
    rw [a1]
    refine t_Box_turnedRow_20 S ?_
    rw [a2]
    have e3 : n - (k + 1) = p := by omega
    rw [trg, e3] at kk
    refine ih (p + 1) _ (by omega) ?_ kk
    rw [e9]
    exact Nat.or_lt_two_pow t1 (Nat.lt_of_lt_of_le d8 (pow2_le (a := 3) (by omega)))
theorem s_turnedRow (b : BX n h) {r : Nat} (hr : r < 2097152) (k : P (.int (I (trn n r : Nat))) h) : R 69 0 [.ref 1, .int (I (r : Nat)), .retAddr 0, .retAddr 0] [] h P :=
  t_Box_turnedRow b.1 (turned_loop b hr n 0 0 (by omega) (by decide) k)
theorem s_spoonedRow (b : BX n h) {r : Nat} (hr : r < 2097152) (k : P (.int (I (spn n r : Nat))) h) : R 72 0 [.ref 1, .int (I (r : Nat))] [] h P := by
  obtain ⟨S, hn, e1, -⟩ := b
  refine t_Box_spoonedRow S (s_grainIn (p := 0) hr (by omega) (t_Box_spoonedRow_8 S ?_))
  have d8 := dg_lt r 0
  have h1 : dg r 0 <<< (3 * (n - 1)) < 2 ^ (3 + 3 * (n - 1)) := sh_lt (k := 3) d8
  have h2 := pow_le31 (k := 3 + 3 * (n - 1)) (by omega)
  have a0 : 3 * ((n : Int) - 1) = ((3 * (n - 1) : Nat) : Int) := by omega
  have a1 : shr (r : Nat) 3 = ((r >>> 3 : Nat) : Int) := shr_nat (k := 3) (by omega) (by omega)
  have a2 : shl (dg r 0 : Nat) ((3 * (n - 1) : Nat) : Int) = ((dg r 0 <<< (3 * (n - 1)) : Nat) : Int) := shl_nat (by omega) (by omega)
  have h3 := Nat.shiftRight_le r 3
  have a3 : bor ((r >>> 3 : Nat) : Int) ((dg r 0 <<< (3 * (n - 1)) : Nat) : Int) = ((r >>> 3 ||| dg r 0 <<< (3 * (n - 1)) : Nat) : Int) := bor_nat (by omega) (by omega)
  rw [e1, a0, a1, a2, a3]
  exact k
theorem s_abs {a : Int} (ha : rng a) (k : P (.int (I (if a < 0 then -a else a))) h) : R 81 0 [.int (I a)] [] h P := by
  refine t_Math_abs ⟨ha, fun c => ?_, fun c => ?_⟩
  · rw [if_pos c] at k; exact k
  · rw [if_neg c] at k; exact k
/-- the sizes of the grains -/
def GX (n : Nat) (sz : Nat → Int) (h : Hp) : Prop := ∀ g, g < n → (tg h (30 + g) = 3 ∨ tg h (30 + g) = 5 ∨ tg h (30 + g) = 7) ∧ fl h 2 g = true ∧ iv h (30 + g) 2 = sz g ∧ rng (sz g)
theorem tok2 {t : Nat} (h : t = 3 ∨ t = 5 ∨ t = 7) : tagok 2 t = true := by rcases h with rfl | rfl | rfl <;> rfl
theorem child2 {k : Nat} (h : k < 7) : child 2 k = 30 + k := by
  unfold child
  rw [if_neg (by decide), if_neg (by decide), if_pos rfl, if_pos h]
end BOX2
