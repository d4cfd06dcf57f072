/-! The calls of the class: more of the plain ones. -/
def lv (d : Nat → Nat → Int) (b : Int) : Nat → Nat → Int := up d 0 6 (wr (31 * d 0 6 + b))
def tellD (d : Nat → Nat → Int) (g : Nat) : Nat → Nat → Int := if d 3 g = 0 then lv d 1 else if d 3 g = 1 then lv (lv d 2) 1 else lv (lv (lv (lv d 3) 2) 1) 1
def tellA (d : Nat → Nat → Int) (g : Nat) : Int := if d 3 g = 0 then d 1 g else if d 3 g = 1 then d 1 g + 100 else 2 * d 1 g + 100
section PUB2
variable {n : Nat} {d : Nat → Nat → Int} {h : Hp} {P : Value → Hp → Prop}
theorem lv_f (d : Nat → Nat → Int) (b : Int) {f : Nat} (hf : f ≠ 0) : lv d b f = d f := up_f hf
/-- a fault is told -/
theorem RX.flt (x : RX n d h) {v : Int} (hv : rng v) : KX n (up d 0 7 v) h (setI h 0 11 v) := x.s0 (k := 11) (by decide) (fun f h1 _ => up_f (by omega)) (up_ne (by omega)) (up_ne (by omega)) (x.2.flt hv)
theorem s_faulted (x : RX n d h) {v : Int} (hv : rng v) (k : ∀ h', KX n (up d 0 7 v) h h' → P (.int (I (-10 - v))) h') : R 11 0 [.ref 0, .int (I v)] [] h P := by
  refine t_X_faulted x.S ?_
  rw [wr_eq hv]
  exact k _ (x.flt hv)
theorem up_up (d : Nat → Nat → Int) (f i : Nat) (v w : Int) : up (up d f i v) f i w = up d f i w := by
  funext a b
  unfold up
  by_cases e : a = f ∧ b = i
  · rw [if_pos e, if_pos e]
  · rw [if_neg e, if_neg e, if_neg e]
def manyA (n : Nat) (d : Nat → Nat → Int) (what : Int) : Int := if what = 0 then n else if what = 1 then lies n else if what = 2 then d 0 3 else if what = 3 then d 0 5 else if what = 4 then d 0 2 else if what = 5 then (if d 0 3 = 0 then -9 else d 0 4) else -2
theorem s_many (x : RX n d h) {w : Int} (hw : rng w) (k : P (.int (I (manyA n d w))) h) : R 86 0 [.ref 0, .int (I w)] [] h P := by
  obtain ⟨⟨b1, b2, b3, b4, b5, b6, b7, b8⟩, c, g, gg, gb, nb, ls, lw⟩ := x.1
  obtain ⟨o1, o2, o3, o4, o5, o6, o7⟩ := x.2
  unfold manyA at k
  refine t_X_many x.S ?_
  rw [b3, b4, ls.2.2.1, ls.2.2.2.1, o2.1, o3.1]
  refine ⟨hw, ⟨fun e => ?_, fun e => ?_, fun e => ?_, fun e => ?_, fun e => ?_, fun e => ⟨by omega, fun q => ?_, fun q => ?_⟩⟩, fun e => ?_⟩
  · rw [if_pos e] at k; exact k
  · rw [if_neg (by omega), if_pos e] at k; exact k
  · rw [if_neg (by omega), if_neg (by omega), if_pos e] at k; exact k
  · rw [if_neg (by omega), if_neg (by omega), if_neg (by omega), if_pos e] at k; exact k
  · rw [if_neg (by omega), if_neg (by omega), if_neg (by omega), if_neg (by omega), if_pos e] at k; exact k
  · rw [if_neg (by omega), if_neg (by omega), if_neg (by omega), if_neg (by omega), if_neg (by omega), if_pos e, if_pos q] at k; exact k
  · rw [if_neg (by omega), if_neg (by omega), if_neg (by omega), if_neg (by omega), if_neg (by omega), if_pos e, if_neg q] at k; exact k
  · rw [if_neg (by omega), if_neg (by omega), if_neg (by omega), if_neg (by omega), if_neg (by omega), if_neg (by omega)] at k; exact k
end PUB2
