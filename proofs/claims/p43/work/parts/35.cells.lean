/-! Cells of sheets, what they are refused with; readings; shakes. -/
theorem ch7L : ∀ k : _root_.Fin 4, child 7 k = 8 + k ∧ child (8 + (k : Nat)) 0 = 12 + k := by decide
theorem ch7 {k : Nat} (h : k < 4) : child 7 k = 8 + k := (ch7L ⟨k, h⟩).1
theorem ch8 {k : Nat} (h : k < 4) : child (8 + k) 0 = 12 + k := (ch7L ⟨k, h⟩).2
theorem XS.sh {h : Hp} (S : XS h) {k : Nat} (hk : k < 4) : tg h (8 + k) = 10 ∧ fl h 7 k = true ∧ fl h (8 + k) 0 = true ∧ tg h (12 + k) = 20 ∧ ln h (12 + k) = 60 := by
  have e : k = 0 ∨ k = 1 ∨ k = 2 ∨ k = 3 := by omega
  rcases e with rfl | rfl | rfl | rfl
  · exact ⟨S.t8, S.f7_0, S.f8_0, S.t12, S.l12⟩
  · exact ⟨S.t9, S.f7_1, S.f9_0, S.t13, S.l13⟩
  · exact ⟨S.t10, S.f7_2, S.f10_0, S.t14, S.l14⟩
  · exact ⟨S.t11, S.f7_3, S.f11_0, S.t15, S.l15⟩
def refV (d : Nat → Nat → Int) (k s i n : Int) : Int := if k < 0 ∨ 3 < k then -1 else if s < 0 ∨ 2 < s then -2 else if d 10 k.toNat ≠ -9 ∧ d 10 k.toNat ≠ s then -12 else if d 10 k.toNat = -9 then -11 else if n < 0 then -14 else if i < 0 ∨ d 11 k.toNat < i ∨ d 11 k.toNat - i < n then -13 else 0
def refF (v : Int) : Int := if v ≤ -11 then -10 - v else 0
theorem refV_bd (d : Nat → Nat → Int) (k s i n : Int) : -14 ≤ refV d k s i n ∧ refV d k s i n ≤ 0 := by
  unfold refV
  split
  · omega
  · split
    · omega
    · split
      · omega
      · split
        · omega
        · split
          · omega
          · split <;> omega
theorem refV_ok {d : Nat → Nat → Int} {k s i n : Int} (h : refV d k s i n = 0) : (0 ≤ k ∧ k < 4) ∧ (0 ≤ s ∧ s ≤ 2) ∧ d 10 k.toNat = s ∧ 0 ≤ n ∧ 0 ≤ i ∧ i ≤ d 11 k.toNat ∧ n ≤ d 11 k.toNat - i := by
  unfold refV at h
  split at h
  · omega
  · split at h
    · omega
    · split at h
      · omega
      · split at h
        · omega
        · split at h
          · omega
          · split at h
            · omega
            · omega
def fld_ (d : Nat → Nat → Int) (v : Int) : Nat → Nat → Int := up d 0 7 v
section CELLS
variable {n : Nat} {d : Nat → Nat → Int} {P : Value → Hp → Prop} {h : Hp}
theorem s_noSheet {g : Int} (hg : rng g) (k1 : (g < 0 ∨ 3 < g) → P (.int (I 1)) h) (k0 : (0 ≤ g ∧ g < 4) → P (.int (I 0)) h) : R 9 0 [.int (I g)] [] h P :=
  t_X_noSheet ⟨hg, fun c => k1 (Or.inl c), fun c => ⟨hg, fun c2 => k0 (by omega), fun c2 => k1 (by omega)⟩⟩
theorem s_noSort {g : Int} (hg : rng g) (k1 : (g < 0 ∨ 2 < g) → P (.int (I 1)) h) (k0 : (0 ≤ g ∧ g ≤ 2) → P (.int (I 0)) h) : R 10 0 [.int (I g)] [] h P :=
  t_X_noSort ⟨hg, fun c => k1 (Or.inl c), fun c => ⟨hg, fun c2 => k0 (by omega), fun c2 => k1 (by omega)⟩⟩
theorem s_hasNot (x : RX n d h) {k : Nat} (hk : k < 4) {i m : Int} (hi : rng i) (hm : rng m) (k1 : (i < 0 ∨ d 11 k < i ∨ d 11 k - i < m) → P (.int (I 1)) h) (k0 : ¬ (i < 0 ∨ d 11 k < i ∨ d 11 k - i < m) → P (.int (I 0)) h) : R 12 0 [.ref (8 + k), .int (I i), .int (I m)] [] h P := by
  obtain ⟨t1, -⟩ := x.S.sh hk
  obtain ⟨-, -, -, -, -, -, o7⟩ := x.2
  obtain ⟨c1, c2, c3, c4, c5, c6⟩ := o7 k hk
  refine t_Sheet_hasNot ?_
  rw [c4]
  exact ⟨hi, fun q => k1 (Or.inl q), fun q => ⟨t1, hi, by omega, fun q2 => k1 (Or.inr (Or.inl q2)), fun q2 => ⟨t1, hm, by omega, fun q3 => k1 (Or.inr (Or.inr q3)), fun q3 => k0 (by omega)⟩⟩⟩
theorem up_o {d : Nat → Nat → Int} {i : Nat} {v : Int} {f : Nat} (hf : f ≠ 0) : up d 0 i v f = d f := up_f hf
theorem s_refusal (x : RX n d h) {k s i m : Int} (hk : rng k) (hs : rng s) (hi : rng i) (hm : rng m) (kk : ∀ h', KX n (up d 0 7 (refF (refV d k s i m))) h h' → P (.int (I (refV d k s i m))) h') : R 8 0 [.ref 0, .int (I k), .int (I s), .int (I i), .int (I m), .retAddr 0] [] h P := by
  have k1 := x.flt (v := 0) (by decide)
  have x1 := k1.1
  have e10 : up d 0 7 0 10 = d 10 := up_o (by decide)
  have e11 : up d 0 7 0 11 = d 11 := up_o (by decide)
  unfold refV at kk
  refine t_X_refusalOfCells x.S (s_noSheet hk (fun c => ?_) (fun c => ?_))
  · rw [if_pos c] at kk
    exact t_X_refusalOfCells_9 x1.S ⟨by decide, fun q => absurd q (by decide), fun _ => kk _ k1⟩
  rw [if_neg (by omega)] at kk
  refine t_X_refusalOfCells_9 x1.S ⟨by decide, fun _ => s_noSort hs (fun c2 => ?_) (fun c2 => ?_), fun q => absurd rfl q⟩
  · rw [if_pos c2] at kk
    exact t_X_refusalOfCells_18 x1.S ⟨by decide, fun q => absurd q (by decide), fun _ => kk _ k1⟩
  rw [if_neg (by omega)] at kk
  have hk4 : k.toNat < 4 := by omega
  obtain ⟨t1, t2, t3, t4, t5⟩ := x1.S.sh hk4
  obtain ⟨-, -, -, -, -, -, o7⟩ := x1.2
  obtain ⟨c1, c2', c3, c4, c5, c6⟩ := o7 k.toNat hk4
  rw [e10] at c1 c2' c3
  rw [e11] at c4 c5
  refine t_X_refusalOfCells_18 x1.S ⟨by decide, fun _ => ?_, fun q => absurd rfl q⟩
  rw [ch7 hk4]
  have ft : ∀ v : Int, rng v → (∀ h', KX n (up d 0 7 v) h h' → P (.int (I (-10 - v))) h') → ∀ pc, (pc = 68 ∨ pc = 79 ∨ pc = 54 ∨ pc = 96) → ∀ (a1 a2 a3 a4 a5 : Value) (h1 : Hp), KX n (up d 0 7 0) h h1 → R 11 0 [.ref 0, .int (I v)] [] h1 (fun w h2 => R 8 pc [.ref 0, a1, a2, a3, a4, a5] (w :: []) h2 P) := by
    intro v hv q pc hpc a1 a2 a3 a4 a5 h1 kq
    refine s_faulted kq.1 hv fun h2 k2 => ?_
    have k3 := kq.tr k2
    rw [up_up] at k3
    rcases hpc with rfl | rfl | rfl | rfl
    · exact t_X_refusalOfCells_68 k3.1.S (q h2 k3)
    · exact t_X_refusalOfCells_79 k3.1.S (q h2 k3)
    · exact t_X_refusalOfCells_54 k3.1.S (q h2 k3)
    · exact t_X_refusalOfCells_96 k3.1.S (q h2 k3)
  have rest : d 10 k.toNat = -9 ∨ d 10 k.toNat = s → (tg (setI h 0 11 0) (8 + k.toNat) = 10) ∧ (rng (iv (setI h 0 11 0) (8 + k.toNat) 1)) ∧ (((iv (setI h 0 11 0) (8 + k.toNat) 1) = 0 → R 11 0 [.ref 0, .int (I 1)] [] (setI h 0 11 0) (fun v h2 => R 8 68 [.ref 0, .int (I k), .int (I s), .int (I i), .int (I m), .ref (8 + k.toNat)] (v :: []) h2 P)) ∧ (¬ (iv (setI h 0 11 0) (8 + k.toNat) 1) = 0 → (rng m) ∧ ((m < 0 → R 11 0 [.ref 0, .int (I 4)] [] (setI h 0 11 0) (fun v h2 => R 8 79 [.ref 0, .int (I k), .int (I s), .int (I i), .int (I m), .ref (8 + k.toNat)] (v :: []) h2 P)) ∧ (¬ m < 0 → (tg (setI h 0 11 0) (8 + k.toNat) = 10) ∧ R 12 0 [.ref (8 + k.toNat), .int (I i), .int (I m)] [] (setI h 0 11 0) (fun v h2 => R 8 88 [.ref 0, .int (I k), .int (I s), .int (I i), .int (I m), .ref (8 + k.toNat)] (v :: []) h2 P))))) := by
    intro hd
    rw [if_neg (by omega)] at kk
    rw [c2']
    refine ⟨t1, by split <;> decide, fun q => ?_, fun q => ⟨hm, fun q2 => ?_, fun q2 => ⟨t1, ?_⟩⟩⟩
    · have e9 : d 10 k.toNat = -9 := by
        apply Classical.byContradiction
        intro z
        rw [if_neg z] at q
        exact absurd q (by decide)
      rw [if_pos e9] at kk
      exact ft 1 (by decide) kk 68 (by decide) _ _ _ _ _ _ k1
    · have e9 : ¬ d 10 k.toNat = -9 := fun z => q (if_pos z)
      rw [if_neg e9, if_pos q2] at kk
      exact ft 4 (by decide) kk 79 (by decide) _ _ _ _ _ _ k1
    · have e9 : ¬ d 10 k.toNat = -9 := fun z => q (if_pos z)
      rw [if_neg e9, if_neg q2] at kk
      refine s_hasNot x1 hk4 hi hm (fun q3 => ?_) (fun q3 => ?_)
      · rw [e11] at q3
        rw [if_pos q3] at kk
        exact t_X_refusalOfCells_88 x1.S ⟨by decide, fun q => absurd q (by decide), fun _ => ft 3 (by decide) kk 96 (by decide) _ _ _ _ _ _ k1⟩
      · rw [e11] at q3
        rw [if_neg q3] at kk
        exact t_X_refusalOfCells_88 x1.S ⟨by decide, fun _ => kk _ k1, fun q => absurd rfl q⟩
  refine ⟨by omega, by omega, t2, by omega, t1, by rw [c2']; split <;> decide, fun q => ?_, fun q => ⟨t1, ?_, hs, fun q2 => ?_, fun q2 => ?_⟩⟩
  · refine rest (Or.inl ?_)
    apply Classical.byContradiction
    intro z
    rw [c2', if_neg z] at q
    exact absurd q (by decide)
  · rw [c3 (fun z => q (by rw [c2', if_pos z]))]
    omega
  · rw [c3 (fun z => q (by rw [c2', if_pos z]))] at q2
    exact rest (Or.inr q2)
  · have e9 : ¬ d 10 k.toNat = -9 := fun z => q (by rw [c2', if_pos z])
    rw [c3 e9] at q2
    rw [if_pos ⟨e9, q2⟩] at kk
    exact ft 2 (by decide) kk 54 (by decide) _ _ _ _ _ _ k1
theorem RX.cel (x : RX n d h) {k : Nat} (hk : k < 4) {i : Nat} (hi : i < 60) : iv h (12 + k) (i : Nat) = d 12 (60 * k + i) ∧ rng (d 12 (60 * k + i)) := by
  obtain ⟨-, -, -, -, -, -, o7⟩ := x.2
  exact (o7 k hk).2.2.2.2.2 i hi
theorem RX.dl (x : RX n d h) {k : Nat} (hk : k < 4) : 0 ≤ d 11 k ∧ d 11 k ≤ 60 := by
  obtain ⟨-, -, -, -, -, -, o7⟩ := x.2
  exact (o7 k hk).2.2.2.2.1
theorem RB.fr0 {h1 : Hp} {S : Nat → Bool} (b : RB n d h) (a : Fr S h h1) (s : ∀ r, (r = 1 ∨ r = 2 ∨ r = 3 ∨ r = 500 ∨ r = 501 ∨ (30 ≤ r ∧ r < 37) ∨ (64 ≤ r ∧ r < 320)) → S r = false) (i2 : iv h1 0 2 = iv h 0 2) (i3 : iv h1 0 3 = iv h 0 3) : RB n d h1 := by
  obtain ⟨⟨b1, b2, b3, b4, b5, b6, b7, b8⟩, c, g, gg, gb, nb, ls, lw⟩ := b
  have hg := a.g
  refine ⟨⟨a.x b1, b2, ?_, ?_, fun k hk => ?_, fun k hk => ?_, ?_, ?_⟩, fun i hi => ?_, fun r hr => ?_, gg.fr a fun g hg => s _ (by have := b2; omega), gb, ?_, ?_, fun l hl => ?_⟩
  · rw [a.i (s 1 (by omega))]; exact b3
  · rw [a.i (s 1 (by omega))]; exact b4
  · rw [a.i (s 500 (by omega))]; exact b5 k hk
  · rw [a.i (s 501 (by omega))]; exact b6 k hk
  · rw [a.t]; exact b7
  · rw [a.t]; exact b8
  · rw [a.i (s 3 (by omega))]; rw [a.l] at hi; exact c i hi
  · rw [a.l]; exact g r hr
  · rw [a.i (s 1 (by omega))]; exact nb
  · rw [i2, i3]; exact ls
  · obtain ⟨l1, l2, l3, l4⟩ := lw l hl
    have h4 : l < 4 := by omega
    rw [a.f]
    refine ⟨l1, l2.fr a fun c hc => s _ (by omega), l3, fun j hj => ?_⟩
    rw [a.l]
    exact ⟨(l4 j hj).1.gr h4 hj hg (s 1 (by omega)) fun k hk => s _ (by omega), (l4 j hj).2⟩
theorem RX.st0 {d' : Nat → Nat → Int} {S : Nat → Bool} {h' : Hp} (x : RX n d h) (a : Fr S h h') (s : ∀ r, S r = true → r = 0 ∨ r = 5 ∨ r = 6 ∨ (8 ≤ r ∧ r ≤ 16)) (i2 : iv h' 0 2 = iv h 0 2) (i3 : iv h' 0 3 = iv h 0 3) (he : ∀ f, 1 ≤ f → f ≤ 7 → d' f = d f) (h3 : d' 0 3 = d 0 3) (h4 : d' 0 4 = d 0 4) (o : RO n d' h') : KX n d' h h' := by
  have s2 : ∀ r, ¬ (r = 0 ∨ r = 5 ∨ r = 6 ∨ (8 ≤ r ∧ r ≤ 16)) → S r = false := fun r hr => by
    cases e : S r with
    | false => rfl
    | true => exact absurd (s r e) hr
  exact ⟨⟨(x.1.fr0 a (fun r hr => s2 r (by omega)) i2 i3).cg he h3 h4, o⟩, a.g.x4 fun r hr => s2 r (by omega), a.co, a.i (s2 1 (by omega)) 3⟩
def readV (n : Nat) (d : Nat → Nat → Int) (g p : Int) : Int := if g < 0 ∨ (n : Int) ≤ g ∨ p < 0 ∨ (n : Int) ≤ p then -1 else if 8 ≤ d 0 5 then -4 else d 0 5
def readD (n : Nat) (d : Nat → Nat → Int) (g p : Int) : Nat → Nat → Int := if g < 0 ∨ (n : Int) ≤ g ∨ p < 0 ∨ (n : Int) ≤ p then d else if 8 ≤ d 0 5 then d else up (up (up d 8 (d 0 5).toNat g) 9 (d 0 5).toNat p) 0 5 (d 0 5 + 1)
def rdQ (d : Nat → Nat → Int) (row : Nat) : Prop := ∀ r : Nat, (r : Int) < d 0 5 → ((dg row (d 9 r).toNat : Nat) : Int) = d 8 r
end CELLS
