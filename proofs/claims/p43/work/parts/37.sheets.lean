/-! Sheets. -/
def SHc (d : Nat → Nat → Int) (h : Hp) (k : Nat) : Prop := (d 10 k = -9 ∨ (0 ≤ d 10 k ∧ d 10 k ≤ 2)) ∧ iv h (8 + k) 1 = (if d 10 k = -9 then 0 else 1) ∧ (d 10 k ≠ -9 → iv h (8 + k) 2 = d 10 k) ∧ iv h (8 + k) 3 = d 11 k ∧ (0 ≤ d 11 k ∧ d 11 k ≤ 60) ∧ ∀ i : Nat, i < 60 → iv h (12 + k) i = d 12 (60 * k + i) ∧ rng (d 12 (60 * k + i))
def shtD (d : Nat → Nat → Int) (k : Nat) (s m : Int) : Nat → Nat → Int := fun f i => if f = 10 ∧ i = k then s else if f = 11 ∧ i = k then m else if f = 12 ∧ 60 * k ≤ i ∧ i < 60 * k + 60 then 0 else d f i
def sheetV (k s m : Int) : Int := if k < 0 ∨ 3 < k then -1 else if s < 0 ∨ 2 < s ∨ 60 < m then -2 else if m < 0 then -14 else 1
def sheetD (d : Nat → Nat → Int) (k s m : Int) : Nat → Nat → Int := if k < 0 ∨ 3 < k then up d 0 7 0 else if s < 0 ∨ 2 < s ∨ 60 < m then up d 0 7 0 else if m < 0 then up d 0 7 4 else shtD (up d 0 7 0) k.toNat s m
def loseV (d : Nat → Nat → Int) (k : Int) : Int := if k < 0 ∨ 3 < k then -1 else if d 10 k.toNat = -9 then 0 else 1
def loseD (d : Nat → Nat → Int) (k : Int) : Nat → Nat → Int := if k < 0 ∨ 3 < k then d else up d 10 k.toNat (-9)
def cutv (s v : Int) : Int := if s = 0 then b8 v else if s = 1 then b16 v else v
def putV (d : Nat → Nat → Int) (k i : Int) : Int := if k < 0 ∨ 3 < k then -1 else if d 10 k.toNat = -9 then -11 else if i < 0 ∨ d 11 k.toNat ≤ i then -13 else 1
def putD (d : Nat → Nat → Int) (k i v : Int) : Nat → Nat → Int := if k < 0 ∨ 3 < k then up d 0 7 0 else if d 10 k.toNat = -9 then up d 0 7 1 else if i < 0 ∨ d 11 k.toNat ≤ i then up d 0 7 3 else up (up d 0 7 0) 12 (60 * k.toNat + i.toNat) (cutv (d 10 k.toNat) v)
def cellV (d : Nat → Nat → Int) (k i s : Int) : Int := if refV d k s i 1 = 0 then d 12 (60 * k.toNat + i.toNat) else -9223372036854775808
def cpD (d : Nat → Nat → Int) (k i o j m : Nat) : Nat → Nat → Int := fun f x => if f = 12 ∧ 60 * o + j ≤ x ∧ x < 60 * o + j + m then d 12 (60 * k + i + (x - (60 * o + j))) else d f x
def noC (d : Nat → Nat → Int) (k i m : Int) : Prop := i < 0 ∨ d 11 k.toNat < i ∨ d 11 k.toNat - i < m
def copyV (d : Nat → Nat → Int) (k i o j m : Int) : Int := if k < 0 ∨ 3 < k ∨ o < 0 ∨ 3 < o then -1 else if d 10 k.toNat = -9 ∨ d 10 o.toNat = -9 then -11 else if d 10 k.toNat ≠ d 10 o.toNat then -12 else if m < 0 ∨ (i < 0 ∨ d 11 k.toNat < i ∨ d 11 k.toNat - i < m) ∨ (j < 0 ∨ d 11 o.toNat < j ∨ d 11 o.toNat - j < m) then -13 else m
def copyD (d : Nat → Nat → Int) (k i o j m : Int) : Nat → Nat → Int := if k < 0 ∨ 3 < k ∨ o < 0 ∨ 3 < o then up d 0 7 0 else if d 10 k.toNat = -9 ∨ d 10 o.toNat = -9 then up d 0 7 1 else if d 10 k.toNat ≠ d 10 o.toNat then up d 0 7 2 else if m < 0 ∨ (i < 0 ∨ d 11 k.toNat < i ∨ d 11 k.toNat - i < m) ∨ (j < 0 ∨ d 11 o.toNat < j ∨ d 11 o.toNat - j < m) then up d 0 7 3 else cpD (up d 0 7 0) k.toNat i.toNat o.toNat j.toNat m.toNat
theorem b8_rng (a : Int) : rng (b8 a) := ⟨Int32.le_toInt _, Int32.toInt_lt _⟩
theorem b16_rng (a : Int) : rng (b16 a) := ⟨Int32.le_toInt _, Int32.toInt_lt _⟩
theorem cutv_rng {s v : Int} (hv : rng v) : rng (cutv s v) := by
  unfold cutv
  split
  · exact b8_rng v
  · split
    · exact b16_rng v
    · exact hv
theorem iv_rn {h : Hp} {r q : Nat} {f : Int → Int} {z : Int} (e : q ≠ r) : iv (setR h r f) q z = iv h q z := by rw [iv_setR, if_neg e]
section SHEETS
variable {n : Nat} {d : Nat → Nat → Int} {P : Value → Hp → Prop} {h : Hp}
theorem RX.shc (x : RX n d h) {k : Nat} (hk : k < 4) : SHc d h k := by
  obtain ⟨-, -, -, -, -, -, o7⟩ := x.2
  exact o7 k hk
theorem RX.sht {d' : Nat → Nat → Int} {h' : Hp} (x : RX n d h) {k : Nat} (hk : k < 4) (a : Fr (fun r => r == 8 + k || r == 12 + k) h h') (hd0 : ∀ i, d' 0 i = d 0 i) (hdf : ∀ f, 1 ≤ f → f ≤ 9 → d' f = d f)
    (hk' : ∀ k', k' < 4 → k' ≠ k → d' 10 k' = d 10 k' ∧ d' 11 k' = d 11 k' ∧ ∀ i, i < 60 → d' 12 (60 * k' + i) = d 12 (60 * k' + i)) (o : SHc d' h' k) : KX n d' h h' := by
  have s : ∀ r, r ≠ 8 + k → r ≠ 12 + k → (fun r : Nat => r == 8 + k || r == 12 + k) r = false := fun r h1 h2 => by
    show (_ || _) = false
    rw [Bool.or_eq_false_iff]
    exact ⟨by simpa using h1, by simpa using h2⟩
  refine x.st0 a (fun r hr => ?_) (a.i (s 0 (by omega) (by omega)) 2) (a.i (s 0 (by omega) (by omega)) 3) (fun f h1 h2 => hdf f h1 (by omega)) (hd0 3) (hd0 4) ?_
  · simp only [Bool.or_eq_true, beq_iff_eq] at hr
    omega
  obtain ⟨o1, o2, o3, o4, o5, o6, o7⟩ := x.2
  unfold RO
  rw [hd0, hd0, hd0, hd0, hd0, hdf 8 (by decide) (by decide), hdf 9 (by decide) (by decide), a.i (s 0 (by omega) (by omega)), a.i (s 0 (by omega) (by omega)), a.i (s 0 (by omega) (by omega)), a.i (s 0 (by omega) (by omega)), a.i (s 16 (by omega) (by omega))]
  refine ⟨o1, o2, o3, o4, o5, fun r hr h8 => ?_, fun k2 hk2 => ?_⟩
  · rw [a.i (s 5 (by omega) (by omega)), a.i (s 6 (by omega) (by omega))]
    exact o6 r hr h8
  · by_cases e : k2 = k
    · rw [e]; exact o
    · obtain ⟨p1, p2, p3⟩ := hk' k2 hk2 e
      obtain ⟨c1, c2, c3, c4, c5, c6⟩ := o7 k2 hk2
      rw [p1, p2, a.i (s (8 + k2) (by omega) (by omega)), a.i (s (8 + k2) (by omega) (by omega)), a.i (s (8 + k2) (by omega) (by omega))]
      refine ⟨c1, c2, c3, c4, c5, fun i hi => ?_⟩
      rw [p3 i hi, a.i (s (12 + k2) (by omega) (by omega))]
      exact c6 i hi
theorem fill2_loop {a m : Nat} {v : Int} (hv : rng v) : ∀ (k i : Nat) (h : Hp), tg h a = 20 → ln h a = m → m ≤ 5040 → i + k = m → (∀ h', Fr (fun r => r == a) h h' → (∀ z : Int, (i : Int) ≤ z ∧ z < m → iv h' a z = v) → (∀ z : Int, ¬ ((i : Int) ≤ z ∧ z < m) → iv h' a z = iv h a z) → P .null h') →
    R 24 5 [.ref a, .int (I v), .int (I (i : Nat)), .int (I (m : Nat))] [] h P := by
  intro k
  induction k with
  | zero =>
    intro i h ta hl h5 hi kk
    refine t_Arrays_fill_5 ⟨by omega, by omega, fun c => absurd c (by omega), fun c => ?_⟩
    exact kk h (Fr.rf _ _) (fun z hz => absurd hz (by omega)) (fun _ _ => rfl)
  | succ k ih =>
    intro i h ta hl h5 hi kk
    refine t_Arrays_fill_5 ⟨by omega, by omega, fun c => ⟨ta, by omega, by omega, by omega, ?_⟩, fun c => absurd (by omega) c⟩
    rw [wr_eq hv]
    have fr : Fr (fun r => r == a) h (setI h a i v) := Fr.set h _ _ (beq_self_eq_true a)
    refine ih (i + 1) _ ta hl h5 (by omega) fun h' f1 f2 f3 => kk h' (fr.tr f1) (fun z hz => ?_) (fun z hz => ?_)
    · by_cases e : z = i
      · rw [f3 z (by omega), iv_setI, if_pos ⟨rfl, e⟩]
      · exact f2 z (by omega)
    · rw [f3 z (by omega), iv_setI, if_neg (by omega)]
theorem s_fill2 {a : Nat} {v : Int} (hv : rng v) (ta : tg h a = 20) (h5 : ln h a ≤ 5040) (kk : ∀ h', Fr (fun r => r == a) h h' → (∀ z : Int, 0 ≤ z ∧ z < ln h a → iv h' a z = v) → P .null h') : R 24 0 [.ref a, .int (I v), .retAddr 0, .retAddr 0] [] h P :=
  t_Arrays_fill ⟨Or.inl (by omega), fill2_loop (m := ln h a) hv (ln h a) 0 h ta rfl h5 (by omega) fun h' f1 f2 _ => kk h' f1 fun z hz => f2 z hz⟩
theorem s_sheet (x : RX n d h) {k s m : Int} (hk : rng k) (hs : rng s) (hm : rng m) (kk : ∀ h', KX n (sheetD d k s m) h h' → P (.int (I (sheetV k s m))) h') : R 82 0 [.ref 0, .int (I k), .int (I s), .int (I m)] [] h P := by
  have k1 := x.flt (v := 0) (by decide)
  have x1 := k1.1
  unfold sheetV sheetD at kk
  refine t_X_sheet x.S (s_noSheet hk (fun c => ?_) (fun c => ?_))
  · rw [if_pos c, if_pos c] at kk
    exact t_X_sheet_9 x1.S ⟨by decide, fun q => absurd q (by decide), fun _ => kk _ k1⟩
  have c0 : ¬ (k < 0 ∨ 3 < k) := by omega
  rw [if_neg c0, if_neg c0] at kk
  refine t_X_sheet_9 x1.S ⟨by decide, fun _ => s_noSort hs (fun c2 => ?_) (fun c2 => ?_), fun q => absurd rfl q⟩
  · have c1 : s < 0 ∨ 2 < s ∨ 60 < m := by omega
    rw [if_pos c1, if_pos c1] at kk
    exact t_X_sheet_18 x1.S ⟨by decide, fun q => absurd q (by decide), fun _ => kk _ k1⟩
  have hk4 : k.toNat < 4 := by omega
  obtain ⟨t1, t2, t3, t4, t5⟩ := x1.S.sh hk4
  refine t_X_sheet_18 x1.S ⟨by decide, fun _ => ⟨hm, fun c3 => ?_, fun c3 => ⟨hm, fun c4 => ?_, fun c4 => ?_⟩⟩, fun q => absurd rfl q⟩
  · have c1 : s < 0 ∨ 2 < s ∨ 60 < m := by omega
    rw [if_pos c1, if_pos c1] at kk
    exact kk _ k1
  · have c1 : ¬ (s < 0 ∨ 2 < s ∨ 60 < m) := by omega
    rw [if_neg c1, if_neg c1, if_pos c4, if_pos c4] at kk
    refine s_faulted x1 (by decide) fun h2 k2 => t_X_sheet_39 k2.1.S (kk h2 ?_)
    rw [up_up] at k2
    exact k1.tr k2
  · have c1 : ¬ (s < 0 ∨ 2 < s ∨ 60 < m) := by omega
    rw [if_neg c1, if_neg c1, if_neg c4, if_neg c4] at kk
    rw [ch7 hk4]
    refine ⟨by omega, by omega, t2, by omega, t1, t_Sheet_renew ?_⟩
    rw [ch8 hk4, wr_eq hs, wr_eq hm]
    refine ⟨t1, t1, t1, t1, t3, by show tg (setI h 0 11 0) _ ≠ 0; omega, ?_⟩
    refine s_fill2 (a := 12 + k.toNat) (by decide) t4 (by show ln (setI h 0 11 0) _ ≤ _; omega) fun h2 f2 g2 => t_Sheet_renew_23 ?_
    have f1 : Fr (fun r => r == 8 + k.toNat || r == 12 + k.toNat) (setI h 0 11 0) h2 := (((Fr.set (r := 8 + k.toNat) _ 1 1 (by simp)).tr (Fr.set (r := 8 + k.toNat) _ 2 s (by simp))).tr (Fr.set (r := 8 + k.toNat) _ 3 m (by simp))).tr (f2.mono fun r hr => (Bool.or_eq_false_iff.mp hr).2)
    have s12 : ∀ r, r ≠ 12 + k.toNat → (fun r : Nat => r == 12 + k.toNat) r = false := fun r hr => by simpa using hr
    have k2 : KX n (shtD (up d 0 7 0) k.toNat s m) (setI h 0 11 0) h2 := by
      refine x1.sht hk4 f1 (fun i => rfl) (fun f h1 h2 => ?_) (fun k' h1 h2 => ⟨?_, ?_, fun i hi => ?_⟩) ?_
      · funext i
        unfold shtD
        rw [if_neg (by omega), if_neg (by omega), if_neg (by omega)]
      · unfold shtD; rw [if_neg (by omega), if_neg (by omega), if_neg (by omega)]
      · unfold shtD; rw [if_neg (by omega), if_neg (by omega), if_neg (by omega)]
      · unfold shtD; rw [if_neg (by omega), if_neg (by omega), if_neg (by omega)]
      · have e10 : shtD (up d 0 7 0) k.toNat s m 10 k.toNat = s := if_pos ⟨rfl, rfl⟩
        have e11 : shtD (up d 0 7 0) k.toNat s m 11 k.toNat = m := by unfold shtD; rw [if_neg (by omega), if_pos ⟨rfl, rfl⟩]
        unfold SHc
        rw [e10, e11, f2.i (s12 _ (by omega)), f2.i (s12 _ (by omega)), f2.i (s12 _ (by omega)), iv_eq, iv_nk (show (2 : Int) ≠ 3 by decide), iv_eq, iv_nk (show (1 : Int) ≠ 3 by decide), iv_nk (show (1 : Int) ≠ 2 by decide), iv_eq, if_neg (by omega)]
        refine ⟨by omega, rfl, fun _ => rfl, rfl, by omega, fun i hi => ?_⟩
        have e12 : shtD (up d 0 7 0) k.toNat s m 12 (60 * k.toNat + i) = 0 := by unfold shtD; rw [if_neg (by omega), if_neg (by omega), if_pos (by omega)]
        rw [e12]
        exact ⟨g2 i ⟨by omega, by show (i : Int) < (ln (setI h 0 11 0) _ : Int); omega⟩, by decide⟩
    exact t_X_sheet_51 k2.1.S (kk _ (k1.tr k2))
theorem s_cut (x : RX n d h) {k : Nat} (hk : k < 4) (h9 : d 10 k ≠ -9) {v : Int} (kk : P (.int (I (cutv (d 10 k) v))) h) : R 85 0 [.ref (8 + k), .int (I v)] [] h P := by
  obtain ⟨t1, t2, t3, t4, t5⟩ := x.S.sh hk
  obtain ⟨c1, c2, c3, c4, c5, c6⟩ := x.shc hk
  unfold cutv at kk
  refine t_Sheet_cut ?_
  rw [c3 h9]
  refine ⟨t1, by omega, fun e => ?_, fun e => ⟨t1, by omega, fun e2 => ?_, fun e2 => ?_⟩⟩
  · rw [if_pos e] at kk; exact kk
  · rw [if_neg e, if_pos e2] at kk; exact kk
  · rw [if_neg e, if_neg e2] at kk; exact kk
theorem s_put (x : RX n d h) {k i v : Int} (hk : rng k) (hi : rng i) (hv : rng v) (kk : ∀ h', KX n (putD d k i v) h h' → P (.int (I (putV d k i))) h') : R 84 0 [.ref 0, .int (I k), .int (I i), .int (I v), .retAddr 0] [] h P := by
  have k1 := x.flt (v := 0) (by decide)
  have x1 := k1.1
  have e10 : up d 0 7 0 10 = d 10 := up_o (by decide)
  have e11 : up d 0 7 0 11 = d 11 := up_o (by decide)
  have e12 : up d 0 7 0 12 = d 12 := up_o (by decide)
  unfold putV putD at kk
  refine t_X_put x.S (s_noSheet hk (fun c => ?_) (fun c => ?_))
  · rw [if_pos c, if_pos c] at kk
    exact t_X_put_9 x1.S ⟨by decide, fun q => absurd q (by decide), fun _ => kk _ k1⟩
  have c0 : ¬ (k < 0 ∨ 3 < k) := by omega
  rw [if_neg c0, if_neg c0] at kk
  have hk4 : k.toNat < 4 := by omega
  obtain ⟨t1, t2, t3, t4, t5⟩ := x1.S.sh hk4
  obtain ⟨c1, c2, c3, c4, c5, c6⟩ := x1.shc hk4
  rw [e10] at c1 c2 c3
  rw [e11] at c4 c5
  refine t_X_put_9 x1.S ⟨by decide, fun _ => ?_, fun q => absurd rfl q⟩
  rw [ch7 hk4, ch8 hk4, c2, c4]
  refine ⟨by omega, by omega, t2, by omega, t1, by split <;> decide, fun e => ?_, fun e => ⟨hi, fun e2 => ?_, fun e2 => ⟨t1, hi, by omega, fun e3 => ⟨t1, t3, by omega, t1, ?_⟩, fun e3 => ?_⟩⟩⟩
  · have e9 : d 10 k.toNat = -9 := by
      apply Classical.byContradiction
      intro z
      rw [if_neg z] at e
      exact absurd e (by decide)
    rw [if_pos e9, if_pos e9] at kk
    refine s_faulted x1 (by decide) fun h2 k2 => t_X_put_35 k2.1.S (kk h2 ?_)
    rw [up_up] at k2
    exact k1.tr k2
  · have e9 : ¬ d 10 k.toNat = -9 := fun z => e (if_pos z)
    have ce : i < 0 ∨ d 11 k.toNat ≤ i := Or.inl e2
    rw [if_neg e9, if_neg e9, if_pos ce, if_pos ce] at kk
    refine s_faulted x1 (by decide) fun h2 k2 => t_X_put_54 k2.1.S (kk h2 ?_)
    rw [up_up] at k2
    exact k1.tr k2
  · have e9 : ¬ d 10 k.toNat = -9 := fun z => e (if_pos z)
    have ce : ¬ (i < 0 ∨ d 11 k.toNat ≤ i) := by omega
    rw [if_neg e9, if_neg e9, if_neg ce, if_neg ce] at kk
    have cr := cutv_rng (s := d 10 k.toNat) hv
    refine s_cut x1 hk4 (by rw [e10]; exact e9) (t_X_put_67 x1.S ?_)
    rw [e10, wr_eq cr]
    refine ⟨t4, by show (ln (setI h 0 11 0) _ : Int) ≤ _; omega, by omega, by show _ < (ln (setI h 0 11 0) _ : Int); omega, ?_⟩
    refine kk _ (k1.tr (x1.sht hk4 (Fr.set (r := 12 + k.toNat) _ i _ (by simp)) (fun i => up_ne (by omega)) (fun f h1 h2 => up_f (by omega)) (fun k' h1 h2 => ⟨up_ne (by omega), up_ne (by omega), fun i' hi' => up_ne (by omega)⟩) ?_))
    have g10 : up (up d 0 7 0) 12 (60 * k.toNat + i.toNat) (cutv (d 10 k.toNat) v) 10 k.toNat = d 10 k.toNat := by rw [up_ne (by omega), e10]
    have g11 : up (up d 0 7 0) 12 (60 * k.toNat + i.toNat) (cutv (d 10 k.toNat) v) 11 k.toNat = d 11 k.toNat := by rw [up_ne (by omega), e11]
    unfold SHc
    rw [g10, g11, iv_ne (r := 12 + k.toNat) (q := 8 + k.toNat) (z := 1) (by omega), iv_ne (r := 12 + k.toNat) (q := 8 + k.toNat) (z := 2) (by omega), iv_ne (r := 12 + k.toNat) (q := 8 + k.toNat) (z := 3) (by omega)]
    refine ⟨c1, c2, c3, c4, c5, fun i' hi' => ?_⟩
    rw [iv_setI]
    by_cases z : i' = i.toNat
    · rw [if_pos ⟨rfl, by omega⟩, z, up_at]
      exact ⟨rfl, cr⟩
    · rw [if_neg (by omega), up_ne (by omega)]
      exact c6 i' hi'
  · have e9 : ¬ d 10 k.toNat = -9 := fun z => e (if_pos z)
    have ce : i < 0 ∨ d 11 k.toNat ≤ i := by omega
    rw [if_neg e9, if_neg e9, if_pos ce, if_pos ce] at kk
    refine s_faulted x1 (by decide) fun h2 k2 => t_X_put_54 k2.1.S (kk h2 ?_)
    rw [up_up] at k2
    exact k1.tr k2
end SHEETS
