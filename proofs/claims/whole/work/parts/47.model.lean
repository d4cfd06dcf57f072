/-! The reference: what it holds; rows taken apart, put together. -/
def Y4 (r : Nat) : Bool := Nat.ble 400 r && Nat.blt r 440
theorem Y4_n {r : Nat} (h : r < 400 ∨ 440 ≤ r) : Y4 r = false := by
  cases hc : Y4 r with
  | false => rfl
  | true =>
    simp only [Y4, Bool.and_eq_true, Nat.ble_eq, Nat.blt_eq] at hc
    omega
def RY (n : Nat) (d : Nat → Nat → Int) (h : Hp) (lo : Int := -9) : Prop :=
  (YS h ∧ (n = 0 ∨ (2 ≤ n ∧ n ≤ 7)) ∧ iv h 400 5 = (n : Nat) ∧ iv h 400 6 = (lies n : Nat) ∧ iv h 400 24 = lo) ∧
  (iv h 400 0 = d 0 7 ∧ rng (d 0 7)) ∧ (iv h 400 1 = d 0 6 ∧ rng (d 0 6)) ∧ (iv h 400 7 = d 0 1 ∧ (0 ≤ d 0 1 ∧ (d 0 1 < lies n ∨ (n = 0 ∧ d 0 1 = 0)))) ∧ (iv h 400 8 = d 0 2 ∧ rng (d 0 2)) ∧
  (iv h 400 18 = d 0 3 ∧ 0 ≤ d 0 3 ∧ d 0 3 ≤ 4) ∧ (iv h 400 19 = d 0 4 ∧ 0 ≤ d 0 4 ∧ (d 0 4 < d 0 3 ∨ (d 0 3 = 0 ∧ d 0 4 = 0))) ∧ (iv h 400 34 = d 0 5 ∧ 0 ≤ d 0 5 ∧ d 0 5 ≤ 8) ∧
  (∀ g : Nat, g < n → iv h 410 g = d 1 g ∧ iv h 411 g = d 2 g ∧ iv h 412 g = d 3 g) ∧ GB n d ∧
  (∀ l : Nat, (l : Int) < d 0 3 → iv h 421 l = d 4 l ∧ LB d l ∧ ∀ c : Nat, c < 6 → (c : Int) < d 4 l → iv h 422 ((6 * l + c : Nat) : Int) = d 5 (6 * l + c) ∧ iv h 423 ((6 * l + c : Nat) : Int) = d 6 (6 * l + c) ∧ iv h 424 ((6 * l + c : Nat) : Int) = d 7 (6 * l + c)) ∧
  (∀ r : Nat, (r : Int) < d 0 5 → r < 8 → iv h 436 r = d 8 r ∧ iv h 437 r = d 9 r ∧ (0 ≤ d 8 r ∧ d 8 r < n) ∧ 0 ≤ d 9 r ∧ d 9 r < n) ∧
  (∀ k : Nat, k < 4 → iv h 403 k = d 10 k ∧ (d 10 k = -9 ∨ (0 ≤ d 10 k ∧ d 10 k ≤ 2)) ∧ iv h 404 k = d 11 k ∧ (0 ≤ d 11 k ∧ d 11 k ≤ 60) ∧ ∀ i : Nat, i < 60 → iv h 405 ((60 * k + i : Nat) : Int) = d 12 (60 * k + i) ∧ rng (d 12 (60 * k + i)))
/-- numbers that are taken from call to call -/
def YI (h h' : Hp) : Prop := (∀ k, k ≠ 12 → k ≠ 13 → k ≠ 26 → k ≠ 31 → iv h' 400 k = iv h 400 k) ∧ ∀ r, (r = 403 ∨ r = 404 ∨ r = 405 ∨ (410 ≤ r ∧ r ≤ 412) ∨ (421 ≤ r ∧ r ≤ 424) ∨ r = 436 ∨ r = 437) → ∀ k, iv h' r k = iv h r k
theorem YI.rf (h : Hp) : YI h h := ⟨fun _ _ _ _ _ => rfl, fun _ _ _ => rfl⟩
theorem YI.tr {h h1 h2 : Hp} (a : YI h h1) (b : YI h1 h2) : YI h h2 := ⟨fun k h1 h2 h3 h4 => (b.1 k h1 h2 h3 h4).trans (a.1 k h1 h2 h3 h4), fun r hr k => (b.2 r hr k).trans (a.2 r hr k)⟩
def KY (n : Nat) (d : Nat → Nat → Int) (h h' : Hp) : Prop := RY n d h' ∧ Fr Y4 h h'
theorem KY.rf {n : Nat} {d : Nat → Nat → Int} {h : Hp} (x : RY n d h) : KY n d h h := ⟨x, Fr.rf _ _⟩
theorem KY.tr {n n1 : Nat} {d d1 : Nat → Nat → Int} {h h1 h2 : Hp} (a : KY n d h h1) (b : KY n1 d1 h1 h2) : KY n1 d1 h h2 := ⟨b.1, a.2.tr b.2⟩
/-- scratch: only numbers of the reference that are not taken from call to call -/
def KS (h h' : Hp) : Prop := Fr Y4 h h' ∧ YI h h'
theorem KS.rf (h : Hp) : KS h h := ⟨Fr.rf _ _, YI.rf _⟩
theorem KS.tr {h h1 h2 : Hp} (a : KS h h1) (b : KS h1 h2) : KS h h2 := ⟨a.1.tr b.1, a.2.tr b.2⟩
theorem RY.ks {n : Nat} {d : Nat → Nat → Int} {h h1 : Hp} {lo : Int} (x : RY n d h lo) (a : KS h h1) : RY n d h1 lo := by
  obtain ⟨f, i0, ir⟩ := a
  obtain ⟨⟨b1, b2, b3, b4, b5⟩, c0, c1, c7, c8, c18, c19, c34, g, gb, l, r, s⟩ := x
  unfold RY
  rw [i0 5 (by decide) (by decide) (by decide) (by decide), i0 6 (by decide) (by decide) (by decide) (by decide), i0 24 (by decide) (by decide) (by decide) (by decide), i0 0 (by decide) (by decide) (by decide) (by decide), i0 1 (by decide) (by decide) (by decide) (by decide), i0 7 (by decide) (by decide) (by decide) (by decide), i0 8 (by decide) (by decide) (by decide) (by decide), i0 18 (by decide) (by decide) (by decide) (by decide), i0 19 (by decide) (by decide) (by decide) (by decide), i0 34 (by decide) (by decide) (by decide) (by decide)]
  refine ⟨⟨f.y b1, b2, b3, b4, b5⟩, c0, c1, c7, c8, c18, c19, c34, fun x hx => ?_, gb, fun x hx => ?_, fun x hx h8 => ?_, fun x hx => ?_⟩
  · rw [ir 410 (by omega), ir 411 (by omega), ir 412 (by omega)]; exact g x hx
  · rw [ir 421 (by omega)]
    obtain ⟨l1, l2, l3⟩ := l x hx
    refine ⟨l1, l2, fun c hc hd => ?_⟩
    rw [ir 422 (by omega), ir 423 (by omega), ir 424 (by omega)]
    exact l3 c hc hd
  · rw [ir 436 (by omega), ir 437 (by omega)]; exact r x hx h8
  · rw [ir 403 (by omega), ir 404 (by omega)]
    obtain ⟨s1, s2, s3, s4, s5⟩ := s x hx
    refine ⟨s1, s2, s3, s4, fun i hi => ?_⟩
    rw [ir 405 (by omega)]
    exact s5 i hi
theorem RY.k {n : Nat} {d : Nat → Nat → Int} {h h1 : Hp} (x : RY n d h) (a : KS h h1) : KY n d h h1 := ⟨x.ks a, a.1⟩
theorem Fr.y4 {S : Nat → Bool} {h h1 : Hp} (a : Fr S h h1) (s : ∀ r, S r = true → 400 ≤ r ∧ r < 440) : Fr Y4 h h1 := a.mono fun r hr => by
  cases hS : S r with
  | false => rfl
  | true =>
    have := s r hS
    simp only [Y4, Bool.and_eq_false_iff] at hr
    rcases hr with hr | hr
    · rw [Nat.ble_eq_true_of_le this.1] at hr; cases hr
    · rw [Nat.blt_eq.mpr this.2] at hr; cases hr
/-- a scratch array changes -/
theorem Fr.ks {S : Nat → Bool} {h h1 : Hp} (a : Fr S h h1) (s : ∀ r, S r = true → (415 ≤ r ∧ r ≤ 418) ∨ r = 426 ∨ (428 ≤ r ∧ r ≤ 434)) : KS h h1 := by
  have z : ∀ r, ¬ ((415 ≤ r ∧ r ≤ 418) ∨ r = 426 ∨ (428 ≤ r ∧ r ≤ 434)) → S r = false := fun r hr => by
    cases hS : S r with
    | false => rfl
    | true => exact absurd (s r hS) hr
  exact ⟨a.y4 fun r hr => by have := s r hr; omega, fun k _ _ _ _ => a.i (z 400 (by omega)) k, fun r hr k => a.i (z r (by omega)) k⟩
theorem KS.set {h : Hp} {q : Nat} (hq : (415 ≤ q ∧ q ≤ 418) ∨ q = 426 ∨ (428 ≤ q ∧ q ≤ 434)) (k v : Int) : KS h (setI h q k v) := (Fr.set (S := fun r => r == q) h k v (beq_self_eq_true q)).ks fun r hr => by
  have : r = q := by simpa using hr
  omega
theorem KS.set0 {h : Hp} {k : Int} (hk : k = 12 ∨ k = 13 ∨ k = 26 ∨ k = 31) (v : Int) : KS h (setI h 400 k v) := ⟨(Fr.set (S := fun r => r == 400) h k v rfl).y4 fun r hr => by
  have : r = 400 := by simpa using hr
  omega, fun z h1 h2 h3 h4 => iv_nk (by omega), fun r hr z => iv_ne (by omega)⟩
section MODEL
variable {n : Nat} {d : Nat → Nat → Int} {P : Value → Hp → Prop} {h : Hp} {lo : Int}
theorem RY.S (x : RY n d h lo) : YS h := x.1.1
theorem RY.n7 (x : RY n d h lo) : n = 0 ∨ (2 ≤ n ∧ n ≤ 7) := x.1.2.1
theorem RY.g (x : RY n d h lo) : iv h 400 5 = (n : Nat) := x.1.2.2.1
theorem RY.ls (x : RY n d h lo) : iv h 400 6 = (lies n : Nat) := x.1.2.2.2.1
theorem y_within {p a b : Int} (hp : rng p) (ha : rng a) (hb : rng b) (k1 : (a ≤ p ∧ p ≤ b) → P (.int (I 1)) h) (k0 : ¬ (a ≤ p ∧ p ≤ b) → P (.int (I 0)) h) : R 129 0 [.int (I p), .int (I a), .int (I b)] [] h P :=
  t_Y_within ⟨hp, ha, fun c => k0 (by omega), fun c => ⟨hp, hb, fun c2 => k0 (by omega), fun c2 => k1 (by omega)⟩⟩
theorem y_isHard {p : Int} (hp : rng p) (k1 : (1 ≤ p ∧ p ≤ 3) → P (.int (I 1)) h) (k0 : ¬ (1 ≤ p ∧ p ≤ 3) → P (.int (I 0)) h) : R 155 0 [.int (I p)] [] h P :=
  t_Y_isHard (y_within hp (by decide) (by decide) (fun c => t_Y_isHard_6 ⟨rfl, k1 c⟩) (fun c => t_Y_isHard_6 ⟨rfl, k0 c⟩))
theorem y_isSheet {p : Int} (hp : rng p) (k1 : (0 ≤ p ∧ p ≤ 3) → P (.int (I 1)) h) (k0 : ¬ (0 ≤ p ∧ p ≤ 3) → P (.int (I 0)) h) : R 128 0 [.int (I p)] [] h P :=
  t_Y_isSheet (y_within hp (by decide) (by decide) (fun c => t_Y_isSheet_6 ⟨rfl, k1 c⟩) (fun c => t_Y_isSheet_6 ⟨rfl, k0 c⟩))
theorem y_isSort {p : Int} (hp : rng p) (k1 : (0 ≤ p ∧ p ≤ 2) → P (.int (I 1)) h) (k0 : ¬ (0 ≤ p ∧ p ≤ 2) → P (.int (I 0)) h) : R 130 0 [.int (I p)] [] h P :=
  t_Y_isSort (y_within hp (by decide) (by decide) (fun c => t_Y_isSort_6 ⟨rfl, k1 c⟩) (fun c => t_Y_isSort_6 ⟨rfl, k0 c⟩))
theorem y_isGrain (x : RY n d h lo) {p : Int} (hp : rng p) (k1 : (0 ≤ p ∧ p < n) → P (.int (I 1)) h) (k0 : ¬ (0 ≤ p ∧ p < n) → P (.int (I 0)) h) : R 137 0 [.ref 400, .int (I p)] [] h P := by
  have hn := x.n7
  refine t_Y_isGrain x.S ?_
  rw [x.g]
  exact ⟨hp, fun c => k0 (by omega), fun c => ⟨hp, by omega, fun c2 => k1 (by omega), fun c2 => k0 (by omega)⟩⟩
theorem y_isLie (x : RY n d h lo) {p : Int} (hp : rng p) (k1 : (0 ≤ p ∧ p < lies n) → P (.int (I 1)) h) (k0 : ¬ (0 ≤ p ∧ p < lies n) → P (.int (I 0)) h) : R 146 0 [.ref 400, .int (I p)] [] h P := by
  have hn := lies_le x.n7
  refine t_Y_isLie x.S ?_
  rw [x.ls]
  exact ⟨hp, fun c => k0 (by omega), fun c => ⟨hp, by omega, fun c2 => k1 (by omega), fun c2 => k0 (by omega)⟩⟩
theorem y_isLaw (x : RY n d h lo) {p : Int} (hp : rng p) (k1 : (0 ≤ p ∧ p < d 0 3) → P (.int (I 1)) h) (k0 : ¬ (0 ≤ p ∧ p < d 0 3) → P (.int (I 0)) h) : R 152 0 [.ref 400, .int (I p)] [] h P := by
  have hl := x.2.2.2.2.2.1
  refine t_Y_isLaw x.S ?_
  rw [hl.1]
  exact ⟨hp, fun c => k0 (by omega), fun c => ⟨hp, by omega, fun c2 => k1 (by omega), fun c2 => k0 (by omega)⟩⟩
/-- the row that is taken apart -/
def RW (n r : Nat) (h : Hp) : Prop := ∀ p : Nat, p < n → iv h 418 p = (dg r p : Nat)
/-- only the row and how many changes there were -/
def FR (h h' : Hp) : Prop := Fr (fun r => r == 418 || r == 400) h h' ∧ ∀ k, k ≠ 26 → iv h' 400 k = iv h 400 k
theorem FR.rf (h : Hp) : FR h h := ⟨Fr.rf _ _, fun _ _ => rfl⟩
theorem FR.tr {h h1 h2 : Hp} (a : FR h h1) (b : FR h1 h2) : FR h h2 := ⟨a.1.tr b.1, fun k hk => (b.2 k hk).trans (a.2 k hk)⟩
theorem FR.ks {h h1 : Hp} (a : FR h h1) : KS h h1 := by
  have z : ∀ r, r ≠ 418 → r ≠ 400 → (fun r : Nat => r == 418 || r == 400) r = false := fun r h1 h2 => by
    show (_ || _) = false
    rw [Bool.or_eq_false_iff]
    exact ⟨by simpa using h1, by simpa using h2⟩
  refine ⟨a.1.y4 fun r hr => ?_, fun k _ _ h26 _ => a.2 k h26, fun r hr k => a.1.i (z r (by omega) (by omega)) k⟩
  simp only [Bool.or_eq_true, beq_iff_eq] at hr
  omega
theorem FR.i {h h1 : Hp} (a : FR h h1) {r : Nat} (h1' : r ≠ 418) (h2 : r ≠ 400) (k : Int) : iv h1 r k = iv h r k := a.1.i (by
  show (_ || _) = false
  rw [Bool.or_eq_false_iff]
  exact ⟨by simpa using h1', by simpa using h2⟩) k
theorem FR.row (h : Hp) (k v : Int) : FR h (setI h 418 k v) := ⟨Fr.set h k v rfl, fun z _ => iv_ne (by decide)⟩
theorem FR.chg (h : Hp) (v : Int) : FR h (setI h 400 26 v) := ⟨Fr.set h 26 v rfl, fun z hz => iv_nk hz⟩
theorem y_has {used g : Nat} (hu : used < 128) (hg : g < 9) (k1 : (used >>> g) &&& 1 = 1 → P (.int (I 1)) h) (k0 : ¬ (used >>> g) &&& 1 = 1 → P (.int (I 0)) h) : R 142 0 [.int (I (used : Nat)), .int (I (g : Nat))] [] h P := by
  have hle := Nat.shiftRight_le used g
  have e1 : shr (used : Nat) (g : Nat) = ((used >>> g : Nat) : Int) := shr_nat (by omega) (by omega)
  have e2 : band ((used >>> g : Nat) : Int) 1 = ((used >>> g &&& 1 : Nat) : Int) := band_nat (b := 1) (by omega) (by decide)
  have hl : used >>> g &&& 1 ≤ 1 := Nat.and_le_right
  refine t_Y_has ?_
  rw [e1, e2]
  exact ⟨by omega, fun c => k1 (by omega), fun c => k0 (by omega)⟩
theorem open_sel (S : YS h) {used : Nat} (hu : used < 128) {a1 : Value} {a2 a4 p : Int} {sel : Nat} (hsel : sel < 8) (hp : 0 ≤ p ∧ p < 7) (kk : ∀ a6, R 141 13 [.ref 400, a1, .int (I a2), .int (I ((used ||| (1 <<< sel) : Nat) : Int)), .int (I a4), .int (I (p + 1)), a6, .int (I (sel : Nat))] [] (setI h 418 p (sel : Nat)) P) : ∀ (f k g : Nat), g + f = 8 → k < 100 → selg used f k g = sel →
    R 141 48 [.ref 400, a1, .int (I a2), .int (I (used : Nat)), .int (I a4), .int (I p), .int (I (k : Nat)), .int (I (g : Nat))] [] h P := by
  intro f
  induction f with
  | zero =>
    intro k g hg hk hs
    rw [selg] at hs
    omega
  | succ f ih =>
    intro k g hg hk hs
    rw [selg] at hs
    refine t_Y_open_48 S (y_has hu (by omega) (fun c => ?_) (fun c => ?_))
    · rw [if_pos c] at hs
      refine t_Y_open_54 S ⟨by decide, fun q => absurd q (by decide), fun _ => y_has hu (by omega) (fun _ => ?_) (fun c2 => absurd c c2)⟩
      refine t_Y_open_70 S ⟨by decide, fun q => absurd q (by decide), fun _ => ?_⟩
      rw [Int.sub_zero]
      exact ih k (g + 1) (by omega) hk hs
    · rw [if_neg c] at hs
      refine t_Y_open_54 S ⟨by decide, fun _ => ⟨by omega, fun c2 => y_has hu (by omega) (fun c3 => absurd c3 c) (fun _ => ?_), fun c2 => ⟨hp.1, hp.2, ?_⟩⟩, fun q => absurd rfl q⟩
      · rw [if_neg (by omega)] at hs
        refine t_Y_open_70 S ⟨by decide, fun _ => ?_, fun q => absurd rfl q⟩
        rw [show ((k : Nat) : Int) - 1 = ((k - 1 : Nat) : Int) by omega]
        exact ih (k - 1) (g + 1) (by omega) (by omega) hs
      · rw [if_pos (by omega)] at hs
        subst hs
        have e1 : (1 : Nat) <<< g < 2147483648 := by
          rw [one_sh]
          exact Nat.lt_of_le_of_lt (pow2_le (b := 8) (by omega)) (by decide)
        rw [show (1 : Int) = ((1 : Nat) : Int) from rfl, shl_nat (by omega) e1, bor_nat (by omega) e1, wr_eq (show rng (g : Nat) by omega)]
        exact kk _
def F8 (h h' : Hp) : Prop := Fr (fun r => r == 418) h h'
theorem F8.tr {h h1 h2 : Hp} (a : F8 h h1) (b : F8 h1 h2) : F8 h h2 := Fr.tr a b
theorem F8.fr {h h' : Hp} (a : F8 h h') : FR h h' := ⟨Fr.mono a fun r hr => (Bool.or_eq_false_iff.mp hr).1, fun k _ => Fr.i a rfl k⟩
theorem open_loop {r : Nat} (hr : okRow n r) {a1 : Value} : ∀ (k p left used : Nat) (h : Hp) (a6 a7 : Value), p + k = n → RY n d h lo → left < fct k → used < 128 → eqL r (opl k left used) p = true → (∀ q : Nat, q < p → iv h 418 q = (dg r q : Nat)) →
    (∀ h', F8 h h' → RW n r h' → P .null h') → R 141 13 [.ref 400, a1, .int (I (left : Nat)), .int (I (used : Nat)), .int (I (fct k : Nat)), .int (I (p : Nat)), a6, a7] [] h P := by
  intro k
  induction k with
  | zero =>
    intro p left used h a6 a7 hp x hl hu he hv kk
    have hn := x.n7
    refine t_Y_open_13 x.S ?_
    rw [x.g]
    exact ⟨by omega, by omega, fun c => absurd c (by omega), fun _ => kk h (Fr.rf _ _) fun q hq => hv q (by omega)⟩
  | succ k ih =>
    intro p left used h a6 a7 hp x hl hu he hv kk
    have hn := x.n7
    have fk := fct_le (k := k) (by omega)
    have fk1 := fct_le (k := k + 1) (by omega)
    have fp := fct_pos k
    rw [opl, eqL, Bool.and_eq_true] at he
    have hs := Nat.eq_of_beq_eq_true he.1
    have d8 := dg_lt r p
    have dn := hr.d (by omega) (p := p) (by omega)
    have e0 : (n : Int) - (p : Int) = ((k + 1 : Nat) : Int) := by omega
    have e1 : ((fct (k + 1) : Nat) : Int) / ((k + 1 : Nat) : Int) = (fct k : Nat) := by
      show (((k + 1) * fct k : Nat) : Int) / ((k + 1 : Nat) : Int) = _
      have : ((k + 1) * fct k) / (k + 1) = fct k := Nat.mul_div_cancel_left _ (Nat.succ_pos k)
      rw [← Int.natCast_ediv, this]
    have hrk : left < (k + 1) * fct k := hl
    have q7 : left / fct k < k + 1 := Nat.div_lt_of_lt_mul (by rw [Nat.mul_comm]; exact hrk)
    refine t_Y_open_13 x.S ?_
    rw [x.g, e0, e1]
    refine ⟨by omega, by omega, fun _ => ⟨by omega, by omega, by omega, by omega, by omega, by omega, ?_⟩, fun c => absurd (by omega) c⟩
    have g1 : ((left : Nat) : Int) / ((fct k : Nat) : Int) = ((left / fct k : Nat) : Int) := rfl
    have g2 : ((left : Nat) : Int) % ((fct k : Nat) : Int) = ((left % fct k : Nat) : Int) := rfl
    rw [g1, g2]
    rw [hs] at he
    refine open_sel x.S hu d8 (by omega) (fun a6 => ?_) 8 (left / fct k) 0 (by decide) (by omega) hs
    have f1 : F8 h (setI h 418 (p : Nat) (dg r p : Nat)) := Fr.set h _ _ rfl
    have u1 : (1 : Nat) <<< dg r p < 2 ^ 7 := by
      rw [one_sh]
      exact Nat.lt_of_le_of_lt (pow2_le (b := 6) (by omega)) (by decide)
    refine ih (p + 1) (left % fct k) (used ||| 1 <<< dg r p) _ _ _ (by omega) (x.ks f1.fr.ks) (Nat.mod_lt _ fp) (Nat.or_lt_two_pow (n := 7) hu u1) he.2 (fun q hq => ?_) fun h' f2 w => kk h' (f1.tr f2) w
    rw [iv_setI]
    by_cases e : q = p
    · rw [if_pos ⟨rfl, by rw [e]⟩, e]
    · rw [if_neg (fun z => e (Int.ofNat.inj z.2))]
      exact hv q (by omega)
theorem y_open8 (x : RY n d h lo) (hn : 2 ≤ n) {lie : Nat} (hl : lie < fct n) (kk : ∀ h', F8 h h' → RW n (rw_ n lie) h' → P .null h') : R 141 0 [.ref 400, .int (I (lie : Nat)), .retAddr 0, .retAddr 0, .retAddr 0, .retAddr 0, .retAddr 0, .retAddr 0] [] h P := by
  have hn7 := x.n7
  have rf_ := rank_facts (by omega) hl
  refine t_Y_open x.S ?_
  rw [x.ls, lies_pos hn]
  exact open_loop (r := rw_ n lie) ⟨lie, hl, rfl⟩ n 0 lie 0 h _ _ (by omega) x hl (by decide) rf_.2.2.1 (fun q hq => absurd hq (Nat.not_lt_zero _)) kk
theorem y_open (x : RY n d h lo) (hn : 2 ≤ n) {lie : Nat} (hl : lie < fct n) (kk : ∀ h', FR h h' → RW n (rw_ n lie) h' → P .null h') : R 141 0 [.ref 400, .int (I (lie : Nat)), .retAddr 0, .retAddr 0, .retAddr 0, .retAddr 0, .retAddr 0, .retAddr 0] [] h P := y_open8 x hn hl fun h' f w => kk h' f.fr w
/-! put together -/
theorem closed_in (x : RY n d h lo) {r : Nat} (hr : okRow n r) (w : RW n r h) {lie p : Nat} (hp : p < n) (kk : ∀ a4, R 161 4 [.ref 400, .int (I (((lie * (n - p) + lss r p (n - (p + 1)) : Nat)) : Int)), .int (I ((p : Int) + 1)), .int (I (lss r p (n - (p + 1)) : Nat)), a4] [] h P) : ∀ (k j : Nat), j + k = n - (p + 1) →
    R 161 19 [.ref 400, .int (I (lie : Nat)), .int (I (p : Nat)), .int (I (lss r p j : Nat)), .int (I ((p : Int) + 1 + (j : Nat)))] [] h P := by
  have hn := x.n7
  intro k
  induction k with
  | zero =>
    intro j hj
    have e : j = n - (p + 1) := by omega
    subst e
    refine t_Y_closed_19 x.S ?_
    rw [x.g]
    refine ⟨by omega, by omega, fun c => absurd c (by omega), fun _ => ?_⟩
    have z := kk (.int (I ((p : Int) + 1 + ((n - (p + 1) : Nat) : Int))))
    rw [show ((lie * (n - p) + lss r p (n - (p + 1)) : Nat) : Int) = (lie : Int) * ((n : Int) - (p : Int)) + (lss r p (n - (p + 1)) : Nat) by
      rw [show (n : Int) - (p : Int) = ((n - p : Nat) : Int) by omega]
      rfl] at z
    exact z
  | succ k ih =>
    intro j hj
    have q1 := w (p + 1 + j) (by omega)
    have q2 := w p hp
    have d1 := dg_lt r (p + 1 + j)
    have d2 := dg_lt r p
    have ec : ((p : Int) + 1 + (j : Nat)) = ((p + 1 + j : Nat) : Int) := by omega
    have z := ih (j + 1) (by omega)
    rw [lss, show p + j + 1 = p + 1 + j by omega] at z
    refine t_Y_closed_19 x.S ?_
    rw [x.g, ec, q1, q2]
    refine ⟨by omega, by omega, fun _ => ⟨by omega, by omega, by omega, by omega, by omega, by omega, fun c => ?_, fun c => ?_⟩, fun c => absurd (by omega) c⟩
    · rw [if_pos (by omega)] at z
      exact z
    · rw [if_neg (by omega)] at z
      rw [Int.add_zero]
      exact z
theorem closed_out (x : RY n d h lo) {r : Nat} (hr : okRow n r) (w : RW n r h) (kk : P (.int (I (cl n r : Nat))) h) : ∀ (k p lie : Nat) (a3 a4 : Value), p + k = n → clg n r k lie = cl n r → R 161 4 [.ref 400, .int (I (lie : Nat)), .int (I (p : Nat)), a3, a4] [] h P := by
  have hn := x.n7
  intro k
  induction k with
  | zero =>
    intro p lie a3 a4 hp hc
    rw [clg] at hc
    refine t_Y_closed_4 x.S ?_
    rw [x.g, hc]
    exact ⟨by omega, by omega, fun c => absurd c (by omega), fun _ => kk⟩
  | succ k ih =>
    intro p lie a3 a4 hp hc
    rw [clg] at hc
    refine t_Y_closed_4 x.S ?_
    rw [x.g]
    refine ⟨by omega, by omega, fun _ => ?_, fun c => absurd (by omega) c⟩
    have z := closed_in (P := P) x hr w (lie := lie) (p := p) (by omega) (fun a4 => ?_) (n - (p + 1)) 0 (by omega)
    · have e0 : ((p : Int) + 1 + ((0 : Nat) : Int)) = (p : Int) + 1 := by omega
      rw [e0] at z
      exact z
    · refine ih (p + 1) _ _ _ (by omega) ?_
      rw [show n - p = k + 1 by omega, show n - (p + 1) = k by omega]
      rw [show n - (k + 1) = p by omega] at hc
      exact hc
theorem y_closed (x : RY n d h lo) {r : Nat} (hr : okRow n r) (w : RW n r h) (kk : P (.int (I (cl n r : Nat))) h) : R 161 0 [.ref 400, .retAddr 0, .retAddr 0, .retAddr 0, .retAddr 0] [] h P :=
  t_Y_closed x.S (closed_out x hr w kk n 0 0 _ _ (by omega) rfl)
end MODEL
