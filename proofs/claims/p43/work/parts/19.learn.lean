/-! What a rule learns. -/
theorem bit1 (w p : Nat) : (w >>> p) &&& 1 = if w.testBit p = true then 1 else 0 := by
  unfold Nat.testBit
  rw [Nat.and_comm 1]
  have h : w >>> p &&& 1 ≤ 1 := Nat.and_le_right
  by_cases q : w >>> p &&& 1 = 0
  · rw [q]; rfl
  · have e : w >>> p &&& 1 = 1 := by omega
    rw [e]; rfl
def EB (c : Nat → Nat → Nat → Bool) (x y p w : Nat) : Prop := w < 2 ^ p ∧ ∀ p', p' < p → w.testBit p' = c x y p'
theorem EB.no {c : Nat → Nat → Nat → Bool} {x y p w : Nat} (e : EB c x y p w) (hc : c x y p = false) : EB c x y (p + 1) w := by
  refine ⟨Nat.lt_of_lt_of_le e.1 (pow2_le (Nat.le_succ p)), fun p' hp => ?_⟩
  by_cases q : p' = p
  · rw [q, hc]; exact Nat.testBit_lt_two_pow e.1
  · exact e.2 p' (by omega)
theorem EB.yes {c : Nat → Nat → Nat → Bool} {x y p w : Nat} (e : EB c x y p w) (hc : c x y p = true) : EB c x y (p + 1) (w ||| 1 <<< p) := by
  have h1 : 1 <<< p < 2 ^ (p + 1) := by rw [one_sh, Nat.pow_succ]; have := Nat.two_pow_pos p; omega
  refine ⟨Nat.or_lt_two_pow (Nat.lt_of_lt_of_le e.1 (pow2_le (Nat.le_succ p))) h1, fun p' hp => ?_⟩
  rw [Nat.testBit_or, one_sh, Nat.testBit_two_pow]
  by_cases q : p' = p
  · rw [q, hc, Nat.testBit_lt_two_pow e.1]
    simp
  · rw [e.2 p' (by omega)]
    have : decide (p = p') = false := decide_eq_false (fun z => q z.symm)
    rw [this, Bool.or_false]
def scr (q : Nat) : Prop := q = 18 ∨ ∃ l j : Nat, l < 4 ∧ j < 3 ∧ q = 64 * (l + 1) + 18 + 4 * j
theorem scr.no {q : Nat} (h : scr q) : q ≠ 1 ∧ q ≠ 2 ∧ q ≠ 3 ∧ q ≠ 500 ∧ (∀ g, g < 7 → q ≠ 30 + g) ∧ ∀ l c : Nat, c < 6 → q ≠ 64 * (l + 1) + 3 + c := by
  rcases h with rfl | ⟨l, j, hl, hj, rfl⟩
  · exact ⟨by decide, by decide, by decide, by decide, fun g hg => by omega, fun l c hc => by omega⟩
  · exact ⟨by omega, by omega, by omega, by omega, fun g hg => by omega, fun l c hc => by omega⟩
/-- the grains as they lie -/
def GG (n : Nat) (d : Nat → Nat → Int) (h : Hp) : Prop := ∀ g, g < n → fl h 2 g = true ∧ GR d g h (30 + g)
theorem GG.fr {n : Nat} {d : Nat → Nat → Int} {h h1 : Hp} {S : Nat → Bool} (g : GG n d h) (a : Fr S h h1) (s : ∀ g, g < n → S (30 + g) = false) : GG n d h1 := by
  intro x hx
  obtain ⟨g1, g2, g3, g4, g5, g6, g7, g8⟩ := g x hx
  have e := s x hx
  unfold GR
  rw [a.f, a.t, a.i e, a.i e, a.i e, a.i e, a.i e, a.i e]
  exact ⟨g1, g2, g3, g4, g5, g6, g7, g8⟩
theorem LW.fr {d : Nat → Nat → Int} {l : Nat} {h h1 : Hp} {S : Nat → Bool} (g : LW d l h) (a : Fr S h h1) (s : ∀ c, c < 6 → S (64 * (l + 1) + 3 + c) = false) : LW d l h1 := by
  obtain ⟨w, wc, wm⟩ := g
  refine ⟨?_, fun c hc hd => ?_, fun j hj => ?_⟩
  · rw [a.t, a.t, a.t, a.f, a.f, a.l, a.l]; exact w
  · rw [a.f, a.t, a.i (s c hc), a.i (s c hc), a.i (s c hc)]
    exact wc c hc hd
  · rw [a.f, a.f, a.f, a.f, a.t, a.t, a.t, a.t, a.l, a.l]
    exact wm j hj
/-- what stands while a rule learns -/
def LE (n : Nat) (d : Nat → Nat → Int) (l r : Nat) (h : Hp) : Prop := BX n h ∧ GG n d h ∧ LW d l h ∧ (tg h r = 8 ∧ fl h r 0 = true ∧ child r 0 ≠ r ∧ tg h (child r 0) = 20 ∧ ln h (child r 0) = 64)
theorem LE.fr {n : Nat} {d : Nat → Nat → Int} {l r : Nat} {h h1 : Hp} (g : LE n d l r h) (hs : scr (child r 0)) (a : Fr (fun z => z == child r 0) h h1) : LE n d l r h1 := by
  obtain ⟨n1, n2, n3, n4, n5, n6⟩ := hs.no
  obtain ⟨g1, g2, g3, g4⟩ := g
  have hn := g1.2.1
  refine ⟨g1.fr a ?_ ?_ ?_, g2.fr a fun g hg => ?_, g3.fr a fun c hc => ?_, by rw [a.t, a.t, a.f, a.l]; exact g4⟩
  · simpa using Ne.symm n1
  · simpa using Ne.symm n4
  · simpa using Ne.symm n3
  · simpa using Ne.symm (n5 g (by omega))
  · simpa using Ne.symm (n6 l c hc)
section LEARN
variable {d : Nat → Nat → Int} {P : Value → Hp → Prop} {n l r : Nat} {hard lo : Int}
theorem learn_p (hl : l < 4) (hs : scr (child r 0)) (lb : LB d l) (hb : GB n d) (hh : rng hard) (hlo : rng lo) {x y : Nat} (hx : x < n) (hy : y < n) : ∀ (k p w : Nat) (h : Hp) (l8 : Value), p + k = n - 1 → LE n d l r h → iv h (child r 0) ((8 * x + y : Nat) : Int) = (w : Nat) → EB (chg d l hard lo) x y p w →
    (∀ (h' : Hp) (w' : Nat) (pp : Int) (l8' : Value), Fr (fun z => z == child r 0) h h' → (∀ i : Int, i ≠ ((8 * x + y : Nat) : Int) → iv h' (child r 0) i = iv h (child r 0) i) → iv h' (child r 0) ((8 * x + y : Nat) : Int) = (w' : Nat) → EB (chg d l hard lo) x y (n - 1) w' →
      R 56 15 [.ref r, .ref 1, .ref (64 * (l + 1)), .int (I hard), .int (I lo), .int (I (x : Nat)), .int (I ((y : Nat) + 1)), .int (I pp), l8'] [] h' P) →
    R 56 41 [.ref r, .ref 1, .ref (64 * (l + 1)), .int (I hard), .int (I lo), .int (I (x : Nat)), .int (I (y : Nat)), .int (I (p : Nat)), l8] [] h P := by
  intro k
  induction k with
  | zero =>
    intro p w h l8 hp le hw eb kk
    have e : p = n - 1 := by omega
    obtain ⟨g1, g2, g3, g4⟩ := le
    have e1 := g1.2.2.1
    have hn := g1.2.1
    refine t_Rule_learn_41 ⟨g1.1.t1, by omega, by omega, fun c => absurd c (by omega), fun c => ?_⟩
    exact kk h w p l8 (Fr.rf _ _) (fun _ _ => rfl) hw (e ▸ eb)
  | succ k ih =>
    intro p w h l8 hp le hw eb kk
    obtain ⟨g1, g2, g3, q1, q2, q3, q4, q5⟩ := id le
    have S := g1.1
    have e1 := g1.2.2.1
    have hn := g1.2.1
    obtain ⟨x1, x2⟩ := g2 x hx
    obtain ⟨y1, y2⟩ := g2 y hy
    have tx := x2.1
    have ty := y2.1
    have c10 : child 1 0 = 2 := rfl
    have hln2 := S.l2
    have ht2 := S.t2
    have e8 : (8 * (x : Int)) + (y : Nat) = ((8 * x + y : Nat) : Int) := by omega
    have next : ∀ (b : chg d l hard lo x y p = false) (l8 : Value), R 56 41 [.ref r, .ref 1, .ref (64 * (l + 1)), .int (I hard), .int (I lo), .int (I (x : Nat)), .int (I (y : Nat)), .int (I ((p : Nat) + 1)), l8] [] h P := fun b l8 => ih (p + 1) w h l8 (by omega) le hw (eb.no b) kk
    refine t_Rule_learn_41 ?_
    rw [c10, show ((x : Nat) : Int).toNat = x from rfl, show ((y : Nat) : Int).toNat = y from rfl, child2 (by omega), child2 (by omega), hln2, ht2]
    refine ⟨S.t1, by omega, by omega, fun c => ⟨S.t1, S.f1_0, by omega, by omega, by omega, by omega, by omega, x1, by omega, S.t1, S.f1_0, by omega, by omega, by omega, by omega, by omega, y1, by omega, g3.1.1, ?_⟩, fun c => absurd (by omega) c⟩
    refine s_ruling (n := n) hl g3 lb (by omega) hh hlo x2 y2 hb hx hy ?_
    have bd := rulg_bd d l x y p hard lo (d 4 l).toNat 0
    have lb1 := lb.1
    obtain ⟨⟨w1, w2, w3, w4, w5, w6, w7⟩, wc, wm⟩ := g3
    have hru : rul d l x y p hard lo = rulg d l x y p hard lo (d 4 l).toNat 0 := rfl
    rw [← hru] at bd
    generalize hrr : rul d l x y p hard lo = ru at *
    refine t_Rule_learn_75 ⟨by omega, fun c => ?_, fun c => ?_⟩
    · exact next (by unfold chg; rw [hrr, c]; simp) _
    · have hc6 : ru.toNat < 6 := by omega
      have hcd : (ru.toNat : Int) < d 4 l := by omega
      obtain ⟨c1, c2, c3, c4, c5⟩ := wc _ hc6 hcd
      obtain ⟨b1, b2, b3⟩ := lb.2 _ hc6 hcd
      rw [chl0 hl, w5, chlc hl hc6]
      refine ⟨w1, w2, by omega, by omega, by omega, by omega, by omega, c1, by omega, c2, ?_⟩
      refine s_makes c2 c3 b1 (fun z => ?_) (fun z => ?_)
      · have hch : chg d l hard lo x y p = true := by unfold chg; rw [hrr]; exact @decide_eq_true _ (Classical.propDecidable _) ⟨c, z⟩
        refine t_Rule_learn_94 ⟨by omega, fun e => absurd e (by decide), fun _ => ?_⟩
        have wl : w < 2097152 := Nat.lt_of_lt_of_le eb.1 (pow_le31 (by omega))
        have w128 : w ||| 1 <<< p < 2097152 := Nat.lt_of_lt_of_le (eb.yes hch).1 (pow_le31 (by omega))
        have p1 : 1 <<< p < 2147483648 := by rw [one_sh]; exact Nat.lt_of_le_of_lt (pow_le31 (by omega)) (by decide)
        have a1 : shl 1 (p : Nat) = ((1 <<< p : Nat) : Int) := shl_nat (a := 1) (by omega) p1
        have a2 : bor (w : Nat) ((1 <<< p : Nat) : Int) = ((w ||| 1 <<< p : Nat) : Int) := bor_nat (by omega) p1
        have a3 : wr ((w ||| 1 <<< p : Nat) : Int) = ((w ||| 1 <<< p : Nat) : Int) := wr_eq (by omega)
        rw [e8, hw, a1, a2, a3, q5]
        refine ⟨q1, q2, by omega, Or.inl q4, by omega, by omega, by omega, q4, by omega, by omega, by omega, ?_⟩
        have fr : Fr (fun z => z == child r 0) h (setI h (child r 0) ((8 * x + y : Nat) : Int) ((w ||| 1 <<< p : Nat) : Int)) := Fr.set h _ _ (beq_self_eq_true _)
        refine ih (p + 1) (w ||| 1 <<< p) _ _ (by omega) (le.fr hs fr) (by rw [iv_setI, if_pos ⟨rfl, rfl⟩]) (eb.yes hch) fun h' w' pp l8' f1 f2 f3 f4 => kk h' w' pp l8' (fr.tr f1) (fun i hi => ?_) f3 f4
        rw [f2 i hi, iv_setI, if_neg (fun z => hi z.2)]
      · refine t_Rule_learn_94 ⟨by omega, fun _ => ?_, fun e => absurd rfl e⟩
        exact next (by unfold chg; rw [hrr]; exact @decide_eq_false _ (Classical.propDecidable _) (fun e => z e.2)) _
def Dn (c : Nat → Nat → Nat → Bool) (n q : Nat) (x y : Nat) (h : Hp) : Prop := ∀ x' y' : Nat, x' < n → y' < n → (x' < x ∨ (x' = x ∧ y' < y)) → ∃ w : Nat, iv h q ((8 * x' + y' : Nat) : Int) = (w : Nat) ∧ EB c x' y' (n - 1) w
theorem learn_y (hl : l < 4) (hs : scr (child r 0)) (lb : LB d l) (hb : GB n d) (hh : rng hard) (hlo : rng lo) {x : Nat} (hx : x < n) : ∀ (k y : Nat) (h : Hp) (l7 l8 : Value), y + k = n → LE n d l r h → Dn (chg d l hard lo) n (child r 0) x y h →
    (∀ (h' : Hp) (yy : Value) (l7 l8 : Value), Fr (fun z => z == child r 0) h h' → Dn (chg d l hard lo) n (child r 0) (x + 1) 0 h' → R 56 3 [.ref r, .ref 1, .ref (64 * (l + 1)), .int (I hard), .int (I lo), .int (I ((x : Nat) + 1)), yy, l7, l8] [] h' P) →
    R 56 15 [.ref r, .ref 1, .ref (64 * (l + 1)), .int (I hard), .int (I lo), .int (I (x : Nat)), .int (I (y : Nat)), l7, l8] [] h P := by
  intro k
  induction k with
  | zero =>
    intro y h l7 l8 hy le dn kk
    have g1 := le.1
    have e1 := g1.2.2.1
    have hn := g1.2.1
    refine t_Rule_learn_15 ⟨g1.1.t1, by omega, by omega, fun c => absurd c (by omega), fun c => ?_⟩
    exact kk h _ l7 l8 (Fr.rf _ _) fun x' y' hx' hy' o => dn x' y' hx' hy' (by omega)
  | succ k ih =>
    intro y h l7 l8 hy le dn kk
    obtain ⟨g1, g2, g3, q1, q2, q3, q4, q5⟩ := id le
    have e1 := g1.2.2.1
    have hn := g1.2.1
    have e8 : (8 * (x : Int)) + (y : Nat) = ((8 * x + y : Nat) : Int) := by omega
    refine t_Rule_learn_15 ?_
    rw [e8, q5]
    refine ⟨g1.1.t1, by omega, by omega, fun c => ⟨q1, q2, by omega, q4, by omega, by omega, by omega, ?_⟩, fun c => absurd (by omega) c⟩
    have fr : Fr (fun z => z == child r 0) h (setI h (child r 0) ((8 * x + y : Nat) : Int) 0) := Fr.set h _ _ (beq_self_eq_true _)
    refine learn_p hl hs lb hb hh hlo hx (y := y) (by omega) (n - 1) 0 0 _ l8 (by omega) (le.fr hs fr) (by rw [iv_setI, if_pos ⟨rfl, rfl⟩]; rfl) ⟨by decide, fun p' hp => absurd hp (Nat.not_lt_zero _)⟩ fun h' w' pp l8' f1 f2 f3 f4 => ?_
    refine ih (y + 1) h' _ _ (by omega) ((le.fr hs fr).fr hs f1) (fun x' y' hx' hy' o => ?_) fun h2 yy l7 l8 f5 f6 => kk h2 yy l7 l8 ((fr.tr f1).tr f5) f6
    by_cases e : x' = x ∧ y' = y
    · rw [e.1, e.2]
      exact ⟨w', f3, f4⟩
    · obtain ⟨w, v1, v2⟩ := dn x' y' hx' hy' (by omega)
      have ne : ((8 * x' + y' : Nat) : Int) ≠ ((8 * x + y : Nat) : Int) := by omega
      refine ⟨w, ?_, v2⟩
      rw [f2 _ ne, iv_setI, if_neg (fun z => ne z.2)]
      exact v1
theorem learn_x (hl : l < 4) (hs : scr (child r 0)) (lb : LB d l) (hb : GB n d) (hh : rng hard) (hlo : rng lo) : ∀ (k x : Nat) (h : Hp) (l6 l7 l8 : Value), x + k = n → LE n d l r h → Dn (chg d l hard lo) n (child r 0) x 0 h →
    (∀ h' : Hp, Fr (fun z => z == child r 0) h h' → RU n (chg d l hard lo) h' r → P .null h') →
    R 56 3 [.ref r, .ref 1, .ref (64 * (l + 1)), .int (I hard), .int (I lo), .int (I (x : Nat)), l6, l7, l8] [] h P := by
  intro k
  induction k with
  | zero =>
    intro x h l6 l7 l8 hx le dn kk
    obtain ⟨g1, g2, g3, q1, q2, q3, q4, q5⟩ := id le
    have e1 := g1.2.2.1
    have hn := g1.2.1
    refine t_Rule_learn_3 ⟨g1.1.t1, by omega, by omega, fun c => absurd c (by omega), fun c => ?_⟩
    refine kk h (Fr.rf _ _) ⟨q1, q2, q3, q4, q5, fun x' y' hx' hy' => ?_⟩
    obtain ⟨w, v1, v2, v3⟩ := dn x' y' hx' hy' (by omega)
    exact ⟨w, Nat.lt_of_lt_of_le v2 (pow2_le (b := 7) (by omega)), v1, fun p hp => by rw [bit1, v3 p (by omega)]⟩
  | succ k ih =>
    intro x h l6 l7 l8 hx le dn kk
    have g1 := le.1
    have e1 := g1.2.2.1
    have hn := g1.2.1
    refine t_Rule_learn_3 ⟨g1.1.t1, by omega, by omega, fun c => ?_, fun c => absurd (by omega) c⟩
    refine learn_y hl hs lb hb hh hlo (x := x) (by omega) n 0 h l7 l8 (by omega) le dn fun h' yy l7 l8 f1 f2 => ?_
    exact ih (x + 1) h' yy l7 l8 (by omega) (le.fr hs f1) f2 fun h2 f3 f4 => kk h2 (f1.tr f3) f4
theorem s_learn {h : Hp} (hl : l < 4) (hs : scr (child r 0)) (lb : LB d l) (hb : GB n d) (hh : rng hard) (hlo : rng lo) (le : LE n d l r h) (k : ∀ h' : Hp, Fr (fun z => z == child r 0) h h' → RU n (chg d l hard lo) h' r → P .null h') :
    R 56 0 [.ref r, .ref 1, .ref (64 * (l + 1)), .int (I hard), .int (I lo), .retAddr 0, .retAddr 0, .retAddr 0, .retAddr 0] [] h P :=
  t_Rule_learn (learn_x hl hs lb hb hh hlo n 0 h _ _ _ (by omega) le (fun x' y' _ _ o => by omega) k)
end LEARN
