/-! The law's own arrays: what they hold, what its little methods answer. -/
def L4 (r : Nat) : Bool := Nat.ble 10000 r
theorem L4_n {r : Nat} (h : r < 10000) : L4 r = false := by
  cases hx : L4 r with
  | false => rfl
  | true => have := Nat.le_of_ble_eq_true hx; omega
theorem L4_y {r : Nat} (h : 10000 ≤ r) : L4 r = true := Nat.ble_eq.mpr h
theorem L4_lt {r : Nat} (h : L4 r = false) : r < 10000 := by
  apply Nat.lt_of_not_le
  intro q
  rw [L4_y q] at h
  cases h
theorem X4_n {r : Nat} (h : 400 ≤ r) : X4 r = false := by
  cases hx : X4 r with
  | false => rfl
  | true => have := Nat.blt_eq.mp hx; omega
section BASE
variable {n : Nat} {d : Nat → Nat → Int} {P : Value → Hp → Prop} {h : Hp}
theorem RX.gp (x : RX n d h) {h1 : Hp} (a : ∀ r, r < 400 ∨ r = 500 ∨ r = 501 → Gp h h1 r) : RX n d h1 := by
  obtain ⟨⟨⟨b1, b2, b3, b4, b5, b6, b7, b8⟩, c, g, gg, gb, nb, ls, lw⟩, o1, o2, o3, o4, o5, o6, o7⟩ := x
  have ai : ∀ r, r < 400 ∨ r = 500 ∨ r = 501 → ∀ k, iv h1 r k = iv h r k := fun r hr => (a r hr).2.2.1
  have ai4 : ∀ r, r < 400 → ∀ k, iv h1 r k = iv h r k := fun r hr => ai r (Or.inl hr)
  have e13 : iv h1 1 3 = iv h 1 3 := ai4 1 (by decide) 3
  refine ⟨⟨⟨b1.gp fun r hr => ?_, b2, ?_, ?_, fun k hk => ?_, fun k hk => ?_, ?_, ?_⟩, fun i hi => ?_, fun r hr => ?_, gg.gp (a 2 (by omega)) fun g hg => a _ (by omega), gb, ?_, ?_, fun l hl => ?_⟩, ?_⟩
  · have q := a r (by omega)
    exact ⟨q.1, q.2.2.2, fun _ => q.2.1⟩
  · rw [ai4 1 (by decide)]; exact b3
  · rw [ai4 1 (by decide)]; exact b4
  · rw [ai 500 (by omega)]; exact b5 k hk
  · rw [ai 501 (by omega)]; exact b6 k hk
  · rw [(a 37 (by omega)).1]; exact b7
  · rw [(a 38 (by omega)).1]; exact b8
  · rw [(a 3 (by omega)).2.1] at hi
    rw [ai4 3 (by decide)]; exact c i hi
  · have hr4 : r < 400 := (by decide : ∀ r ∈ gws, r < 400) r hr
    rw [(a r (by omega)).2.1]; exact g r hr
  · rw [e13]; exact nb
  · rw [ai4 0 (by decide), ai4 0 (by decide)]; exact ls
  · obtain ⟨l1, l2, l3, l4⟩ := lw l hl
    have h4 : l < 4 := by omega
    refine ⟨(a 4 (by omega)).2.2.2 _ l1, l2.gp fun r h1 h2 => a r (by omega), l3, fun j hj => ?_⟩
    rw [(a (64 * (l + 1) + 19 + 4 * j) (by omega)).2.1]
    exact ⟨(l4 j hj).1.gp h4 hj e13 fun r h1 h2 => a r (by omega), (l4 j hj).2⟩
  · unfold RO
    rw [ai4 0 (by decide), ai4 0 (by decide), ai4 0 (by decide), ai4 0 (by decide), ai4 16 (by decide)]
    refine ⟨o1, o2, o3, o4, o5, fun r hr h8 => ?_, fun k hk => ?_⟩
    · rw [ai4 5 (by decide), ai4 6 (by decide)]; exact o6 r hr h8
    · rw [ai4 (8 + k) (by omega), ai4 (8 + k) (by omega), ai4 (8 + k) (by omega)]
      obtain ⟨c1, c2, c3, c4, c5, c6⟩ := o7 k hk
      refine ⟨c1, c2, c3, c4, c5, fun i hi => ?_⟩
      rw [ai4 (12 + k) (by omega)]
      exact c6 i hi
theorem RX.g4 (x : RX n d h) {h1 : Hp} (a : Gr L4 h h1) : RX n d h1 := x.gp fun r hr => a.p (L4_n (by omega))
theorem TZ.g4 (z : TZ d h) {h1 : Hp} (a : Gr L4 h h1) : TZ d h1 := fun l h1 h2 r h3 h4 => by
  have q := a r (L4_n (by omega))
  rw [q.1, q.2.1]
  exact z l h1 h2 r h3 h4
theorem SL.g4 {h1 : Hp} (a : Gr L4 h h1) : SL h1 = SL h := SL_eq (fun r hr => (a r (L4_n (by omega))).2.1) fun l j hl hj => (a _ (L4_n (by omega))).2.1
/-- no role is taken that a later making will have -/
def FZ (h : Hp) : Prop := ∀ r, 10000 + ck h ≤ r → tg h r = 0
def SCR (g : Int → Int) (M : Nat) (h : Hp) : Prop := tg h 502 = 30 ∧ ln h 502 = M ∧ ∀ k, iv h 502 k = g k
/-- the box in an array; a law in one; a row in one -/
def AG (n : Nat) (d : Nat → Nat → Int) (G : Nat) (h : Hp) : Prop := (tg h G = 20 ∧ ln h G = 25) ∧ iv h G 24 = (n : Nat) ∧ ∀ k : Nat, k < n → iv h G (k : Nat) = d 1 k ∧ iv h G (8 + (k : Nat)) = d 2 k ∧ iv h G (16 + (k : Nat)) = d 3 k
def AL (d : Nat → Nat → Int) (l L : Nat) (h : Hp) : Prop := (tg h L = 20 ∧ ln h L = 19) ∧ iv h L 0 = d 4 l ∧ ∀ c : Nat, (c : Int) < d 4 l → iv h L (1 + 3 * (c : Nat)) = d 5 (6 * l + c) ∧ iv h L (2 + 3 * (c : Nat)) = d 6 (6 * l + c) ∧ iv h L (3 + 3 * (c : Nat)) = d 7 (6 * l + c)
def AR (n r W : Nat) (h : Hp) : Prop := (tg h W = 20 ∧ ln h W = 7) ∧ ∀ p : Nat, p < n → iv h W (p : Nat) = (dg r p : Nat)
theorem AG.gp {G : Nat} (a : AG n d G h) {h1 : Hp} (q : Gp h h1 G) : AG n d G h1 := by
  obtain ⟨⟨a1, a2⟩, a3, a4⟩ := a
  obtain ⟨q1, q2, q3, -⟩ := q
  refine ⟨⟨q1.trans a1, q2.trans a2⟩, (q3 _).trans a3, fun k hk => ?_⟩
  rw [q3, q3, q3]; exact a4 k hk
theorem AL.gp {l L : Nat} (a : AL d l L h) {h1 : Hp} (q : Gp h h1 L) : AL d l L h1 := by
  obtain ⟨⟨a1, a2⟩, a3, a4⟩ := a
  obtain ⟨q1, q2, q3, -⟩ := q
  refine ⟨⟨q1.trans a1, q2.trans a2⟩, (q3 _).trans a3, fun k hk => ?_⟩
  rw [q3, q3, q3]; exact a4 k hk
theorem AR.gp {r W : Nat} (a : AR n r W h) {h1 : Hp} (q : Gp h h1 W) : AR n r W h1 := by
  obtain ⟨⟨a1, a2⟩, a3⟩ := a
  obtain ⟨q1, q2, q3, -⟩ := q
  refine ⟨⟨q1.trans a1, q2.trans a2⟩, fun k hk => ?_⟩
  rw [q3]; exact a3 k hk
theorem SCR.gp {g : Int → Int} {M : Nat} (a : SCR g M h) {h1 : Hp} (q : Gp h h1 502) : SCR g M h1 := ⟨q.1.trans a.1, q.2.1.trans a.2.1, fun k => (q.2.2.1 k).trans (a.2.2 k)⟩
/-- a cell of the script, some of it -/
def smv (v m : Int) : Int := band v 2147483647 % m
def clv (g : Int → Int) (M : Nat) (k : Int) : Int := if k < M then g k else 747796405 * (k + 1)
theorem band31 (a : Int) : 0 ≤ band a 2147483647 ∧ band a 2147483647 < 2147483648 := by
  have h1 : ((I a).toBitVec &&& (I 2147483647).toBitVec).toNat ≤ 2147483647 := by
    rw [BitVec.toNat_and]
    exact Nat.le_trans Nat.and_le_right (by decide)
  have h2 : band a 2147483647 = (((I a).toBitVec &&& (I 2147483647).toBitVec).toNat : Int) := by
    show ((I a).toBitVec &&& (I 2147483647).toBitVec).toInt = _
    exact BitVec.toInt_eq_toNat_of_lt (by omega)
  omega
theorem smv_bd (v : Int) {m : Int} (hm : 0 < m) : 0 ≤ smv v m ∧ smv v m < m := ⟨Int.emod_nonneg _ (by omega), Int.emod_lt_of_pos _ hm⟩
theorem s_some {v m : Int} (hm : 0 < m ∧ m < 2147483648) (k : P (.int (I (smv v m))) h) : R 88 0 [.int (I v), .int (I m)] [] h P := t_L_some ⟨band31 v, hm, k⟩
theorem s_cell {g : Int → Int} {M : Nat} (sc : SCR g M h) (hM : M ≤ 260) {k : Int} (hk : 0 ≤ k ∧ k < 1000) (kk : P (.int (I (clv g M k))) h) : R 87 0 [.ref 502, .int (I k)] [] h P := by
  obtain ⟨a1, a2, a3⟩ := sc
  refine t_L_cell ?_
  rw [a2, a3]
  unfold clv at kk
  refine ⟨Or.inr a1, by omega, by omega, fun c => ⟨Or.inr a1, by omega, by omega, by omega, t_L_cell_18 ?_⟩, fun c => t_L_cell_18 ?_⟩
  · rw [if_pos c] at kk; exact kk
  · rw [if_neg c] at kk; exact kk
theorem s_Lbulk {G : Nat} (ag : AG n d G h) (hb : GB n d) (hn : n ≤ 7) {x : Nat} (hx : x < n) (k : P (.int (I (blk d x))) h) : R 92 0 [.ref G, .int (I (x : Nat))] [] h P := by
  obtain ⟨⟨t, l⟩, -, a⟩ := ag
  obtain ⟨a1, a2, a3⟩ := a x hx
  obtain ⟨b1, b2, b3⟩ := hb x hx
  refine t_L_bulk ?_
  rw [a1, a3, l]
  unfold blk at k
  refine ⟨Or.inl t, by omega, by omega, by omega, Or.inl t, by omega, by omega, by omega, by omega, fun c => t_L_bulk_17 ?_, fun c => t_L_bulk_17 ?_⟩
  · rw [if_pos c] at k; exact k
  · rw [if_neg c] at k; rw [Int.sub_zero]; exact k
theorem s_Lheft {G : Nat} (ag : AG n d G h) (hb : GB n d) (hn : n ≤ 7) {x : Nat} (hx : x < n) (k : P (.int (I (hft d x))) h) : R 93 0 [.ref G, .int (I (x : Nat))] [] h P := by
  obtain ⟨⟨t, l⟩, -, a⟩ := ag
  obtain ⟨a1, a2, a3⟩ := a x hx
  obtain ⟨b1, b2, b3⟩ := hb x hx
  refine t_L_heft ?_
  rw [a2, a3, l]
  unfold hft at k
  refine ⟨Or.inl t, by omega, by omega, by omega, Or.inl t, by omega, by omega, by omega, by omega, fun c => t_L_heft_21 ?_, fun c => t_L_heft_21 ?_⟩
  · rw [if_pos (by omega)] at k; exact k
  · rw [if_neg (by omega)] at k; rw [Int.add_zero]; exact k
theorem soq0 {dt p : Int} {x y : Nat} : soq d 0 dt x y p ↔ dt ≤ blk d x - blk d y := by unfold soq; omega
theorem soq1 {dt p : Int} {x y : Nat} : soq d 1 dt x y p ↔ (dt ≤ hft d y - hft d x ∧ hft d x < hft d y) := by unfold soq; omega
theorem soq2 {dt p : Int} {x y : Nat} : soq d 2 dt x y p ↔ (dt ≤ blk d x ∧ hft d y ≤ hft d x ∧ blk d y < blk d x) := by unfold soq; omega
theorem soq3 {dt p : Int} {x y : Nat} : soq d 3 dt x y p ↔ (0 < d 3 x ∧ d 3 y = 0 ∧ p < dt) := by unfold soq; omega
theorem soq4 {dt p : Int} {x y : Nat} : soq d 4 dt x y p ↔ dt ≤ p := by unfold soq; omega
theorem soq5 {dt p : Int} {x y : Nat} : soq d 5 dt x y p ↔ (hft d x - hft d y < dt ∧ hft d y - hft d x < dt) := by unfold soq; omega
theorem rul_is {G L : Nat} {a2 a3 a4 a5 a6 a7 : Int} {a8 a9 a10 : Value} (b : Prop) {s : Int} (hs : (s = 1 ∧ b) ∨ (s = 0 ∧ ¬ b)) (k1 : b → P (.int (I a7)) h) (k0 : ¬ b → ∀ a8 a9 a10 a11, R 91 3 [.ref G, .ref L, .int (I a2), .int (I a3), .int (I a4), .int (I a5), .int (I a6), .int (I (a7 + 1)), a8, a9, a10, a11] [] h P) :
    R 91 260 [.ref G, .ref L, .int (I a2), .int (I a3), .int (I a4), .int (I a5), .int (I a6), .int (I a7), a8, a9, a10, .int (I s)] [] h P := by
  rcases hs with ⟨rfl, hs⟩ | ⟨rfl, hs⟩
  · exact t_L_ruling_260 ⟨by decide, fun q => absurd q (by decide), fun _ => k1 hs⟩
  · exact t_L_ruling_260 ⟨by decide, fun _ => t_L_ruling_268 (k0 hs _ _ _ _), fun q => absurd rfl q⟩
theorem Lrul_loop {G L l : Nat} (hn : n ≤ 7) (ag : AG n d G h) (al : AL d l L h) (hb : GB n d) (lb : LB d l) {x y : Nat} (hx : x < n) (hy : y < n) {p hard lo : Int} (hp : 0 ≤ p ∧ p < 100) (hh : rng hard) (hlo : rng lo) : ∀ (k c : Nat), (c : Int) + k = d 4 l → P (.int (I (rulg d l x y p hard lo k c))) h → ∀ a8 a9 a10 a11 : Value,
    R 91 3 [.ref G, .ref L, .int (I lo), .int (I (x : Nat)), .int (I (y : Nat)), .int (I p), .int (I hard), .int (I (c : Nat)), a8, a9, a10, a11] [] h P := by
  intro k
  obtain ⟨⟨t1, l1⟩, z0, al3⟩ := id al
  obtain ⟨⟨m1, m6⟩, lb2⟩ := id lb
  induction k with
  | zero =>
    intro c hc kk a8 a9 a10 a11
    refine t_L_ruling_3 ?_
    rw [z0, l1]
    exact ⟨Or.inl t1, by omega, by omega, by omega, by omega, fun q => absurd q (by omega), fun _ => kk⟩
  | succ k ih =>
    intro c hc kk a8 a9 a10 a11
    have hcl : (c : Int) < d 4 l := by omega
    obtain ⟨e5, e6, e7⟩ := al3 c hcl
    obtain ⟨b5, b6, b7⟩ := lb2 c (by omega) hcl
    rw [rulg] at kk
    have nx : ¬ ((c : Int) ≠ lo ∧ d 7 (6 * l + c) ≤ hard ∧ soq d (d 5 (6 * l + c)) (d 6 (6 * l + c)) x y p) → ∀ a8 a9 a10 a11, R 91 3 [.ref G, .ref L, .int (I lo), .int (I (x : Nat)), .int (I (y : Nat)), .int (I p), .int (I hard), .int (I ((c : Int) + 1)), a8, a9, a10, a11] [] h P := fun q a8 a9 a10 a11 => by
      rw [if_neg q] at kk
      exact ih (c + 1) (by omega) kk a8 a9 a10 a11
    refine t_L_ruling_3 ?_
    rw [z0, l1, e7, e6]
    refine ⟨Or.inl t1, by omega, by omega, by omega, by omega, fun _ => ⟨by omega, hlo, fun q => t_L_ruling_268 (nx (fun z => z.1 q) _ _ _ _), fun q => ⟨Or.inl t1, by omega, by omega, by omega, by omega, hh, fun q2 => t_L_ruling_268 (nx (fun z => by omega) _ _ _ _), fun q2 => ⟨Or.inl t1, by omega, by omega, by omega, ?_⟩⟩⟩, fun q => absurd hcl q⟩
    have kk1 : soq d (d 5 (6 * l + c)) (d 6 (6 * l + c)) x y p → P (.int (I (c : Nat))) h := fun z => by rw [if_pos ⟨q, by omega, z⟩] at kk; exact kk
    have kk0 : ¬ soq d (d 5 (6 * l + c)) (d 6 (6 * l + c)) x y p → ∀ a8 a9 a10 a11, R 91 3 [.ref G, .ref L, .int (I lo), .int (I (x : Nat)), .int (I (y : Nat)), .int (I p), .int (I hard), .int (I ((c : Int) + 1)), a8, a9, a10, a11] [] h P := fun z => nx (fun w => z w.2.2)
    obtain ⟨x1, x2, x3⟩ := hb.b hx
    obtain ⟨y1, y2, y3⟩ := hb.b hy
    refine s_Lbulk ag hb hn hx (t_L_ruling_48 (s_Lbulk ag hb hn hy (t_L_ruling_54 (s_Lheft ag hb hn hy (t_L_ruling_63 (s_Lheft ag hb hn hx (t_L_ruling_68 ?_)))))))
    obtain ⟨⟨gt, gl⟩, -, ga⟩ := id ag
    rw [e5, l1, gl, (ga x hx).2.2, (ga y hy).2.2]
    clear nx kk ih ga al3 lb2 e5 e6 e7
    generalize d 5 (6 * l + c) = lt at *
    generalize d 6 (6 * l + c) = dt at *
    refine ⟨Or.inl t1, by omega, by omega, by omega, by omega, ⟨fun e => ?_, fun e => ?_, fun e => ?_, fun e => ?_, fun e => ?_⟩, fun e => ?_⟩
    · subst e
      rw [soq0] at kk1 kk0
      exact ⟨by omega, by omega, fun q => t_L_ruling_128 (rul_is _ (Or.inr ⟨rfl, by omega⟩) kk1 kk0), fun q => t_L_ruling_128 (rul_is _ (Or.inl ⟨rfl, by omega⟩) kk1 kk0)⟩
    · subst e
      rw [soq1] at kk1 kk0
      exact ⟨by omega, by omega, fun q => t_L_ruling_149 (t_L_ruling_150 (rul_is _ (Or.inr ⟨rfl, by omega⟩) kk1 kk0)), fun q => ⟨by omega, fun q2 => t_L_ruling_150 (rul_is _ (Or.inl ⟨rfl, by omega⟩) kk1 kk0), fun q2 => t_L_ruling_149 (t_L_ruling_150 (rul_is _ (Or.inr ⟨rfl, by omega⟩) kk1 kk0))⟩⟩
    · subst e
      rw [soq2] at kk1 kk0
      refine s_Lbulk ag hb hn hx (t_L_ruling_160 ⟨by omega, by omega, fun q => t_L_ruling_179 (t_L_ruling_180 (rul_is _ (Or.inr ⟨rfl, by omega⟩) kk1 kk0)), fun q => ⟨by omega, fun q2 => t_L_ruling_179 (t_L_ruling_180 (rul_is _ (Or.inr ⟨rfl, by omega⟩) kk1 kk0)), fun q2 => ⟨by omega, fun q3 => t_L_ruling_180 (rul_is _ (Or.inl ⟨rfl, by omega⟩) kk1 kk0), fun q3 => t_L_ruling_179 (t_L_ruling_180 (rul_is _ (Or.inr ⟨rfl, by omega⟩) kk1 kk0))⟩⟩⟩)
    · subst e
      rw [soq3] at kk1 kk0
      exact ⟨Or.inl gt, by omega, by omega, by omega, by omega, fun q => ⟨Or.inl gt, by omega, by omega, by omega, by omega, fun q2 => ⟨by omega, by omega, fun q3 => t_L_ruling_216 (rul_is _ (Or.inl ⟨rfl, by omega⟩) kk1 kk0), fun q3 => t_L_ruling_215 (t_L_ruling_216 (rul_is _ (Or.inr ⟨rfl, by omega⟩) kk1 kk0))⟩, fun q2 => t_L_ruling_215 (t_L_ruling_216 (rul_is _ (Or.inr ⟨rfl, by omega⟩) kk1 kk0))⟩, fun q => t_L_ruling_215 (t_L_ruling_216 (rul_is _ (Or.inr ⟨rfl, by omega⟩) kk1 kk0))⟩
    · subst e
      rw [soq4] at kk1 kk0
      exact ⟨by omega, by omega, fun q => t_L_ruling_233 (rul_is _ (Or.inr ⟨rfl, by omega⟩) kk1 kk0), fun q => t_L_ruling_233 (rul_is _ (Or.inl ⟨rfl, by omega⟩) kk1 kk0)⟩
    · obtain rfl : lt = 5 := by omega
      rw [soq5] at kk1 kk0
      exact ⟨by omega, by omega, fun q => ⟨by omega, by omega, fun q2 => t_L_ruling_258 (rul_is _ (Or.inl ⟨rfl, by omega⟩) kk1 kk0), fun q2 => t_L_ruling_257 (t_L_ruling_258 (rul_is _ (Or.inr ⟨rfl, by omega⟩) kk1 kk0))⟩, fun q => t_L_ruling_257 (t_L_ruling_258 (rul_is _ (Or.inr ⟨rfl, by omega⟩) kk1 kk0))⟩
theorem s_Lruling {G L l : Nat} (hn : n ≤ 7) (ag : AG n d G h) (al : AL d l L h) (hb : GB n d) (lb : LB d l) {x y : Nat} (hx : x < n) (hy : y < n) {p hard lo : Int} (hp : 0 ≤ p ∧ p < 100) (hh : rng hard) (hlo : rng lo) (k : P (.int (I (rul d l x y p hard lo))) h) :
    R 91 0 [.ref G, .ref L, .int (I lo), .int (I (x : Nat)), .int (I (y : Nat)), .int (I p), .int (I hard), .retAddr 0, .retAddr 0, .retAddr 0, .retAddr 0, .retAddr 0] [] h P :=
  t_L_ruling (Lrul_loop hn ag al hb lb hx hy hp hh hlo (d 4 l).toNat 0 (by have := lb.1.1; omega) k _ _ _ _)
end BASE
