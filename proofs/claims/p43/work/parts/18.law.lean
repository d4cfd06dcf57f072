/-! Laws: which cause rules a pair. -/
def blk (d : Nat → Nat → Int) (g : Nat) : Int := if 0 < d 3 g then d 1 g - 1 else d 1 g
def hft (d : Nat → Nat → Int) (g : Nat) : Int := if d 3 g = 2 then d 2 g + 2 else d 2 g
def soq (d : Nat → Nat → Int) (lt dt : Int) (x y : Nat) (p : Int) : Prop :=
  (lt = 0 ∧ dt ≤ blk d x - blk d y) ∨ (lt = 1 ∧ dt ≤ hft d y - hft d x ∧ hft d x < hft d y) ∨ (lt = 2 ∧ dt ≤ blk d x ∧ hft d y ≤ hft d x ∧ blk d y < blk d x) ∨
  (lt = 3 ∧ 0 < d 3 x ∧ d 3 y = 0 ∧ p < dt) ∨ (lt = 4 ∧ dt ≤ p) ∨ (lt = 5 ∧ hft d x - hft d y < dt ∧ hft d y - hft d x < dt)
/-- a grain as it lies -/
def GR (d : Nat → Nat → Int) (g : Nat) (h : Hp) (r : Nat) : Prop := ((tg h r = 3 ∧ d 3 g = 0) ∨ (tg h r = 5 ∧ d 3 g = 1) ∨ (tg h r = 7 ∧ d 3 g = 2)) ∧ iv h r 0 = (g : Nat) ∧ iv h r 1 = d 3 g ∧ iv h r 2 = d 1 g ∧ iv h r 3 = d 2 g ∧ iv h r 4 = blk d g ∧ iv h r 5 = hft d g
def GB (n : Nat) (d : Nat → Nat → Int) : Prop := ∀ g, g < n → (1 ≤ d 1 g ∧ d 1 g ≤ 9) ∧ (1 ≤ d 2 g ∧ d 2 g ≤ 9) ∧ (0 ≤ d 3 g ∧ d 3 g ≤ 2)
theorem GB.b {n : Nat} {d : Nat → Nat → Int} (b : GB n d) {g : Nat} (hg : g < n) : (0 ≤ blk d g ∧ blk d g ≤ 9) ∧ (1 ≤ hft d g ∧ hft d g ≤ 11) ∧ (0 ≤ d 3 g ∧ d 3 g ≤ 2) := by
  obtain ⟨b1, b2, b3⟩ := b g hg
  unfold blk hft
  refine ⟨?_, ?_, b3⟩
  · split <;> omega
  · split <;> omega
theorem s_isSo {d : Nat → Nat → Int} {h : Hp} {P : Value → Hp → Prop} {r r1 r2 x y : Nat} {p lt dt : Int} (tr : tg h r = 2) (i0 : iv h r 0 = lt) (i1 : iv h r 1 = dt) (hlt : 0 ≤ lt ∧ lt ≤ 5) (hdt : 0 ≤ dt ∧ dt ≤ 9) (hp : rng p) (gx : GR d x h r1) (gy : GR d y h r2) {n : Nat} (hb : GB n d) (hx : x < n) (hy : y < n)
    (k1 : soq d lt dt x y p → P (.int (I 1)) h) (k0 : ¬ soq d lt dt x y p → P (.int (I 0)) h) : R 52 0 [.ref r, .ref r1, .ref r2, .int (I p)] [] h P := by
  obtain ⟨x0, x1, x2, x3, x4, x5, x6⟩ := gx
  obtain ⟨y0, y1, y2, y3, y4, y5, y6⟩ := gy
  obtain ⟨a1, a2, a3⟩ := hb.b hx
  obtain ⟨c1, c2, c3⟩ := hb.b hy
  refine t_Cause_isSo ?_
  simp only [tr, i0, i1, x2, x5, x6, y2, y5, y6, tok2 (show tg h r1 = 3 ∨ tg h r1 = 5 ∨ tg h r1 = 7 by omega), tok2 (show tg h r2 = 3 ∨ tg h r2 = 5 ∨ tg h r2 = 7 by omega), true_and, and_true]
  unfold soq at k1 k0
  clear x0 x1 x2 x3 x4 x5 x6 y0 y1 y2 y3 y4 y5 y6 hb hx hy tr i0 i1
  generalize blk d x = bx at *
  generalize blk d y = bY at *
  generalize hft d x = hx at *
  generalize hft d y = hy at *
  generalize d 3 x = kx at *
  generalize d 3 y = ky at *
  generalize P (.int (I 0)) h = P0 at *
  generalize P (.int (I 1)) h = P1 at *
  unfold rng at *
  have hl : lt = 0 ∨ lt = 1 ∨ lt = 2 ∨ lt = 3 ∨ lt = 4 ∨ lt = 5 := by omega
  rcases hl with rfl | rfl | rfl | rfl | rfl | rfl <;> grind (splits := 30)
/-- which cause rules: k causes are left, from c on -/
noncomputable def rulg (d : Nat → Nat → Int) (l x y : Nat) (p hard lo : Int) : Nat → Nat → Int
  | 0, _ => -9
  | k + 1, c => @ite Int ((c : Int) ≠ lo ∧ d 7 (6 * l + c) ≤ hard ∧ soq d (d 5 (6 * l + c)) (d 6 (6 * l + c)) x y p) (Classical.propDecidable _) (c : Nat) (rulg d l x y p hard lo k (c + 1))
noncomputable def rul (d : Nat → Nat → Int) (l x y : Nat) (p hard lo : Int) : Int := rulg d l x y p hard lo (d 4 l).toNat 0
theorem rulg_bd (d : Nat → Nat → Int) (l x y : Nat) (p hard lo : Int) : ∀ (k c : Nat), rulg d l x y p hard lo k c = -9 ∨ ((c : Int) ≤ rulg d l x y p hard lo k c ∧ rulg d l x y p hard lo k c < c + k)
  | 0, _ => Or.inl rfl
  | k + 1, c => by
    rw [rulg]
    by_cases q : (c : Int) ≠ lo ∧ d 7 (6 * l + c) ≤ hard ∧ soq d (d 5 (6 * l + c)) (d 6 (6 * l + c)) x y p
    · rw [if_pos q]; right; omega
    · rw [if_neg q]
      have := rulg_bd d l x y p hard lo k (c + 1)
      omega
/-- does the pair change -/
noncomputable def chg (d : Nat → Nat → Int) (l : Nat) (hard lo : Int) (x y p : Nat) : Bool := @decide (rul d l x y p hard lo ≠ -9 ∧ d 5 (6 * l + (rul d l x y p hard lo).toNat) ≤ 3) (Classical.propDecidable _)
/-- the laws are told rightly -/
def LB (d : Nat → Nat → Int) (l : Nat) : Prop := (1 ≤ d 4 l ∧ d 4 l ≤ 6) ∧ ∀ c : Nat, c < 6 → (c : Int) < d 4 l → (0 ≤ d 5 (6 * l + c) ∧ d 5 (6 * l + c) ≤ 5) ∧ (0 ≤ d 6 (6 * l + c) ∧ d 6 (6 * l + c) ≤ 9) ∧ (1 ≤ d 7 (6 * l + c) ∧ d 7 (6 * l + c) ≤ 3)
/-- a law as it lies, but for what its motions know -/
def LW (d : Nat → Nat → Int) (l : Nat) (h : Hp) : Prop :=
  (tg h (64 * (l + 1)) = 4 ∧ fl h (64 * (l + 1)) 0 = true ∧ fl h (64 * (l + 1)) 1 = true ∧ tg h (64 * (l + 1) + 1) = 24 ∧ (ln h (64 * (l + 1) + 1) : Int) = d 4 l ∧ tg h (64 * (l + 1) + 2) = 25 ∧ ln h (64 * (l + 1) + 2) = 3) ∧
  (∀ c : Nat, c < 6 → (c : Int) < d 4 l → fl h (64 * (l + 1) + 1) c = true ∧ tg h (64 * (l + 1) + 3 + c) = 2 ∧ iv h (64 * (l + 1) + 3 + c) 0 = d 5 (6 * l + c) ∧ iv h (64 * (l + 1) + 3 + c) 1 = d 6 (6 * l + c) ∧ iv h (64 * (l + 1) + 3 + c) 2 = d 7 (6 * l + c)) ∧
  (∀ j : Nat, j < 3 → fl h (64 * (l + 1) + 2) j = true ∧ tg h (64 * (l + 1) + 16 + 4 * j) = 6 ∧ fl h (64 * (l + 1) + 16 + 4 * j) 0 = true ∧ fl h (64 * (l + 1) + 16 + 4 * j) 1 = true ∧ tg h (64 * (l + 1) + 17 + 4 * j) = 8 ∧ fl h (64 * (l + 1) + 17 + 4 * j) 0 = true ∧ tg h (64 * (l + 1) + 18 + 4 * j) = 20 ∧ ln h (64 * (l + 1) + 18 + 4 * j) = 64 ∧ tg h (64 * (l + 1) + 19 + 4 * j) = 20 ∧ ln h (64 * (l + 1) + 19 + 4 * j) ≤ 5040)
theorem chL : ∀ l : _root_.Fin 4, child 4 l = 64 * (l + 1) ∧ child (64 * ((l : Nat) + 1)) 0 = 64 * ((l : Nat) + 1) + 1 ∧ child (64 * ((l : Nat) + 1)) 1 = 64 * ((l : Nat) + 1) + 2 ∧ (∀ c : _root_.Fin 6, child (64 * ((l : Nat) + 1) + 1) c = 64 * ((l : Nat) + 1) + 3 + c) ∧ ∀ j : _root_.Fin 3, child (64 * ((l : Nat) + 1) + 2) j = 64 * ((l : Nat) + 1) + 16 + 4 * j ∧ child (64 * ((l : Nat) + 1) + 16 + 4 * j) 0 = 64 * ((l : Nat) + 1) + 17 + 4 * j ∧ child (64 * ((l : Nat) + 1) + 16 + 4 * j) 1 = 64 * ((l : Nat) + 1) + 19 + 4 * j ∧ child (64 * ((l : Nat) + 1) + 17 + 4 * j) 0 = 64 * ((l : Nat) + 1) + 18 + 4 * j := by decide
theorem ch4 {l : Nat} (h : l < 4) : child 4 l = 64 * (l + 1) := (chL ⟨l, h⟩).1
theorem chl0 {l : Nat} (h : l < 4) : child (64 * (l + 1)) 0 = 64 * (l + 1) + 1 := (chL ⟨l, h⟩).2.1
theorem chl1 {l : Nat} (h : l < 4) : child (64 * (l + 1)) 1 = 64 * (l + 1) + 2 := (chL ⟨l, h⟩).2.2.1
theorem chlc {l c : Nat} (h : l < 4) (hc : c < 6) : child (64 * (l + 1) + 1) c = 64 * (l + 1) + 3 + c := (chL ⟨l, h⟩).2.2.2.1 ⟨c, hc⟩
theorem chlm {l j : Nat} (h : l < 4) (hj : j < 3) : child (64 * (l + 1) + 2) j = 64 * (l + 1) + 16 + 4 * j ∧ child (64 * (l + 1) + 16 + 4 * j) 0 = 64 * (l + 1) + 17 + 4 * j ∧ child (64 * (l + 1) + 16 + 4 * j) 1 = 64 * (l + 1) + 19 + 4 * j ∧ child (64 * (l + 1) + 17 + 4 * j) 0 = 64 * (l + 1) + 18 + 4 * j := (chL ⟨l, h⟩).2.2.2.2 ⟨j, hj⟩
section LAW
variable {d : Nat → Nat → Int} {h : Hp} {P : Value → Hp → Prop} {n l : Nat}
theorem ruling_loop (hl : l < 4) (lw : LW d l h) (lb : LB d l) {r1 r2 x y : Nat} {p hard lo : Int} (hp : rng p) (hh : rng hard) (hlo : rng lo) (gx : GR d x h r1) (gy : GR d y h r2) (hb : GB n d) (hx : x < n) (hy : y < n) : ∀ (k c : Nat), (c : Int) + k = d 4 l → P (.int (I (rulg d l x y p hard lo k c))) h →
    R 51 3 [.ref (64 * (l + 1)), .ref r1, .ref r2, .int (I p), .int (I hard), .int (I lo), .int (I (c : Nat))] [] h P := by
  obtain ⟨⟨w1, w2, w3, w4, w5, w6, w7⟩, wc, wm⟩ := lw
  obtain ⟨lb1, lb2⟩ := lb
  intro k
  induction k with
  | zero =>
    intro c hc kk
    refine t_Law_ruling_3 ?_
    rw [chl0 hl, w5]
    exact ⟨w1, w2, by omega, Or.inl (by omega), by omega, by omega, fun q => absurd q (by omega), fun q => kk⟩
  | succ k ih =>
    intro c hc kk
    have hc6 : c < 6 := by omega
    have hcd : (c : Int) < d 4 l := by omega
    obtain ⟨c1, c2, c3, c4, c5⟩ := wc c hc6 hcd
    obtain ⟨b1, b2, b3⟩ := lb2 c hc6 hcd
    have nx := fun q => ih (c + 1) (by omega) q
    have en : rulg d l x y p hard lo k (c + 1) = rulg d l x y p hard lo (k + 1) c ∨ rulg d l x y p hard lo (k + 1) c = c := by
      rw [rulg]
      by_cases q : (c : Int) ≠ lo ∧ d 7 (6 * l + c) ≤ hard ∧ soq d (d 5 (6 * l + c)) (d 6 (6 * l + c)) x y p
      · rw [if_pos q]; exact Or.inr rfl
      · rw [if_neg q]; exact Or.inl rfl
    have skip : ¬ ((c : Int) ≠ lo ∧ d 7 (6 * l + c) ≤ hard ∧ soq d (d 5 (6 * l + c)) (d 6 (6 * l + c)) x y p) → R 51 3 [.ref (64 * (l + 1)), .ref r1, .ref r2, .int (I p), .int (I hard), .int (I lo), .int (I ((c : Nat) + 1))] [] h P := by
      intro q
      rw [rulg, if_neg q] at kk
      exact nx kk
    refine t_Law_ruling_3 ?_
    rw [chl0 hl, w5, show ((c : Nat) : Int).toNat = c from rfl, chlc hl hc6, c5]
    refine ⟨w1, w2, by omega, Or.inl (by omega), by omega, by omega, fun q => ⟨by omega, hlo, fun e => skip (fun z => z.1 e), fun e => ⟨w1, w2, by omega, by omega, by omega, by omega, by omega, c1, by omega, c2, by omega, hh, fun e2 => skip (fun z => absurd z.2.1 (by omega)), fun e2 => ⟨w1, w2, by omega, by omega, by omega, by omega, by omega, c1, by omega, c2, ?_⟩⟩⟩, fun q => absurd hcd q⟩
    refine s_isSo c2 c3 c4 b1 b2 hp gx gy hb hx hy (fun z => ?_) (fun z => ?_)
    · refine t_Law_ruling_48 ⟨by omega, fun q => absurd q (by decide), fun _ => ?_⟩
      rw [rulg, if_pos ⟨e, by omega, z⟩] at kk
      exact kk
    · refine t_Law_ruling_48 ⟨by omega, fun _ => skip (fun z2 => z z2.2.2), fun q => absurd rfl q⟩
theorem s_ruling (hl : l < 4) (lw : LW d l h) (lb : LB d l) {r1 r2 x y : Nat} {p hard lo : Int} (hp : rng p) (hh : rng hard) (hlo : rng lo) (gx : GR d x h r1) (gy : GR d y h r2) (hb : GB n d) (hx : x < n) (hy : y < n) (k : P (.int (I (rul d l x y p hard lo))) h) :
    R 51 0 [.ref (64 * (l + 1)), .ref r1, .ref r2, .int (I p), .int (I hard), .int (I lo), .retAddr 0] [] h P := by
  have := lb.1
  exact t_Law_ruling (ruling_loop hl lw lb hp hh hlo gx gy hb hx hy (d 4 l).toNat 0 (by omega) k)
theorem s_makes {r : Nat} {lt : Int} (tr : tg h r = 2) (i0 : iv h r 0 = lt) (hlt : 0 ≤ lt ∧ lt ≤ 5) (k1 : lt ≤ 3 → P (.int (I 1)) h) (k0 : ¬ lt ≤ 3 → P (.int (I 0)) h) : R 57 0 [.ref r] [] h P := by
  refine t_Cause_makesChange ?_
  rw [i0]
  exact ⟨tr, by omega, fun c => k0 (by omega), fun c => k1 (by omega)⟩
end LAW
