/-! What stays when things are made; the text of a law. -/
def Gp (h h' : Hp) (r : Nat) : Prop := tg h' r = tg h r ∧ ln h' r = ln h r ∧ (∀ k, iv h' r k = iv h r k) ∧ ∀ k, fl h r k = true → fl h' r k = true
theorem Gp.rf (h : Hp) (r : Nat) : Gp h h r := ⟨rfl, rfl, fun _ => rfl, fun _ q => q⟩
theorem Gp.tr {h h1 h2 : Hp} {r : Nat} (a : Gp h h1 r) (b : Gp h1 h2 r) : Gp h h2 r := ⟨b.1.trans a.1, b.2.1.trans a.2.1, fun k => (b.2.2.1 k).trans (a.2.2.1 k), fun k q => b.2.2.2 k (a.2.2.2 k q)⟩
theorem Gr.p {S : Nat → Bool} {h h1 : Hp} (a : Gr S h h1) {r : Nat} (hr : S r = false) : Gp h h1 r := ⟨(a r hr).1, (a r hr).2.1, (a r hr).2.2.1, fun k q => ((a r hr).2.2.2 k).trans q⟩
theorem Gp.setF (h : Hp) (q k r : Nat) : Gp h (setF h q k) r := ⟨rfl, rfl, fun _ => rfl, fun j z => by
  rw [fl_setF]
  by_cases e : r = q ∧ j = k
  · rw [if_pos e]
  · rw [if_neg e]; exact z⟩
theorem Gp.setI {h : Hp} {q r : Nat} (k v : Int) (e : r ≠ q) : Gp h (setI h q k v) r := ⟨rfl, rfl, fun _ => iv_ne e, fun _ z => z⟩
theorem Gp.mk {h : Hp} {q r : Nat} (t n u : Nat) (e : r ≠ q) : Gp h (mk h q t n u) r := ⟨by rw [tg_mk, if_neg e], by rw [ln_mk, if_neg e], fun k => by rw [iv_mk, if_neg e], fun k z => by rw [fl_mk, if_neg e]; exact z⟩
theorem Gp.mov {h : Hp} {q k c f r : Nat} (e1 : r ≠ c) (e2 : r ≠ f) : Gp h (mov h q k c f) r := ⟨by rw [tg_mov, if_neg e2, if_neg e1], by rw [ln_mov, if_neg e1], fun z => by rw [iv_mov, if_neg e1], fun j z => by
  rw [fl_mov]
  by_cases e : r = q ∧ j = k
  · rw [if_pos e]
  · rw [if_neg e, if_neg e1]; exact z⟩
theorem XS.gp {h h1 : Hp} (b : XS h) (a : ∀ r, (r ≤ 26 ∨ r = 500 ∨ r = 501) → tg h1 r = tg h r ∧ (∀ k, fl h r k = true → fl h1 r k = true) ∧ ((r < 20 ∧ r ≠ 3) ∨ 26 < r → ln h1 r = ln h r)) : XS h1 := by
  refine ⟨fun q hq => ?_, fun q hq => ?_, fun q hq => ?_⟩
  · have h2 := b.1 q hq
    have hr : q.1 ≤ 26 ∨ q.1 = 500 ∨ q.1 = 501 := (by decide : ∀ q ∈ ([(0, 12), (1, 1), (2, 21), (3, 20), (4, 22), (5, 20), (6, 20), (7, 23), (8, 10), (9, 10), (10, 10), (11, 10), (12, 20), (13, 20), (14, 20), (15, 20), (16, 11), (17, 8), (18, 20), (19, 9), (20, 20), (21, 20), (22, 20), (23, 20), (24, 20), (25, 20), (26, 20), (500, 30), (501, 30)] : List (Nat × Nat)), q.1 ≤ 26 ∨ q.1 = 500 ∨ q.1 = 501) q hq
    rw [(a _ hr).1]; exact h2
  · have h2 := b.2.1 q hq
    have hr : q.1 ≤ 26 ∨ q.1 = 500 ∨ q.1 = 501 := (by decide : ∀ q ∈ ([(0, 0), (0, 1), (0, 6), (0, 7), (0, 9), (0, 10), (0, 12), (0, 13), (0, 14), (0, 15), (0, 16), (1, 0), (1, 4), (7, 0), (7, 1), (7, 2), (7, 3), (8, 0), (9, 0), (10, 0), (11, 0), (17, 0), (19, 0), (19, 1), (19, 2), (19, 3)] : List (Nat × Nat)), q.1 ≤ 26 ∨ q.1 = 500 ∨ q.1 = 501) q hq
    exact (a _ hr).2.1 _ h2
  · have h2 := b.2.2 q hq
    have hr : (q.1 ≤ 26 ∨ q.1 = 500 ∨ q.1 = 501) ∧ ((q.1 < 20 ∧ q.1 ≠ 3) ∨ 26 < q.1) := (by decide : ∀ q ∈ ([(2, 7), (4, 4), (5, 8), (6, 8), (7, 4), (12, 60), (13, 60), (14, 60), (15, 60), (18, 64), (500, 8), (501, 6)] : List (Nat × Nat)), (q.1 ≤ 26 ∨ q.1 = 500 ∨ q.1 = 501) ∧ ((q.1 < 20 ∧ q.1 ≠ 3) ∨ 26 < q.1)) q hq
    rw [(a _ hr.1).2.2 hr.2]; exact h2
theorem GG.gp {n : Nat} {d : Nat → Nat → Int} {h h1 : Hp} (g : GG n d h) (a2 : Gp h h1 2) (a : ∀ g, g < n → Gp h h1 (30 + g)) : GG n d h1 := by
  intro x hx
  obtain ⟨g1, g2, g3, g4, g5, g6, g7, g8⟩ := g x hx
  obtain ⟨p1, p2, p3, p4⟩ := a x hx
  unfold GR
  rw [p1, p3, p3, p3, p3, p3, p3]
  exact ⟨a2.2.2.2 _ g1, g2, g3, g4, g5, g6, g7, g8⟩
theorem RU.gp {n : Nat} {c : Nat → Nat → Nat → Bool} {h h1 : Hp} {r : Nat} (u : RU n c h r) (a : Gp h h1 r) (b : Gp h h1 (child r 0)) : RU n c h1 r := by
  obtain ⟨u1, u2, u3, u4, u5, u6⟩ := u
  refine ⟨by rw [a.1]; exact u1, a.2.2.2 _ u2, u3, by rw [b.1]; exact u4, by rw [b.2.1]; exact u5, fun x y hx hy => ?_⟩
  obtain ⟨w, w1, w2, w3⟩ := u6 x y hx hy
  exact ⟨w, w1, by rw [b.2.2.1]; exact w2, w3⟩
theorem LW.gp {d : Nat → Nat → Int} {l : Nat} {h h1 : Hp} (g : LW d l h) (a : ∀ r, 64 * (l + 1) ≤ r → r < 64 * (l + 1) + 64 → Gp h h1 r) : LW d l h1 := by
  obtain ⟨w, wc, wm⟩ := g
  have p0 := a (64 * (l + 1)) (by omega) (by omega)
  have p1 := a (64 * (l + 1) + 1) (by omega) (by omega)
  have p2 := a (64 * (l + 1) + 2) (by omega) (by omega)
  refine ⟨?_, fun c hc hd => ?_, fun j hj => ?_⟩
  · rw [p0.1, p1.1, p2.1, p1.2.1, p2.2.1]
    exact ⟨w.1, p0.2.2.2 _ w.2.1, p0.2.2.2 _ w.2.2.1, w.2.2.2⟩
  · have pc := a (64 * (l + 1) + 3 + c) (by omega) (by omega)
    obtain ⟨c1, c2⟩ := wc c hc hd
    rw [pc.1, pc.2.2.1, pc.2.2.1, pc.2.2.1]
    exact ⟨p1.2.2.2 _ c1, c2⟩
  · have q6 := a (64 * (l + 1) + 16 + 4 * j) (by omega) (by omega)
    have q7 := a (64 * (l + 1) + 17 + 4 * j) (by omega) (by omega)
    have q8 := a (64 * (l + 1) + 18 + 4 * j) (by omega) (by omega)
    have q9 := a (64 * (l + 1) + 19 + 4 * j) (by omega) (by omega)
    obtain ⟨m1, m2, m3, m4, m5, m6, m7, m8, m9, m10⟩ := wm j hj
    rw [q6.1, q7.1, q8.1, q9.1, q8.2.1, q9.2.1]
    exact ⟨p2.2.2.2 _ m1, m2, q6.2.2.2 _ m3, q6.2.2.2 _ m4, m5, q7.2.2.2 _ m6, m7, m8, m9, m10⟩
theorem MC.gp {n : Nat} {d : Nat → Nat → Int} {l j : Nat} {h h1 : Hp} (hl : l < 4) (hj : j < 3) (g : MC n d l j h) (e13 : iv h1 1 3 = iv h 1 3) (a : ∀ r, 64 * (l + 1) ≤ r → r < 64 * (l + 1) + 64 → Gp h h1 r) : MC n d l j h1 := by
  have q6 := a (64 * (l + 1) + 16 + 4 * j) (by omega) (by omega)
  have q7 := a (64 * (l + 1) + 17 + 4 * j) (by omega) (by omega)
  have q8 := a (64 * (l + 1) + 18 + 4 * j) (by omega) (by omega)
  have q9 := a (64 * (l + 1) + 19 + 4 * j) (by omega) (by omega)
  unfold MC at g ⊢
  rw [q6.2.2.1, e13, q9.2.1]
  refine ⟨g.1, fun z hn => ?_⟩
  obtain ⟨g1, g2, g3⟩ := g.2 z hn
  refine ⟨g1.gp q7 (by rw [(chlm hl hj).2.2.2]; exact q8), g2, fun i hi => ?_⟩
  rw [q9.2.2.1]
  exact g3 i hi
/-- a law told by the same numbers -/
def Le (d d' : Nat → Nat → Int) (l : Nat) : Prop := d' 1 = d 1 ∧ d' 2 = d 2 ∧ d' 3 = d 3 ∧ d' 4 l = d 4 l ∧ ∀ c, c < 6 → d' 5 (6 * l + c) = d 5 (6 * l + c) ∧ d' 6 (6 * l + c) = d 6 (6 * l + c) ∧ d' 7 (6 * l + c) = d 7 (6 * l + c)
theorem rulg_le {d d' : Nat → Nat → Int} {l : Nat} (e : Le d d' l) (x y : Nat) (p hard lo : Int) : ∀ k c, c + k ≤ 6 → rulg d' l x y p hard lo k c = rulg d l x y p hard lo k c
  | 0, _, _ => rfl
  | k + 1, c, hc => by
    obtain ⟨e1, e2, e3, e4, e5⟩ := e
    obtain ⟨f5, f6, f7⟩ := e5 c (by omega)
    rw [rulg, rulg, rulg_le ⟨e1, e2, e3, e4, e5⟩ x y p hard lo k (c + 1) (by omega)]
    unfold soq blk hft
    rw [f5, f6, f7, e1, e2, e3]
theorem chg_le {d d' : Nat → Nat → Int} {l : Nat} (e : Le d d' l) (b : LB d l) (hard lo : Int) : chg d' l hard lo = chg d l hard lo := by
  funext x y p
  have b1 := b.1
  have er : rul d' l x y p hard lo = rul d l x y p hard lo := by
    unfold rul
    rw [e.2.2.2.1]
    exact rulg_le e _ _ _ _ _ _ _ (by omega)
  have bd := rulg_bd d l x y p hard lo (d 4 l).toNat 0
  have hr : rul d l x y p hard lo = rulg d l x y p hard lo (d 4 l).toNat 0 := rfl
  rw [← hr] at bd
  unfold chg
  rw [er]
  by_cases q : rul d l x y p hard lo = -9
  · rw [q]; simp
  · rw [(e.2.2.2.2 (rul d l x y p hard lo).toNat (by omega)).1]
theorem LB.le {d d' : Nat → Nat → Int} {l : Nat} (e : Le d d' l) (b : LB d l) : LB d' l := by
  obtain ⟨e1, e2, e3, e4, e5⟩ := e
  refine ⟨by rw [e4]; exact b.1, fun c hc hd => ?_⟩
  obtain ⟨f5, f6, f7⟩ := e5 c hc
  rw [f5, f6, f7]
  exact b.2 c hc (by rw [← e4]; exact hd)
theorem LW.le {d d' : Nat → Nat → Int} {l : Nat} {h : Hp} (e : Le d d' l) (w : LW d l h) : LW d' l h := by
  obtain ⟨e1, e2, e3, e4, e5⟩ := e
  obtain ⟨w1, w2, w3⟩ := w
  refine ⟨by rw [e4]; exact w1, fun c hc hd => ?_, w3⟩
  obtain ⟨f5, f6, f7⟩ := e5 c hc
  rw [f5, f6, f7]
  exact w2 c hc (by rw [← e4]; exact hd)
theorem MC.le {d d' : Nat → Nat → Int} {n l j : Nat} {h : Hp} (e : Le d d' l) (b : LB d l) (w : MC n d l j h) : MC n d' l j h := by
  unfold MC at *
  rw [chg_le e b]
  exact w
/-- roles of laws that there aren't yet -/
def TZ (d : Nat → Nat → Int) (h : Hp) : Prop := ∀ l : Nat, d 0 3 ≤ l → l < 4 → ∀ r, 64 * (l + 1) ≤ r → r < 64 * (l + 1) + 64 → tg h r = 0 ∧ ln h r = 0
noncomputable def KL (n : Nat) (d : Nat → Nat → Int) (h h' : Hp) : Prop := RX n d h' ∧ Gr X4 h h' ∧ TZ d h' ∧ (ck h' + SL h ≤ ck h + SL h' + 30 ∧ cu h' + 2 * SL h ≤ cu h + 2 * SL h' + 300) ∧ iv h' 1 3 ≤ iv h 1 3 + 1
theorem KX.l {n : Nat} {d d' : Nat → Nat → Int} {h h' : Hp} (k : KX n d' h h') (z : TZ d h) (e : d' 0 3 = d 0 3) : KL n d' h h' := by
  obtain ⟨k1, k2, ⟨k3, k4⟩, k5⟩ := k
  refine ⟨k1, k2, fun l h1 h2 r h3 h4 => ?_, by have := k3.1; have := k3.2.1; omega, by omega⟩
  obtain ⟨z1, z2⟩ := z l (by rw [← e]; exact h1) h2 r h3 h4
  obtain ⟨t1, t2⟩ := k4 r
  exact ⟨t1.trans z1, (t2 z1 (by omega)).trans z2⟩
def ltc (c : Int) : Int := if c = 102 then 0 else if c = 104 then 1 else if c = 114 then 2 else if c = 116 then 3 else if c = 110 then 4 else if c = 97 then 5 else -9
theorem ltc_bd (c : Int) : ltc c = -9 ∨ (0 ≤ ltc c ∧ ltc c ≤ 5) := by
  unfold ltc
  split
  · omega
  · split
    · omega
    · split
      · omega
      · split
        · omega
        · split
          · omega
          · split <;> omega
section LTEXT
variable {P : Value → Hp → Prop} {h : Hp}
def LTs (h : Hp) : Prop := tg h 501 = 30 ∧ ln h 501 = 6 ∧ ∀ k : Nat, k < 6 → iv h 501 k = [102, 104, 114, 116, 110, 97][k]!
theorem s_letterOf (L : LTs h) {c : Int} (hc : rng c) (kk : P (.int (I (ltc c))) h) : R 43 0 [.int (I c), .retAddr 0] [] h P := by
  obtain ⟨t, l, v⟩ := L
  have step : ∀ k : Nat, k < 6 → ∀ w : Int, w = [102, 104, 114, 116, 110, 97][k]! → rng w → (w = c → P (.int (I (k : Nat))) h) → (¬ w = c → R 43 2 [.int (I c), .int (I ((k : Int) + 1))] [] h P) → R 43 2 [.int (I c), .int (I (k : Nat))] [] h P := by
    intro k hk w hw hr q1 q2
    refine t_Cause_letterOf_2 ?_
    rw [l, v k hk, ← hw]
    exact ⟨t, Or.inr t, by omega, by omega, fun _ => ⟨t, Or.inr t, by omega, by omega, by omega, hr, hc, q1, q2⟩, fun q => absurd (by omega) q⟩
  unfold ltc at kk
  refine t_Cause_letterOf (step 0 (by decide) 102 rfl (by decide) (fun q => ?_) (fun q1 => ?_))
  · rw [if_pos q.symm] at kk; exact kk
  rw [if_neg (fun z => q1 z.symm)] at kk
  refine step 1 (by decide) 104 rfl (by decide) (fun q => ?_) (fun q2 => ?_)
  · rw [if_pos q.symm] at kk; exact kk
  rw [if_neg (fun z => q2 z.symm)] at kk
  refine step 2 (by decide) 114 rfl (by decide) (fun q => ?_) (fun q3 => ?_)
  · rw [if_pos q.symm] at kk; exact kk
  rw [if_neg (fun z => q3 z.symm)] at kk
  refine step 3 (by decide) 116 rfl (by decide) (fun q => ?_) (fun q4 => ?_)
  · rw [if_pos q.symm] at kk; exact kk
  rw [if_neg (fun z => q4 z.symm)] at kk
  refine step 4 (by decide) 110 rfl (by decide) (fun q => ?_) (fun q5 => ?_)
  · rw [if_pos q.symm] at kk; exact kk
  rw [if_neg (fun z => q5 z.symm)] at kk
  refine step 5 (by decide) 97 rfl (by decide) (fun q => ?_) (fun q6 => ?_)
  · rw [if_pos q.symm] at kk; exact kk
  rw [if_neg (fun z => q6 z.symm)] at kk
  refine t_Cause_letterOf_2 ?_
  rw [l]
  exact ⟨t, Or.inr t, by decide, by decide, fun q => absurd q (by decide), fun _ => kk⟩
def lwG (H : Nat → Int) (p : Nat) : Prop := (p % 4 = 0 → ltc (H p) ≠ -9) ∧ (p % 4 = 1 → 48 ≤ H p ∧ H p ≤ 57) ∧ (p % 4 = 2 → 49 ≤ H p ∧ H p ≤ 51) ∧ (p % 4 = 3 → H p = 59 ∧ p / 4 + 1 < 6)
theorem s_goesOn (L : LTs h) {H : Nat → Int} {p : Nat} (hp : p < 1000) (hH : rng (H p)) (k1 : lwG H p → P (.int (I 1)) h) (k0 : ¬ lwG H p → P (.int (I 0)) h) : R 42 0 [.int (I (p : Nat)), .int (I (H p))] [] h P := by
  have e4 : ((p : Nat) : Int) % 4 = ((p % 4 : Nat) : Int) := rfl
  have e5 : ((p : Nat) : Int) / 4 = ((p / 4 : Nat) : Int) := rfl
  refine t_Law_goesOn ?_
  rw [e4, e5]
  refine ⟨by omega, by omega, ⟨fun c => s_letterOf L hH ?_, fun c => ⟨hH, fun q => k0 fun z => ?_, fun q => ⟨hH, fun q2 => k0 fun z => ?_, fun q2 => k1 ?_⟩⟩, fun c => ⟨hH, fun q => k0 fun z => ?_, fun q => ⟨hH, fun q2 => k0 fun z => ?_, fun q2 => k1 ?_⟩⟩⟩, fun c => ⟨hH, fun q => ⟨by omega, by omega, fun q2 => k1 ?_, fun q2 => k0 fun z => ?_⟩, fun q => k0 fun z => ?_⟩⟩
  · have b := ltc_bd (H p)
    refine t_Law_goesOn_32 ⟨by omega, fun q => k0 fun z => z.1 (by omega) q, fun q => k1 ⟨fun _ => q, fun z => by omega, fun z => by omega, fun z => by omega⟩⟩
  · have := z.2.1 (by omega); omega
  · have := z.2.1 (by omega); omega
  · exact ⟨fun z => by omega, fun _ => by omega, fun z => by omega, fun z => by omega⟩
  · have := z.2.2.1 (by omega); omega
  · have := z.2.2.1 (by omega); omega
  · exact ⟨fun z => by omega, fun z => by omega, fun _ => by omega, fun z => by omega⟩
  · exact ⟨fun z => by omega, fun z => by omega, fun z => by omega, fun _ => by omega⟩
  · have := z.2.2.2 (by omega); omega
  · have := z.2.2.2 (by omega); omega
/-- the first fault of a text of m codes by what goes on: k are left -/
noncomputable def lffg (G : Nat → Prop) (m : Nat) : Nat → Nat → Int
  | 0, _ => if m % 4 = 3 then -1 else (m : Nat)
  | k + 1, p => @ite Int (G p) (Classical.propDecidable _) (lffg G m k (p + 1)) (p : Nat)
theorem lffg_ok {G : Nat → Prop} {m : Nat} : ∀ (k p : Nat), lffg G m k p = -1 → m % 4 = 3 ∧ ∀ q, p ≤ q → q < p + k → G q
  | 0, p, h => by
    rw [lffg] at h
    refine ⟨?_, fun q h1 h2 => by omega⟩
    split at h
    · assumption
    · omega
  | k + 1, p, h => by
    rw [lffg] at h
    by_cases c : G p
    · rw [if_pos c] at h
      obtain ⟨h1, h2⟩ := lffg_ok k (p + 1) h
      refine ⟨h1, fun q q1 q2 => ?_⟩
      by_cases e : q = p
      · rw [e]; exact c
      · exact h2 q (by omega) (by omega)
    · rw [if_neg c] at h; omega
theorem lffg_bd {G : Nat → Prop} {m : Nat} : ∀ (k p : Nat), p + k = m → lffg G m k p = -1 ∨ (0 ≤ lffg G m k p ∧ lffg G m k p ≤ (m : Nat))
  | 0, p, h => by
    rw [lffg]
    split <;> omega
  | k + 1, p, h => by
    rw [lffg]
    by_cases c : G p
    · rw [if_pos c]; exact lffg_bd k (p + 1) (by omega)
    · rw [if_neg c]; omega
theorem lff_loop (L : LTs h) {H : Nat → Int} {a i m : Nat} (ha : tg h a = 20) (hm : i + m ≤ ln h a) (h6 : ln h a = 60) (hv : ∀ p, p < m → iv h a ((i : Int) + (p : Nat)) = H p ∧ rng (H p)) : ∀ (k p : Nat), p + k = m → P (.int (I (lffg (lwG H) m k p))) h → R 41 2 [.ref a, .int (I (i : Nat)), .int (I (m : Nat)), .int (I (p : Nat))] [] h P := by
  intro k
  induction k with
  | zero =>
    intro p hp kk
    have e4 : ((m : Nat) : Int) % 4 = ((m % 4 : Nat) : Int) := rfl
    rw [lffg] at kk
    refine t_Law_firstFault_2 ?_
    rw [e4]
    refine ⟨by omega, by omega, fun c => absurd c (by omega), fun _ => ⟨by omega, by omega, fun c => ?_, fun c => ?_⟩⟩
    · rw [if_pos (by omega)] at kk; exact kk
    · rw [if_neg (by omega)] at kk; exact kk
  | succ k ih =>
    intro p hp kk
    obtain ⟨v1, v2⟩ := hv p (by omega)
    rw [lffg] at kk
    refine t_Law_firstFault_2 ?_
    rw [v1, h6]
    refine ⟨by omega, by omega, fun _ => ⟨Or.inl ha, by omega, by omega, by omega, s_goesOn L (by omega) v2 (fun q => ?_) (fun q => ?_)⟩, fun c => absurd (by omega) c⟩
    · rw [if_pos q] at kk
      exact t_Law_firstFault_16 ⟨by decide, fun c => absurd c (by decide), fun _ => ih (p + 1) (by omega) kk⟩
    · rw [if_neg q] at kk
      exact t_Law_firstFault_16 ⟨by decide, fun _ => kk, fun c => absurd rfl c⟩
end LTEXT
