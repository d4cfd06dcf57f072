/-! Between calls: what a call leaves. -/
def up (d : Nat → Nat → Int) (f i : Nat) (v : Int) : Nat → Nat → Int := fun f' i' => if f' = f ∧ i' = i then v else d f' i'
theorem up_at (d : Nat → Nat → Int) (f i : Nat) (v : Int) : up d f i v f i = v := if_pos ⟨rfl, rfl⟩
theorem up_ne {d : Nat → Nat → Int} {f i f' i' : Nat} {v : Int} (h : f' ≠ f ∨ i' ≠ i) : up d f i v f' i' = d f' i' := if_neg (fun e => by omega)
theorem up_f {d : Nat → Nat → Int} {f i f' : Nat} {v : Int} (h : f' ≠ f) : up d f i v f' = d f' := by
  funext j
  exact up_ne (Or.inl h)
noncomputable def RX (n : Nat) (d : Nat → Nat → Int) (h : Hp) : Prop := RB n d h ∧ RO n d h
def X4 (r : Nat) : Bool := Nat.blt r 400
theorem X4_lt {r : Nat} (h : X4 r = false) : 400 ≤ r := by
  unfold X4 at h
  apply Nat.le_of_not_lt
  intro q
  rw [Nat.blt_eq.mpr q] at h
  cases h
noncomputable def KX (n : Nat) (d : Nat → Nat → Int) (h h' : Hp) : Prop := RX n d h' ∧ Gr X4 h h' ∧ Co h h' ∧ iv h' 1 3 = iv h 1 3
theorem KX.rf {n : Nat} {d : Nat → Nat → Int} {h : Hp} (x : RX n d h) : KX n d h h := ⟨x, Gr.rf _ _, Co.rf _, rfl⟩
theorem KX.tr {n n1 : Nat} {d d1 : Nat → Nat → Int} {h h1 h2 : Hp} (a : KX n d h h1) (b : KX n1 d1 h1 h2) : KX n1 d1 h h2 := ⟨b.1, a.2.1.tr b.2.1, a.2.2.1.tr b.2.2.1, b.2.2.2.trans a.2.2.2⟩
theorem rulg_cg {d d' : Nat → Nat → Int} (he : ∀ f, 1 ≤ f → f ≤ 7 → d' f = d f) (l x y : Nat) (p hard lo : Int) : ∀ k c, rulg d' l x y p hard lo k c = rulg d l x y p hard lo k c
  | 0, _ => rfl
  | k + 1, c => by
    rw [rulg, rulg, rulg_cg he l x y p hard lo k (c + 1)]
    unfold soq blk hft
    rw [he 7 (by decide) (by decide), he 6 (by decide) (by decide), he 5 (by decide) (by decide), he 3 (by decide) (by decide), he 2 (by decide) (by decide), he 1 (by decide) (by decide)]
theorem chg_cg {d d' : Nat → Nat → Int} (he : ∀ f, 1 ≤ f → f ≤ 7 → d' f = d f) (l : Nat) (hard lo : Int) : chg d' l hard lo = chg d l hard lo := by
  funext x y p
  have e : rul d' l x y p hard lo = rul d l x y p hard lo := by
    unfold rul
    rw [he 4 (by decide) (by decide)]
    exact rulg_cg he _ _ _ _ _ _ _ _
  unfold chg
  rw [e, he 5 (by decide) (by decide)]
theorem RB.cg {n : Nat} {d d' : Nat → Nat → Int} {h : Hp} (he : ∀ f, 1 ≤ f → f ≤ 7 → d' f = d f) (h3 : d' 0 3 = d 0 3) (h4 : d' 0 4 = d 0 4) (b : RB n d h) : RB n d' h := by
  unfold RB GG GR GB LW LB MC blk hft at *
  simp only [chg_cg he]
  rw [he 7 (by decide) (by decide), he 6 (by decide) (by decide), he 5 (by decide) (by decide), he 4 (by decide) (by decide), he 3 (by decide) (by decide), he 2 (by decide) (by decide), he 1 (by decide) (by decide), h3, h4]
  exact b
theorem GG.gx {n : Nat} {d : Nat → Nat → Int} {h : Hp} (g : GG n d h) (b : GB n d) : GX n (d 1) h := by
  intro x hx
  obtain ⟨g1, g2, g3, g4, g5, -⟩ := g x hx
  have := b x hx
  exact ⟨by omega, g1, g5, by omega⟩
theorem Gr.x4 {S : Nat → Bool} {h h1 : Hp} (a : Gr S h h1) (s : ∀ r, 400 ≤ r → S r = false) : Gr X4 h h1 := a.mono fun r hr => s r (X4_lt hr)
/-- what only changes what is kept for later -/
theorem RX.sc {n : Nat} {d : Nat → Nat → Int} {h h1 : Hp} {S : Nat → Bool} (x : RX n d h) (b : RB n d h1) (a : Gr S h h1) (s : ∀ r, S r = true → r = 3 ∨ (17 ≤ r ∧ r ≤ 26) ∨ r = 38 ∨ (64 ≤ r ∧ r < 320)) (c : Co h h1) : KX n d h h1 := by
  have s2 : ∀ r, ¬ (r = 3 ∨ (17 ≤ r ∧ r ≤ 26) ∨ r = 38 ∨ (64 ≤ r ∧ r < 320)) → S r = false := fun r hr => by
    cases e : S r with
    | false => rfl
    | true => exact absurd (s r e) hr
  exact ⟨⟨b, x.2.gr a fun r hr => s2 r (by omega)⟩, a.x4 fun r hr => s2 r (by omega), c, (a 1 (s2 1 (by omega))).2.2.1 3⟩
section PUB
variable {n : Nat} {d : Nat → Nat → Int} {h : Hp} {P : Value → Hp → Prop}
theorem RX.S (x : RX n d h) : XS h := x.1.1.1
theorem RX.n7 (x : RX n d h) : n = 0 ∨ (2 ≤ n ∧ n ≤ 7) := x.1.1.2.1
theorem lies_le {n : Nat} (h : n = 0 ∨ (2 ≤ n ∧ n ≤ 7)) : lies n ≤ 5040 := by
  unfold lies
  split
  · omega
  · exact fct_le (by omega)
theorem lies_pos {n : Nat} (hn : 2 ≤ n) : lies n = fct n := by
  unfold lies
  rw [if_neg (by omega)]
theorem s_noGrain (x : RX n d h) {g : Int} (hg : rng g) (k1 : (g < 0 ∨ (n : Int) ≤ g) → P (.int (I 1)) h) (k0 : (0 ≤ g ∧ g < n) → P (.int (I 0)) h) : R 28 0 [.ref 0, .int (I g)] [] h P := by
  have hn := x.n7
  refine t_X_noGrain x.S ?_
  rw [x.1.1.2.2.1]
  exact ⟨hg, fun c => k1 (Or.inl c), fun c => ⟨hg, by omega, fun c2 => k0 (by omega), fun c2 => k1 (by omega)⟩⟩
theorem s_noPlace (x : RX n d h) {g : Int} (hg : rng g) (k1 : (g < 0 ∨ (n : Int) ≤ g) → P (.int (I 1)) h) (k0 : (0 ≤ g ∧ g < n) → P (.int (I 0)) h) : R 34 0 [.ref 0, .int (I g)] [] h P := by
  have hn := x.n7
  refine t_X_noPlace x.S ?_
  rw [x.1.1.2.2.1]
  exact ⟨hg, fun c => k1 (Or.inl c), fun c => ⟨hg, by omega, fun c2 => k0 (by omega), fun c2 => k1 (by omega)⟩⟩
theorem s_noLie (x : RX n d h) {g : Int} (hg : rng g) (k1 : (g < 0 ∨ (lies n : Int) ≤ g) → P (.int (I 1)) h) (k0 : (0 ≤ g ∧ g < lies n) → P (.int (I 0)) h) : R 38 0 [.ref 0, .int (I g)] [] h P := by
  have hn := lies_le x.n7
  refine t_X_noLie x.S ?_
  rw [x.1.1.2.2.2.1]
  exact ⟨hg, fun c => k1 (Or.inl c), fun c => ⟨hg, by omega, fun c2 => k0 (by omega), fun c2 => k1 (by omega)⟩⟩
theorem s_noBox (x : RX n d h) (k1 : n = 0 → P (.int (I 1)) h) (k0 : 2 ≤ n → P (.int (I 0)) h) : R 36 0 [.ref 0] [] h P := by
  have hn := x.n7
  refine t_X_noBox x.S ?_
  rw [x.1.1.2.2.1]
  exact ⟨by omega, fun c => k1 (by omega), fun c => k0 (by omega)⟩
theorem s_noHard {g : Int} (hg : rng g) (k1 : (g < 1 ∨ 3 < g) → P (.int (I 1)) h) (k0 : (1 ≤ g ∧ g ≤ 3) → P (.int (I 0)) h) : R 49 0 [.int (I g)] [] h P :=
  t_X_noHard ⟨hg, fun c => k1 (Or.inl c), fun c => ⟨hg, fun c2 => k1 (Or.inr c2), fun c2 => k0 (by omega)⟩⟩
theorem s_lawInForce (x : RX n d h) (k1 : d 0 3 = 0 → P .null h) (k0 : ∀ l : Nat, (l : Int) = d 0 4 → (l : Int) < d 0 3 → P (.ref (64 * (l + 1))) h) : R 50 0 [.ref 0] [] h P := by
  obtain ⟨-, -, -, -, -, -, ls, lw⟩ := x.1
  obtain ⟨q1, q2, q3, q4, q5, q6⟩ := ls
  refine t_X_lawInForce x.S ?_
  rw [q3, q4]
  refine ⟨by omega, fun c => k1 c, fun c => ?_⟩
  have hl : ((d 0 4).toNat : Int) < d 0 3 := by omega
  obtain ⟨l1, l2, -⟩ := lw _ hl
  rw [ch4 (by omega)]
  exact ⟨by omega, by omega, l1, by have := l2.1.1; omega, k0 _ (by omega) hl⟩
theorem s_row (x : RX n d h) {lie : Int} (hl : 0 ≤ lie ∧ lie < lies n) (k : ∀ h', KX n d h h' → BX n h' → okRow n (rw_ n lie.toNat) → P (.int (I (rw_ n lie.toNat : Nat))) h') : R 29 0 [.ref 1, .int (I lie)] [] h P := by
  have hn : 2 ≤ n := by
    have := x.n7
    rcases this with e | e
    · rw [e] at hl; unfold lies at hl; simp at hl; omega
    · exact e.1
  rw [lies_pos hn] at hl
  have e : lie = (lie.toNat : Nat) := by omega
  have hlt : lie.toNat < fct n := by omega
  rw [e]
  refine s_rowOf (x.1.bx hn) hlt fun h1 f1 b1 => ?_
  refine k h1 (x.sc (x.1.rows hn f1 b1) f1.g (fun r hr => Or.inl ?_) f1.co) b1 ⟨_, hlt, rfl⟩
  simpa using hr
end PUB
