/-! All that holds of the box between calls. -/
def Gr (S : Nat → Bool) (h h' : Hp) : Prop := ∀ r, S r = false → tg h' r = tg h r ∧ ln h' r = ln h r ∧ (∀ k, iv h' r k = iv h r k) ∧ ∀ k, fl h' r k = fl h r k
theorem Gr.rf (S : Nat → Bool) (h : Hp) : Gr S h h := fun _ _ => ⟨rfl, rfl, fun _ => rfl, fun _ => rfl⟩
theorem Gr.tr {S : Nat → Bool} {h h1 h2 : Hp} (a : Gr S h h1) (b : Gr S h1 h2) : Gr S h h2 := fun r hr => ⟨(b r hr).1.trans (a r hr).1, (b r hr).2.1.trans (a r hr).2.1, fun k => ((b r hr).2.2.1 k).trans ((a r hr).2.2.1 k), fun k => ((b r hr).2.2.2 k).trans ((a r hr).2.2.2 k)⟩
theorem Gr.mono {S S2 : Nat → Bool} {h h1 : Hp} (a : Gr S h h1) (hs : ∀ r, S2 r = false → S r = false) : Gr S2 h h1 := fun r hr => a r (hs r hr)
theorem Fr.g {S : Nat → Bool} {h h1 : Hp} (a : Fr S h h1) : Gr S h h1 := fun r hr => ⟨a.t r, a.l r, fun k => a.i hr k, fun k => a.f r k⟩
/-- the roles that calls change without being seen -/
def SC (r : Nat) : Bool := r == 3 || r == 38 || (Nat.ble 64 r && Nat.blt r 320 && Nat.ble 16 (r % 64)) || (Nat.ble 17 r && Nat.ble r 26)
theorem SC_no {r : Nat} (h1 : r ≠ 3) (h2 : r ≠ 38) (h3 : r < 64 ∨ 320 ≤ r ∨ r % 64 < 16) (h4 : r < 17 ∨ 26 < r) : SC r = false := by
  cases hc : SC r with
  | false => rfl
  | true =>
    simp only [SC, Bool.or_eq_true, Bool.and_eq_true, beq_iff_eq, Nat.ble_eq, Nat.blt_eq] at hc
    omega
def lies (n : Nat) : Nat := if n = 0 then 0 else fct n
def gws : List Nat := [3, 20, 21, 22, 23, 24, 25, 26]
/-- what is known of where lies go by a motion -/
noncomputable def MC (n : Nat) (d : Nat → Nat → Int) (l j : Nat) (h : Hp) : Prop :=
  (0 ≤ iv h (64 * (l + 1) + 16 + 4 * j) 2 ∧ iv h (64 * (l + 1) + 16 + 4 * j) 2 ≤ iv h 1 3) ∧
  (iv h (64 * (l + 1) + 16 + 4 * j) 2 = iv h 1 3 → 2 ≤ n → RU n (chg d l (j + 1 : Nat) (-9)) h (64 * (l + 1) + 17 + 4 * j) ∧ fct n ≤ ln h (64 * (l + 1) + 19 + 4 * j) ∧
    ∀ i : Nat, i < fct n → iv h (64 * (l + 1) + 19 + 4 * j) i = 0 ∨ iv h (64 * (l + 1) + 19 + 4 * j) i = ((cl n (shk (chg d l (j + 1 : Nat) (-9)) n (rw_ n i)) : Nat) : Int) + 1)
def okln (k : Nat) : Prop := k = 0 ∨ ∃ m, 2 ≤ m ∧ m ≤ 7 ∧ k = fct m
/-- the box, the laws -/
noncomputable def RB (n : Nat) (d : Nat → Nat → Int) (h : Hp) : Prop :=
  (XS h ∧ (n = 0 ∨ (2 ≤ n ∧ n ≤ 7)) ∧ iv h 1 1 = (n : Nat) ∧ iv h 1 2 = (lies n : Nat) ∧ (∀ k : Nat, k < 8 → iv h 500 k = (fct k : Nat)) ∧ (∀ k : Nat, k < 6 → iv h 501 k = [102, 104, 114, 116, 110, 97][k]!) ∧ tg h 37 = 0 ∧ tg h 38 = 0) ∧
  (∀ i : Nat, i < ln h 3 → iv h 3 i = 0 ∨ (2 ≤ n ∧ i < fct n ∧ iv h 3 i = (rw_ n i : Nat))) ∧
  (∀ r ∈ gws, lies n ≤ ln h r ∧ okln (ln h r)) ∧
  GG n d h ∧ GB n d ∧
  (0 ≤ iv h 1 3 ∧ iv h 1 3 < 1000000 ∧ (iv h 1 3 = 0 → n = 0)) ∧
  (0 ≤ d 0 3 ∧ d 0 3 ≤ 4 ∧ iv h 0 2 = d 0 3 ∧ iv h 0 3 = d 0 4 ∧ 0 ≤ d 0 4 ∧ (d 0 4 < d 0 3 ∨ (d 0 3 = 0 ∧ d 0 4 = 0))) ∧
  (∀ l : Nat, (l : Int) < d 0 3 → fl h 4 l = true ∧ LW d l h ∧ LB d l ∧ ∀ j, j < 3 → MC n d l j h ∧ okln (ln h (64 * (l + 1) + 19 + 4 * j)))
/-- the rest of what it holds -/
def RO (n : Nat) (d : Nat → Nat → Int) (h : Hp) : Prop :=
  (iv h 0 4 = d 0 1 ∧ (0 ≤ d 0 1 ∧ (d 0 1 < lies n ∨ (n = 0 ∧ d 0 1 = 0)))) ∧ (iv h 0 5 = d 0 2 ∧ rng (d 0 2)) ∧ (iv h 0 8 = d 0 5 ∧ 0 ≤ d 0 5 ∧ d 0 5 ≤ 8) ∧ (iv h 16 0 = d 0 6 ∧ rng (d 0 6)) ∧ (iv h 0 11 = d 0 7 ∧ rng (d 0 7)) ∧
  (∀ r : Nat, (r : Int) < d 0 5 → r < 8 → iv h 5 r = d 8 r ∧ iv h 6 r = d 9 r ∧ (0 ≤ d 8 r ∧ d 8 r < n) ∧ 0 ≤ d 9 r ∧ d 9 r < n) ∧
  (∀ k : Nat, k < 4 → (d 10 k = -9 ∨ (0 ≤ d 10 k ∧ d 10 k ≤ 2)) ∧ iv h (8 + k) 1 = (if d 10 k = -9 then 0 else 1) ∧ (d 10 k ≠ -9 → iv h (8 + k) 2 = d 10 k) ∧ iv h (8 + k) 3 = d 11 k ∧ (0 ≤ d 11 k ∧ d 11 k ≤ 60) ∧ ∀ i : Nat, i < 60 → iv h (12 + k) i = d 12 (60 * k + i) ∧ rng (d 12 (60 * k + i)))
theorem RB.bx {n : Nat} {d : Nat → Nat → Int} {h : Hp} (b : RB n d h) (hn : 2 ≤ n) : BX n h := by
  obtain ⟨⟨b1, b2, b3, b4, b5, b6, b7⟩, c, g, -⟩ := b
  have e : lies n = fct n := by unfold lies; rw [if_neg (by omega)]
  obtain ⟨g1, g2⟩ := g 3 (by decide)
  rw [e] at g1 b4
  refine ⟨b1, by omega, b3, b4, b5, ⟨g1, ?_⟩, fun i hi => ?_⟩
  · rcases g2 with g2 | ⟨m, m1, m2, m3⟩
    · omega
    · rw [m3]; exact fct_le m2
  · rcases c i hi with h1 | ⟨h1, h2⟩
    · exact Or.inl h1
    · exact Or.inr h2
theorem RO.gr {n : Nat} {d : Nat → Nat → Int} {h h1 : Hp} {S : Nat → Bool} (b : RO n d h) (a : Gr S h h1) (s0 : ∀ r, (r = 0 ∨ r = 16 ∨ r = 5 ∨ r = 6 ∨ (8 ≤ r ∧ r < 16)) → S r = false) : RO n d h1 := by
  have e : ∀ r, (r = 0 ∨ r = 16 ∨ r = 5 ∨ r = 6 ∨ (8 ≤ r ∧ r < 16)) → ∀ k, iv h1 r k = iv h r k := fun r hr => (a r (s0 r hr)).2.2.1
  unfold RO
  rw [e 0 (by omega), e 0 (by omega), e 0 (by omega), e 0 (by omega), e 16 (by omega)]
  obtain ⟨b1, b2, b3, b4, b5, b6, b7⟩ := b
  refine ⟨b1, b2, b3, b4, b5, fun r hr h8 => ?_, fun k hk => ?_⟩
  · rw [e 5 (by omega), e 6 (by omega)]
    exact b6 r hr h8
  · rw [e (8 + k) (by omega), e (8 + k) (by omega), e (8 + k) (by omega)]
    obtain ⟨c1, c2, c3, c4, c5, c6⟩ := b7 k hk
    refine ⟨c1, c2, c3, c4, c5, fun i hi => ?_⟩
    rw [e (12 + k) (by omega)]
    exact c6 i hi
theorem XS.gr {h h1 : Hp} {S : Nat → Bool} (b : XS h) (a : Gr S h h1) (s : ∀ r, (r ≤ 2 ∨ (4 ≤ r ∧ r ≤ 19) ∨ r = 500 ∨ r = 501) → S r = false) (s3 : tg h1 3 = 20 ∧ ∀ k, k < 7 → tg h1 (20 + k) = 20) : XS h1 := by
  refine ⟨fun q hq => ?_, fun q hq => ?_, fun q hq => ?_⟩
  · have h2 := b.1 q hq
    by_cases e : q.1 = 3
    · rw [e] at h2 ⊢
      rw [s3.1, ← h2, b.t3]
    · by_cases e2 : 20 ≤ q.1 ∧ q.1 ≤ 26
      · have e3 : q.1 = 20 + (q.1 - 20) := by omega
        have h3 := s3.2 (q.1 - 20) (by omega)
        rw [← e3] at h3
        rw [h3]
        simp only [List.mem_cons, List.not_mem_nil, or_false] at hq
        rcases hq with rfl | rfl | rfl | rfl | rfl | rfl | rfl | rfl | rfl | rfl | rfl | rfl | rfl | rfl | rfl | rfl | rfl | rfl | rfl | rfl | rfl | rfl | rfl | rfl | rfl | rfl | rfl | rfl | rfl <;> first | rfl | (exfalso; revert e2; decide)
      · have hr : q.1 ≤ 2 ∨ (4 ≤ q.1 ∧ q.1 ≤ 19) ∨ q.1 = 500 ∨ q.1 = 501 := by
          have := (by decide : ∀ q ∈ ([(0, 12), (1, 1), (2, 21), (3, 20), (4, 22), (5, 20), (6, 20), (7, 23), (8, 10), (9, 10), (10, 10), (11, 10), (12, 20), (13, 20), (14, 20), (15, 20), (16, 11), (17, 8), (18, 20), (19, 9), (20, 20), (21, 20), (22, 20), (23, 20), (24, 20), (25, 20), (26, 20), (500, 30), (501, 30)] : List (Nat × Nat)), q.1 ≤ 26 ∨ q.1 = 500 ∨ q.1 = 501) q hq
          omega
        rw [(a _ (s _ hr)).1]; exact h2
  · have h2 := b.2.1 q hq
    have hr : q.1 ≤ 2 ∨ (4 ≤ q.1 ∧ q.1 ≤ 19) ∨ q.1 = 500 ∨ q.1 = 501 := (by decide : ∀ q ∈ ([(0, 0), (0, 1), (0, 6), (0, 7), (0, 9), (0, 10), (0, 12), (0, 13), (0, 14), (0, 15), (0, 16), (1, 0), (1, 4), (7, 0), (7, 1), (7, 2), (7, 3), (8, 0), (9, 0), (10, 0), (11, 0), (17, 0), (19, 0), (19, 1), (19, 2), (19, 3)] : List (Nat × Nat)), q.1 ≤ 2 ∨ (4 ≤ q.1 ∧ q.1 ≤ 19) ∨ q.1 = 500 ∨ q.1 = 501) q hq
    rw [(a _ (s _ hr)).2.2.2]; exact h2
  · have h2 := b.2.2 q hq
    have hr : q.1 ≤ 2 ∨ (4 ≤ q.1 ∧ q.1 ≤ 19) ∨ q.1 = 500 ∨ q.1 = 501 := (by decide : ∀ q ∈ ([(2, 7), (4, 4), (5, 8), (6, 8), (7, 4), (12, 60), (13, 60), (14, 60), (15, 60), (18, 64), (500, 8), (501, 6)] : List (Nat × Nat)), q.1 ≤ 2 ∨ (4 ≤ q.1 ∧ q.1 ≤ 19) ∨ q.1 = 500 ∨ q.1 = 501) q hq
    rw [(a _ (s _ hr)).2.1]; exact h2
