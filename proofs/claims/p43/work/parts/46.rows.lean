/-! The places of rows behind a swap, a turn, a spoon. -/
def k5 (n t lie : Nat) : Bool := allN n (fun p => Nat.beq (dg (trn n (tb t lie)) p) (dg (tb t lie) (n - 1 - p))) && (allN (n - 1) (fun p => Nat.beq (dg (spn n (tb t lie)) p) (dg (tb t lie) (p + 1))) && (Nat.beq (dg (spn n (tb t lie)) (n - 1)) (dg (tb t lie) 0) && allN (n - 1) (fun p => allN n (fun q => Nat.beq (dg (swp (tb t lie) p) q) (bif Nat.beq q p then dg (tb t lie) (p + 1) else bif Nat.beq q (p + 1) then dg (tb t lie) p else dg (tb t lie) q)))))
theorem kk5_2 : allN 2 (k5 2 tb2) = true := by decide +kernel
theorem kk5_3 : allN 6 (k5 3 tb3) = true := by decide +kernel
theorem kk5_4 : allN 24 (k5 4 tb4) = true := by decide +kernel
theorem kk5_5 : allN 120 (k5 5 tb5) = true := by decide +kernel
theorem kk5_6 : allN 720 (k5 6 tb6) = true := by decide +kernel
theorem kk5_7_0 : allN 210 (fun i => k5 7 tb7 (210 * 0 + i)) = true := by decide +kernel
theorem kk5_7_1 : allN 210 (fun i => k5 7 tb7 (210 * 1 + i)) = true := by decide +kernel
theorem kk5_7_2 : allN 210 (fun i => k5 7 tb7 (210 * 2 + i)) = true := by decide +kernel
theorem kk5_7_3 : allN 210 (fun i => k5 7 tb7 (210 * 3 + i)) = true := by decide +kernel
theorem kk5_7_4 : allN 210 (fun i => k5 7 tb7 (210 * 4 + i)) = true := by decide +kernel
theorem kk5_7_5 : allN 210 (fun i => k5 7 tb7 (210 * 5 + i)) = true := by decide +kernel
theorem kk5_7_6 : allN 210 (fun i => k5 7 tb7 (210 * 6 + i)) = true := by decide +kernel
theorem kk5_7_7 : allN 210 (fun i => k5 7 tb7 (210 * 7 + i)) = true := by decide +kernel
theorem kk5_7_8 : allN 210 (fun i => k5 7 tb7 (210 * 8 + i)) = true := by decide +kernel
theorem kk5_7_9 : allN 210 (fun i => k5 7 tb7 (210 * 9 + i)) = true := by decide +kernel
theorem kk5_7_10 : allN 210 (fun i => k5 7 tb7 (210 * 10 + i)) = true := by decide +kernel
theorem kk5_7_11 : allN 210 (fun i => k5 7 tb7 (210 * 11 + i)) = true := by decide +kernel
theorem kk5_7_12 : allN 210 (fun i => k5 7 tb7 (210 * 12 + i)) = true := by decide +kernel
theorem kk5_7_13 : allN 210 (fun i => k5 7 tb7 (210 * 13 + i)) = true := by decide +kernel
theorem kk5_7_14 : allN 210 (fun i => k5 7 tb7 (210 * 14 + i)) = true := by decide +kernel
theorem kk5_7_15 : allN 210 (fun i => k5 7 tb7 (210 * 15 + i)) = true := by decide +kernel
theorem kk5_7_16 : allN 210 (fun i => k5 7 tb7 (210 * 16 + i)) = true := by decide +kernel
theorem kk5_7_17 : allN 210 (fun i => k5 7 tb7 (210 * 17 + i)) = true := by decide +kernel
theorem kk5_7_18 : allN 210 (fun i => k5 7 tb7 (210 * 18 + i)) = true := by decide +kernel
theorem kk5_7_19 : allN 210 (fun i => k5 7 tb7 (210 * 19 + i)) = true := by decide +kernel
theorem kk5_7_20 : allN 210 (fun i => k5 7 tb7 (210 * 20 + i)) = true := by decide +kernel
theorem kk5_7_21 : allN 210 (fun i => k5 7 tb7 (210 * 21 + i)) = true := by decide +kernel
theorem kk5_7_22 : allN 210 (fun i => k5 7 tb7 (210 * 22 + i)) = true := by decide +kernel
theorem kk5_7_23 : allN 210 (fun i => k5 7 tb7 (210 * 23 + i)) = true := by decide +kernel
theorem kk5_7 : ∀ lie, lie < 5040 → k5 7 tb7 lie = true := by
  intro lie h
  have e : lie = 210 * (lie / 210) + lie % 210 := by omega
  have h1 : lie % 210 < 210 := by omega
  rw [e]
  have h2 : lie / 210 = 0 ∨ lie / 210 = 1 ∨ lie / 210 = 2 ∨ lie / 210 = 3 ∨ lie / 210 = 4 ∨ lie / 210 = 5 ∨ lie / 210 = 6 ∨ lie / 210 = 7 ∨ lie / 210 = 8 ∨ lie / 210 = 9 ∨ lie / 210 = 10 ∨ lie / 210 = 11 ∨ lie / 210 = 12 ∨ lie / 210 = 13 ∨ lie / 210 = 14 ∨ lie / 210 = 15 ∨ lie / 210 = 16 ∨ lie / 210 = 17 ∨ lie / 210 = 18 ∨ lie / 210 = 19 ∨ lie / 210 = 20 ∨ lie / 210 = 21 ∨ lie / 210 = 22 ∨ lie / 210 = 23 := by omega
  rcases h2 with h2 | h2 | h2 | h2 | h2 | h2 | h2 | h2 | h2 | h2 | h2 | h2 | h2 | h2 | h2 | h2 | h2 | h2 | h2 | h2 | h2 | h2 | h2 | h2 <;> rw [h2]
  · exact allN_at kk5_7_0 _ h1
  · exact allN_at kk5_7_1 _ h1
  · exact allN_at kk5_7_2 _ h1
  · exact allN_at kk5_7_3 _ h1
  · exact allN_at kk5_7_4 _ h1
  · exact allN_at kk5_7_5 _ h1
  · exact allN_at kk5_7_6 _ h1
  · exact allN_at kk5_7_7 _ h1
  · exact allN_at kk5_7_8 _ h1
  · exact allN_at kk5_7_9 _ h1
  · exact allN_at kk5_7_10 _ h1
  · exact allN_at kk5_7_11 _ h1
  · exact allN_at kk5_7_12 _ h1
  · exact allN_at kk5_7_13 _ h1
  · exact allN_at kk5_7_14 _ h1
  · exact allN_at kk5_7_15 _ h1
  · exact allN_at kk5_7_16 _ h1
  · exact allN_at kk5_7_17 _ h1
  · exact allN_at kk5_7_18 _ h1
  · exact allN_at kk5_7_19 _ h1
  · exact allN_at kk5_7_20 _ h1
  · exact allN_at kk5_7_21 _ h1
  · exact allN_at kk5_7_22 _ h1
  · exact allN_at kk5_7_23 _ h1
theorem kkn5 {n lie : Nat} (h2 : 2 ≤ n) (h7 : n ≤ 7) (hl : lie < fct n) : k5 n (tbn n) lie = true := by
  have h : n = 2 ∨ n = 3 ∨ n = 4 ∨ n = 5 ∨ n = 6 ∨ n = 7 := by omega
  rcases h with rfl | rfl | rfl | rfl | rfl | rfl
  · exact allN_at kk5_2 lie hl
  · exact allN_at kk5_3 lie hl
  · exact allN_at kk5_4 lie hl
  · exact allN_at kk5_5 lie hl
  · exact allN_at kk5_6 lie hl
  · exact kk5_7 lie hl
theorem okRow.dgs {n r : Nat} (hn : 2 ≤ n ∧ n ≤ 7) (h : okRow n r) : (∀ p, p < n → dg (trn n r) p = dg r (n - 1 - p)) ∧ (∀ p, p < n - 1 → dg (spn n r) p = dg r (p + 1)) ∧ dg (spn n r) (n - 1) = dg r 0 ∧ ∀ p, p + 1 < n → ∀ q, q < n → dg (swp r p) q = if q = p then dg r (p + 1) else if q = p + 1 then dg r p else dg r q := by
  obtain ⟨lie, hl, rfl⟩ := h
  have q := kkn5 hn.1 hn.2 hl
  have e := (rank_facts hn hl).2.2.2.2
  simp only [k5, Bool.and_eq_true] at q
  rw [← e] at q
  refine ⟨fun p hp => Nat.eq_of_beq_eq_true (allN_at q.1 p hp), fun p hp => Nat.eq_of_beq_eq_true (allN_at q.2.1 p hp), Nat.eq_of_beq_eq_true q.2.2.1, fun p hp x hx => ?_⟩
  have z := Nat.eq_of_beq_eq_true (allN_at (allN_at q.2.2.2 p (by omega)) x hx)
  rw [z]
  by_cases c1 : x = p
  · rw [if_pos c1, c1, Nat.beq_refl]; rfl
  · have b1 : Nat.beq x p = false := by
      cases hb : Nat.beq x p with
      | false => rfl
      | true => exact absurd (Nat.eq_of_beq_eq_true hb) c1
    rw [if_neg c1, b1]
    by_cases c2 : x = p + 1
    · rw [if_pos c2, c2, Nat.beq_refl]; rfl
    · have b2 : Nat.beq x (p + 1) = false := by
        cases hb : Nat.beq x (p + 1) with
        | false => rfl
        | true => exact absurd (Nat.eq_of_beq_eq_true hb) c2
      rw [if_neg c2, b2]
      rfl
