/-! Each grain lies in each row. -/
def fnd (r g : Nat) : Nat → Nat → Bool
  | 0, _ => false
  | k + 1, p => bif Nat.beq (dg r p) g then true else fnd r g k (p + 1)
def k6 (n t lie : Nat) : Bool := allN n (fun g => fnd (tb t lie) g n 0)
theorem kk6_2 : allN 2 (k6 2 tb2) = true := by decide +kernel
theorem kk6_3 : allN 6 (k6 3 tb3) = true := by decide +kernel
theorem kk6_4 : allN 24 (k6 4 tb4) = true := by decide +kernel
theorem kk6_5 : allN 120 (k6 5 tb5) = true := by decide +kernel
theorem kk6_6 : allN 720 (k6 6 tb6) = true := by decide +kernel
theorem kk6_7_0 : allN 210 (fun i => k6 7 tb7 (210 * 0 + i)) = true := by decide +kernel
theorem kk6_7_1 : allN 210 (fun i => k6 7 tb7 (210 * 1 + i)) = true := by decide +kernel
theorem kk6_7_2 : allN 210 (fun i => k6 7 tb7 (210 * 2 + i)) = true := by decide +kernel
theorem kk6_7_3 : allN 210 (fun i => k6 7 tb7 (210 * 3 + i)) = true := by decide +kernel
theorem kk6_7_4 : allN 210 (fun i => k6 7 tb7 (210 * 4 + i)) = true := by decide +kernel
theorem kk6_7_5 : allN 210 (fun i => k6 7 tb7 (210 * 5 + i)) = true := by decide +kernel
theorem kk6_7_6 : allN 210 (fun i => k6 7 tb7 (210 * 6 + i)) = true := by decide +kernel
theorem kk6_7_7 : allN 210 (fun i => k6 7 tb7 (210 * 7 + i)) = true := by decide +kernel
theorem kk6_7_8 : allN 210 (fun i => k6 7 tb7 (210 * 8 + i)) = true := by decide +kernel
theorem kk6_7_9 : allN 210 (fun i => k6 7 tb7 (210 * 9 + i)) = true := by decide +kernel
theorem kk6_7_10 : allN 210 (fun i => k6 7 tb7 (210 * 10 + i)) = true := by decide +kernel
theorem kk6_7_11 : allN 210 (fun i => k6 7 tb7 (210 * 11 + i)) = true := by decide +kernel
theorem kk6_7_12 : allN 210 (fun i => k6 7 tb7 (210 * 12 + i)) = true := by decide +kernel
theorem kk6_7_13 : allN 210 (fun i => k6 7 tb7 (210 * 13 + i)) = true := by decide +kernel
theorem kk6_7_14 : allN 210 (fun i => k6 7 tb7 (210 * 14 + i)) = true := by decide +kernel
theorem kk6_7_15 : allN 210 (fun i => k6 7 tb7 (210 * 15 + i)) = true := by decide +kernel
theorem kk6_7_16 : allN 210 (fun i => k6 7 tb7 (210 * 16 + i)) = true := by decide +kernel
theorem kk6_7_17 : allN 210 (fun i => k6 7 tb7 (210 * 17 + i)) = true := by decide +kernel
theorem kk6_7_18 : allN 210 (fun i => k6 7 tb7 (210 * 18 + i)) = true := by decide +kernel
theorem kk6_7_19 : allN 210 (fun i => k6 7 tb7 (210 * 19 + i)) = true := by decide +kernel
theorem kk6_7_20 : allN 210 (fun i => k6 7 tb7 (210 * 20 + i)) = true := by decide +kernel
theorem kk6_7_21 : allN 210 (fun i => k6 7 tb7 (210 * 21 + i)) = true := by decide +kernel
theorem kk6_7_22 : allN 210 (fun i => k6 7 tb7 (210 * 22 + i)) = true := by decide +kernel
theorem kk6_7_23 : allN 210 (fun i => k6 7 tb7 (210 * 23 + i)) = true := by decide +kernel
theorem kk6_7 : ∀ lie, lie < 5040 → k6 7 tb7 lie = true := by
  intro lie h
  have e : lie = 210 * (lie / 210) + lie % 210 := by omega
  have h1 : lie % 210 < 210 := by omega
  rw [e]
  have h2 : lie / 210 = 0 ∨ lie / 210 = 1 ∨ lie / 210 = 2 ∨ lie / 210 = 3 ∨ lie / 210 = 4 ∨ lie / 210 = 5 ∨ lie / 210 = 6 ∨ lie / 210 = 7 ∨ lie / 210 = 8 ∨ lie / 210 = 9 ∨ lie / 210 = 10 ∨ lie / 210 = 11 ∨ lie / 210 = 12 ∨ lie / 210 = 13 ∨ lie / 210 = 14 ∨ lie / 210 = 15 ∨ lie / 210 = 16 ∨ lie / 210 = 17 ∨ lie / 210 = 18 ∨ lie / 210 = 19 ∨ lie / 210 = 20 ∨ lie / 210 = 21 ∨ lie / 210 = 22 ∨ lie / 210 = 23 := by omega
  rcases h2 with h2 | h2 | h2 | h2 | h2 | h2 | h2 | h2 | h2 | h2 | h2 | h2 | h2 | h2 | h2 | h2 | h2 | h2 | h2 | h2 | h2 | h2 | h2 | h2 <;> rw [h2]
  · exact allN_at kk6_7_0 _ h1
  · exact allN_at kk6_7_1 _ h1
  · exact allN_at kk6_7_2 _ h1
  · exact allN_at kk6_7_3 _ h1
  · exact allN_at kk6_7_4 _ h1
  · exact allN_at kk6_7_5 _ h1
  · exact allN_at kk6_7_6 _ h1
  · exact allN_at kk6_7_7 _ h1
  · exact allN_at kk6_7_8 _ h1
  · exact allN_at kk6_7_9 _ h1
  · exact allN_at kk6_7_10 _ h1
  · exact allN_at kk6_7_11 _ h1
  · exact allN_at kk6_7_12 _ h1
  · exact allN_at kk6_7_13 _ h1
  · exact allN_at kk6_7_14 _ h1
  · exact allN_at kk6_7_15 _ h1
  · exact allN_at kk6_7_16 _ h1
  · exact allN_at kk6_7_17 _ h1
  · exact allN_at kk6_7_18 _ h1
  · exact allN_at kk6_7_19 _ h1
  · exact allN_at kk6_7_20 _ h1
  · exact allN_at kk6_7_21 _ h1
  · exact allN_at kk6_7_22 _ h1
  · exact allN_at kk6_7_23 _ h1
theorem kkn6 {n lie : Nat} (h2 : 2 ≤ n) (h7 : n ≤ 7) (hl : lie < fct n) : k6 n (tbn n) lie = true := by
  have h : n = 2 ∨ n = 3 ∨ n = 4 ∨ n = 5 ∨ n = 6 ∨ n = 7 := by omega
  rcases h with rfl | rfl | rfl | rfl | rfl | rfl
  · exact allN_at kk6_2 lie hl
  · exact allN_at kk6_3 lie hl
  · exact allN_at kk6_4 lie hl
  · exact allN_at kk6_5 lie hl
  · exact allN_at kk6_6 lie hl
  · exact kk6_7 lie hl
theorem okRow.fnd {n r : Nat} (hn : 2 ≤ n ∧ n ≤ 7) (h : okRow n r) {g : Nat} (hg : g < n) : fnd r g n 0 = true := by
  obtain ⟨lie, hl, rfl⟩ := h
  have q := kkn6 hn.1 hn.2 hl
  have e := (rank_facts hn hl).2.2.2.2
  unfold k6 at q
  rw [← e] at q
  exact allN_at q g hg
