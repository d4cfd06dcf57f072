/-! The text of a box. -/
def stB (s c w : Int) : Int := if s = 0 then (if c = 103 then 1 else -1) else if s < 3 then (if 49 ≤ c ∧ c ≤ 57 then s + 1 else -1) else if c = 59 then (if w < 7 then 0 else -1) else if s = 3 ∧ c = 108 then 4 else if s = 4 ∧ c = 111 then 5 else -1
theorem stB_bd (s c w : Int) (hs : 0 ≤ s ∧ s ≤ 5) : -1 ≤ stB s c w ∧ stB s c w ≤ 5 := by
  unfold stB
  split
  · split <;> omega
  · split
    · split <;> omega
    · split
      · split <;> omega
      · split
        · omega
        · split <;> omega
def bffg (H : Nat → Int) (m : Nat) : Nat → Nat → Int → Int → Int
  | 0, _, s, w => if s < 3 then (m : Nat) else if w < 2 then (m : Nat) else -1
  | k + 1, p, s, w => if stB s (H p) w < 0 then (p : Nat) else bffg H m k (p + 1) (stB s (H p) w) (if stB s (H p) w = 3 then w + 1 else w)
/-- the kind told from a place on -/
def kd (H : Nat → Int) (m p : Nat) : Nat := if p < m ∧ H p = 108 then (if p + 1 < m ∧ H (p + 1) = 111 then 2 else 1) else 0
theorem kd_le (H : Nat → Int) (m p : Nat) : kd H m p ≤ 2 := by
  unfold kd
  split
  · split <;> omega
  · omega
/-- the text grain by grain: k more are allowed, g are ahead, from p on -/
def bxg (H : Nat → Int) (m : Nat) : Nat → Nat → Nat → Int
  | 0, _, p => (p : Nat)
  | k + 1, g, p => if ¬ (p < m ∧ H p = 103) then (p : Nat) else if ¬ (p + 1 < m ∧ 49 ≤ H (p + 1) ∧ H (p + 1) ≤ 57) then ((p + 1 : Nat) : Int) else if ¬ (p + 2 < m ∧ 49 ≤ H (p + 2) ∧ H (p + 2) ≤ 57) then ((p + 2 : Nat) : Int) else
    if m ≤ p + 3 + kd H m (p + 3) ∧ 1 ≤ g then -1 else if k = 0 ∨ ¬ (p + 3 + kd H m (p + 3) < m ∧ H (p + 3 + kd H m (p + 3)) = 59) then ((p + 3 + kd H m (p + 3) : Nat) : Int) else bxg H m k (g + 1) (p + 3 + kd H m (p + 3) + 1)
section BXT
variable {H : Nat → Int} {m : Nat}
theorem bffg_0 {p : Nat} {s w : Int} (h : p = m) : bffg H m (m - p) p s w = if s < 3 then ((m : Nat) : Int) else if w < 2 then ((m : Nat) : Int) else -1 := by
  rw [show m - p = 0 by omega]
  rfl
theorem bffg_s {p : Nat} {s w : Int} (h : p < m) : bffg H m (m - p) p s w = if stB s (H p) w < 0 then ((p : Nat) : Int) else bffg H m (m - (p + 1)) (p + 1) (stB s (H p) w) (if stB s (H p) w = 3 then w + 1 else w) := by
  rw [show m - p = (m - (p + 1)) + 1 by omega]
  rfl
/-- behind a weight, an l, an o -/
theorem bff_end {p : Nat} {s w : Int} (hp : p ≤ m) (hs : s = 3 ∨ s = 4 ∨ s = 5) (h3 : ¬ (s = 3 ∧ p < m ∧ H p = 108)) (h4 : ¬ (s = 4 ∧ p < m ∧ H p = 111)) : bffg H m (m - p) p s w = if p = m then (if w < 2 then ((m : Nat) : Int) else -1) else if H p = 59 ∧ w < 7 then bffg H m (m - (p + 1)) (p + 1) 0 w else ((p : Nat) : Int) := by
  by_cases e : p = m
  · rw [bffg_0 e, if_neg (by omega), if_pos e]
  · rw [if_neg e, bffg_s (by omega)]
    have hst : stB s (H p) w = if H p = 59 ∧ w < 7 then 0 else -1 := by
      unfold stB
      rw [if_neg (by omega), if_neg (by omega)]
      by_cases c : H p = 59
      · rw [if_pos c]
        by_cases c2 : w < 7
        · rw [if_pos c2, if_pos (show H p = 59 ∧ w < 7 from ⟨c, c2⟩)]
        · rw [if_neg c2, if_neg (show ¬ (H p = 59 ∧ w < 7) from fun z => c2 z.2)]
      · rw [if_neg c, if_neg (show ¬ (s = 3 ∧ H p = 108) from fun z => h3 ⟨z.1, by omega, z.2⟩), if_neg (show ¬ (s = 4 ∧ H p = 111) from fun z => h4 ⟨z.1, by omega, z.2⟩), if_neg (show ¬ (H p = 59 ∧ w < 7) from fun z => c z.1)]
    rw [hst]
    by_cases c : H p = 59 ∧ w < 7
    · rw [if_pos c, if_pos c, if_neg (by omega), if_neg (by omega)]
    · rw [if_neg c, if_neg c, if_pos (by omega)]
theorem bff_eq : ∀ (B p g : Nat), m - p ≤ B → p ≤ m → g ≤ 6 → bffg H m (m - p) p 0 (g : Nat) = bxg H m (7 - g) g p := by
  intro B
  induction B with
  | zero =>
    intro p g hB hp hg
    have e : p = m := by omega
    rw [bffg_0 e, if_pos (by decide), show 7 - g = (6 - g) + 1 by omega, bxg, if_pos (by omega), e]
  | succ B ih =>
    intro p g hB hp hg
    rw [show 7 - g = (6 - g) + 1 by omega, bxg]
    by_cases e : p = m
    · rw [bffg_0 e, if_pos (by decide), if_pos (by omega), e]
    rw [bffg_s (by omega)]
    by_cases c1 : H p = 103
    · have s1 : stB 0 (H p) (g : Nat) = 1 := by unfold stB; rw [if_pos rfl, if_pos c1]
      rw [s1, if_neg (by decide), if_neg (by decide), if_neg (by omega)]
      by_cases e1 : p + 1 = m
      · rw [bffg_0 e1, if_pos (by decide), if_pos (by omega), e1]
      rw [bffg_s (by omega)]
      by_cases c2 : 49 ≤ H (p + 1) ∧ H (p + 1) ≤ 57
      · have s2 : stB 1 (H (p + 1)) (g : Nat) = 2 := by unfold stB; rw [if_neg (by decide), if_pos (by decide), if_pos c2]; rfl
        rw [s2, if_neg (by decide), if_neg (by decide), if_neg (by omega)]
        by_cases e2 : p + 1 + 1 = m
        · rw [bffg_0 e2, if_pos (by decide), if_pos (by omega), show p + 2 = m by omega]
        rw [bffg_s (by omega)]
        by_cases c3 : 49 ≤ H (p + 2) ∧ H (p + 2) ≤ 57
        · have s3 : stB 2 (H (p + 1 + 1)) (g : Nat) = 3 := by unfold stB; rw [if_neg (by decide), if_pos (by decide), if_pos c3]; rfl
          rw [s3, if_neg (by decide), if_pos rfl, if_neg (by omega)]
          have fin : ∀ (q : Nat) (s : Int), p + 3 ≤ q → q = p + 3 + kd H m (p + 3) → q ≤ m → (s = 3 ∨ s = 4 ∨ s = 5) → ¬ (s = 3 ∧ q < m ∧ H q = 108) → ¬ (s = 4 ∧ q < m ∧ H q = 111) → bffg H m (m - q) q s ((g : Int) + 1) = if m ≤ p + 3 + kd H m (p + 3) ∧ 1 ≤ g then -1 else if 6 - g = 0 ∨ ¬ (p + 3 + kd H m (p + 3) < m ∧ H (p + 3 + kd H m (p + 3)) = 59) then ((p + 3 + kd H m (p + 3) : Nat) : Int) else bxg H m (6 - g) (g + 1) (p + 3 + kd H m (p + 3) + 1) := by
            intro q s hq0 hq hqm hs h3 h4
            rw [bff_end hqm hs h3 h4, ← hq]
            by_cases z : q = m
            · rw [if_pos z]
              by_cases z2 : 1 ≤ g
              · rw [if_neg (by omega), if_pos (by omega)]
              · rw [if_pos (by omega), if_neg (by omega), if_pos (by omega), z]
            · rw [if_neg z, if_neg (show ¬ (m ≤ q ∧ 1 ≤ g) by omega)]
              by_cases z2 : H q = 59
              · by_cases z3 : g = 6
                · rw [if_neg (show ¬ (H q = 59 ∧ (g : Int) + 1 < 7) by omega), if_pos (show 6 - g = 0 ∨ ¬ (q < m ∧ H q = 59) by omega)]
                · rw [if_pos (show H q = 59 ∧ (g : Int) + 1 < 7 by omega), if_neg (show ¬ (6 - g = 0 ∨ ¬ (q < m ∧ H q = 59)) by omega)]
                  have := ih (q + 1) (g + 1) (by omega) (by omega) (by omega)
                  rw [show 7 - (g + 1) = 6 - g by omega] at this
                  exact this
              · rw [if_neg (show ¬ (H q = 59 ∧ (g : Int) + 1 < 7) from fun z4 => z2 z4.1), if_pos (show 6 - g = 0 ∨ ¬ (q < m ∧ H q = 59) from Or.inr (fun z4 => z2 z4.2))]
          by_cases c4 : p + 3 < m ∧ H (p + 3) = 108
          · rw [bffg_s (show p + 1 + 1 + 1 < m by omega)]
            have s4 : stB 3 (H (p + 1 + 1 + 1)) ((g : Int) + 1) = 4 := by
              unfold stB
              have : H (p + 1 + 1 + 1) = 108 := c4.2
              rw [if_neg (by decide), if_neg (by decide), if_neg (by omega), if_pos ⟨rfl, this⟩]
            rw [s4, if_neg (by decide), if_neg (by decide)]
            by_cases c5 : p + 4 < m ∧ H (p + 4) = 111
            · rw [bffg_s (show p + 1 + 1 + 1 + 1 < m by omega)]
              have s5 : stB 4 (H (p + 1 + 1 + 1 + 1)) ((g : Int) + 1) = 5 := by
                unfold stB
                have : H (p + 1 + 1 + 1 + 1) = 111 := c5.2
                rw [if_neg (by decide), if_neg (by decide), if_neg (by omega), if_neg (by omega), if_pos ⟨rfl, this⟩]
              rw [s5, if_neg (by decide), if_neg (by decide)]
              have hk : kd H m (p + 3) = 2 := by unfold kd; rw [if_pos c4, if_pos c5]
              exact fin (p + 5) 5 (by omega) (by omega) (by omega) (by omega) (by omega) (by omega)
            · have hk : kd H m (p + 3) = 1 := by unfold kd; rw [if_pos c4, if_neg c5]
              exact fin (p + 4) 4 (by omega) (by omega) (by omega) (by omega) (by omega) (fun z => c5 z.2)
          · have hk : kd H m (p + 3) = 0 := by unfold kd; rw [if_neg c4]
            exact fin (p + 3) 3 (by omega) (by omega) (by omega) (by omega) (fun z => c4 z.2) (by omega)
        · have s3 : stB 2 (H (p + 1 + 1)) (g : Nat) = -1 := by unfold stB; rw [if_neg (by decide), if_pos (by decide), if_neg c3]
          rw [s3, if_pos (by decide), if_pos (fun z => c3 z.2)]
      · have s2 : stB 1 (H (p + 1)) (g : Nat) = -1 := by unfold stB; rw [if_neg (by decide), if_pos (by decide), if_neg c2]
        rw [s2, if_pos (by decide), if_pos (fun z => c2 z.2)]
    · have s1 : stB 0 (H p) (g : Nat) = -1 := by unfold stB; rw [if_pos rfl, if_neg c1]
      rw [s1, if_pos (by decide), if_pos (fun z => c1 z.2)]
end BXT
/-- where the grains begin -/
def gpo (H : Nat → Int) (m : Nat) : Nat → Nat
  | 0 => 0
  | g + 1 => gpo H m g + 3 + kd H m (gpo H m g + 3) + 1
def cgr (H : Nat → Int) (m : Nat) : Nat → Nat → Nat
  | 0, g => g
  | k + 1, g => if gpo H m g < m then cgr H m k (g + 1) else g
def GT (H : Nat → Int) (m N : Nat) : Prop := (2 ≤ N ∧ N ≤ 7) ∧ gpo H m N = m + 1 ∧ ∀ j, j < N → gpo H m j + 2 < m ∧ (49 ≤ H (gpo H m j + 1) ∧ H (gpo H m j + 1) ≤ 57) ∧ 49 ≤ H (gpo H m j + 2) ∧ H (gpo H m j + 2) ≤ 57
theorem bxg_gt {H : Nat → Int} {m : Nat} : ∀ (k g : Nat), g + k = 7 → gpo H m g ≤ m → (∀ j, j < g → gpo H m j + 2 < m ∧ (49 ≤ H (gpo H m j + 1) ∧ H (gpo H m j + 1) ≤ 57) ∧ 49 ≤ H (gpo H m j + 2) ∧ H (gpo H m j + 2) ≤ 57) → bxg H m k g (gpo H m g) = -1 → ∃ N, GT H m N
  | 0, g, hg, hp, hj, h => by
    rw [bxg] at h; omega
  | k + 1, g, hg, hp, hj, h => by
    rw [bxg] at h
    by_cases c1 : gpo H m g < m ∧ H (gpo H m g) = 103
    · rw [if_neg (fun z => z c1)] at h
      by_cases c2 : gpo H m g + 1 < m ∧ 49 ≤ H (gpo H m g + 1) ∧ H (gpo H m g + 1) ≤ 57
      · rw [if_neg (fun z => z c2)] at h
        by_cases c3 : gpo H m g + 2 < m ∧ 49 ≤ H (gpo H m g + 2) ∧ H (gpo H m g + 2) ≤ 57
        · rw [if_neg (fun z => z c3)] at h
          have hj2 : ∀ j, j < g + 1 → gpo H m j + 2 < m ∧ (49 ≤ H (gpo H m j + 1) ∧ H (gpo H m j + 1) ≤ 57) ∧ 49 ≤ H (gpo H m j + 2) ∧ H (gpo H m j + 2) ≤ 57 := fun j q => by
            by_cases e : j = g
            · rw [e]; exact ⟨c3.1, c2.2, c3.2⟩
            · exact hj j (by omega)
          by_cases c4 : m ≤ gpo H m g + 3 + kd H m (gpo H m g + 3) ∧ 1 ≤ g
          · have hle : gpo H m g + 3 + kd H m (gpo H m g + 3) ≤ m := by
              unfold kd
              split
              · split <;> omega
              · omega
            exact ⟨g + 1, by omega, by show gpo H m g + 3 + kd H m (gpo H m g + 3) + 1 = _; omega, hj2⟩
          · rw [if_neg c4] at h
            by_cases c5 : k = 0 ∨ ¬ (gpo H m g + 3 + kd H m (gpo H m g + 3) < m ∧ H (gpo H m g + 3 + kd H m (gpo H m g + 3)) = 59)
            · rw [if_pos c5] at h; omega
            · rw [if_neg c5] at h
              have c6 : gpo H m g + 3 + kd H m (gpo H m g + 3) < m := by
                apply Classical.byContradiction
                intro z
                exact c5 (Or.inr fun z2 => z z2.1)
              exact bxg_gt k (g + 1) (by omega) (by show gpo H m g + 3 + kd H m (gpo H m g + 3) + 1 ≤ m; omega) hj2 h
        · rw [if_pos c3] at h; omega
      · rw [if_pos c2] at h; omega
    · rw [if_pos c1] at h; omega
theorem cgr_n {H : Nat → Int} {m N : Nat} (t : GT H m N) : ∀ (k g : Nat), g + k = 7 → g ≤ N → cgr H m k g = N
  | 0, g, hg, hn => by rw [cgr]; have := t.1; omega
  | k + 1, g, hg, hn => by
    rw [cgr]
    by_cases e : g = N
    · rw [if_neg (by rw [e, t.2.1]; omega), e]
    · have := (t.2.2 g (by omega)).1
      rw [if_pos (by omega)]
      exact cgr_n t k (g + 1) (by omega) (by omega)
section BXC
variable {P : Value → Hp → Prop} {h : Hp}
theorem s_stB {s c w : Int} (hs : 0 ≤ s ∧ s ≤ 5) (hc : rng c) (hw : rng w) (kk : P (.int (I (stB s c w))) h) : R 14 0 [.int (I s), .int (I c), .int (I w)] [] h P := by
  unfold stB at kk
  refine t_Box_stateBehind ?_
  grind (splits := 30)
theorem bff_loop {H : Nat → Int} {a i m : Nat} (ha : tg h a = 20) (h6 : ln h a = 60) (hm : i + m ≤ 60) (hv : ∀ p, p < m → iv h a ((i : Int) + (p : Nat)) = H p ∧ rng (H p)) : ∀ (k p : Nat) (s w : Int), p + k = m → (0 ≤ s ∧ s ≤ 5) → (0 ≤ w ∧ w ≤ p) → P (.int (I (bffg H m k p s w))) h → R 13 8 [.ref a, .int (I (i : Nat)), .int (I (m : Nat)), .int (I s), .int (I w), .int (I (p : Nat))] [] h P := by
  intro k
  induction k with
  | zero =>
    intro p s w hp hs hw kk
    rw [bffg] at kk
    refine t_Box_firstFault_8 ⟨by omega, by omega, fun c => absurd c (by omega), fun _ => ⟨by omega, fun c => ?_, fun c => ⟨by omega, fun c2 => ?_, fun c2 => ?_⟩⟩⟩
    · rw [if_pos c] at kk; exact kk
    · rw [if_neg c, if_pos c2] at kk; exact kk
    · rw [if_neg c, if_neg c2] at kk; exact kk
  | succ k ih =>
    intro p s w hp hs hw kk
    obtain ⟨v1, v2⟩ := hv p (by omega)
    have bd := stB_bd s (H p) w hs
    rw [bffg] at kk
    refine t_Box_firstFault_8 ?_
    rw [v1, h6]
    refine ⟨by omega, by omega, fun _ => ⟨Or.inl ha, by omega, by omega, by omega, s_stB hs v2 (by omega) (t_Box_firstFault_26 ⟨by omega, fun c => ?_, fun c => ⟨by omega, fun c2 => ?_, fun c2 => ?_⟩⟩)⟩, fun c => absurd (by omega) c⟩
    · rw [if_pos c] at kk; exact kk
    · rw [if_neg c, if_pos c2] at kk
      exact ih (p + 1) _ _ (by omega) (by omega) (by omega) kk
    · rw [if_neg c, if_neg c2] at kk
      rw [Int.add_zero]
      exact ih (p + 1) _ _ (by omega) (by omega) (by omega) kk
theorem s_bff {H : Nat → Int} {a i m : Nat} (ha : tg h a = 20) (h6 : ln h a = 60) (hm : i + m ≤ 60) (hv : ∀ p, p < m → iv h a ((i : Int) + (p : Nat)) = H p ∧ rng (H p)) (kk : P (.int (I (bxg H m 7 0 0))) h) : R 13 0 [.ref a, .int (I (i : Nat)), .int (I (m : Nat)), .retAddr 0, .retAddr 0, .retAddr 0] [] h P := by
  refine t_Box_firstFault (bff_loop ha h6 hm hv m 0 0 0 (by omega) (by decide) (by decide) ?_)
  have := bff_eq (H := H) (m := m) m 0 0 (by omega) (by omega) (by decide)
  rw [Nat.sub_zero] at this
  have e : bffg H m m 0 0 0 = bxg H m 7 0 0 := this
  rw [e]
  exact kk
theorem s_kindAt {H : Nat → Int} {a i m p : Nat} (ha : tg h a = 20) (h6 : ln h a = 60) (hm : i + m ≤ 60) (hp : p ≤ 70) (hv : ∀ p, p < m → iv h a ((i : Int) + (p : Nat)) = H p ∧ rng (H p)) (kk : P (.int (I (kd H m p : Nat))) h) : R 16 0 [.ref a, .int (I ((i : Int) + (p : Nat))), .int (I ((i : Int) + (m : Nat)))] [] h P := by
  unfold kd at kk
  refine t_Box_kindAt ⟨by omega, by omega, fun c => ?_, fun c => ?_⟩
  · obtain ⟨v1, v2⟩ := hv p (by omega)
    rw [v1, h6]
    refine ⟨Or.inl ha, by omega, by omega, by omega, v2, fun c2 => ⟨by omega, by omega, fun c3 => ?_, fun c3 => ?_⟩, fun c2 => ?_⟩
    · obtain ⟨v3, v4⟩ := hv (p + 1) (by omega)
      rw [if_pos ⟨by omega, c2⟩] at kk
      rw [show (i : Int) + (p : Int) + 1 = (i : Int) + ((p + 1 : Nat) : Int) by omega, v3]
      refine ⟨Or.inl ha, by omega, by omega, by omega, v4, fun c4 => ?_, fun c4 => ?_⟩
      · rw [if_pos ⟨by omega, c4⟩] at kk; exact kk
      · rw [if_neg (fun z => c4 z.2)] at kk; exact kk
    · rw [if_pos ⟨by omega, c2⟩, if_neg (by omega)] at kk; exact kk
    · rw [if_neg (fun z => c2 z.2)] at kk; exact kk
  · rw [if_neg (by omega)] at kk; exact kk
end BXC
