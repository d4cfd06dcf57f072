/-! The calls of the class: more of the plain ones. -/
def lv (d : Nat → Nat → Int) (b : Int) : Nat → Nat → Int := up d 0 6 (wr (31 * d 0 6 + b))
def tellD (d : Nat → Nat → Int) (g : Nat) : Nat → Nat → Int := if d 3 g = 0 then lv d 1 else if d 3 g = 1 then lv (lv d 2) 1 else lv (lv (lv (lv d 3) 2) 1) 1
def tellA (d : Nat → Nat → Int) (g : Nat) : Int := if d 3 g = 0 then d 1 g else if d 3 g = 1 then d 1 g + 100 else 2 * d 1 g + 100
section PUB2
variable {n : Nat} {d : Nat → Nat → Int} {h : Hp} {P : Value → Hp → Prop}
theorem s_leave (x : RX n d h) {b : Int} (k : ∀ h', KX n (lv d b) h h' → P .null h') : R 115 0 [.ref 16, .int (I b)] [] h P := by
  refine t_Trail_leave x.S ?_
  rw [x.2.2.2.2.1.1]
  have fr : Fr (fun r => r == 16) h (setI h 16 0 (wr (31 * d 0 6 + b))) := Fr.set h _ _ rfl
  refine k _ (x.st (d' := lv d b) fr (fun r hr => ?_) (fun f h1 _ => up_f (by omega)) (up_ne (by omega)) (up_ne (by omega)) (x.2.trc (wr_rng _)))
  have : r = 16 := by simpa using hr
  omega
theorem lv_f (d : Nat → Nat → Int) (b : Int) {f : Nat} (hf : f ≠ 0) : lv d b f = d f := up_f hf
theorem s_plainly (x : RX n d h) {g : Nat} (hg : g < n) (k : ∀ h', KX n (lv d 1) h h' → P (.int (I (d 1 g))) h') : R 116 0 [.ref (30 + g), .ref 16] [] h P := by
  refine t_Grain_toldPlainly ⟨x.S.t16, s_leave x fun h1 k1 => ?_⟩
  obtain ⟨g1, g2, g3, g4, g5, -⟩ := k1.1.1.2.2.2.1 g hg
  rw [lv_f _ _ (by decide)] at g2 g5
  refine t_Grain_toldPlainly_5 ?_
  rw [g5]
  exact ⟨tok2 (by omega), k h1 k1⟩
theorem s_ltold (x : RX n d h) {g : Nat} (hg : g < n) (hk : d 3 g = 1 ∨ d 3 g = 2) (k : ∀ h', KX n (lv (lv d 2) 1) h h' → P (.int (I (d 1 g + 100))) h') : R 114 0 [.ref (30 + g), .ref 16] [] h P := by
  refine t_Long_told ⟨x.S.t16, s_leave x fun h1 k1 => ?_⟩
  obtain ⟨g1, g2, -⟩ := k1.1.1.2.2.2.1 g hg
  rw [lv_f _ _ (by decide)] at g2
  have z := s_plainly (P := fun v h2 => R 114 10 [.ref (30 + g), .ref 16] [v] h2 P) k1.1 hg fun h2 k2 => t_Long_told_10 (k h2 (k1.tr k2))
  exact t_Long_told_5 ⟨by omega, fun _ => z, fun _ => z⟩
theorem s_tell (x : RX n d h) {g : Int} (hg : rng g) (k1 : (g < 0 ∨ (n : Int) ≤ g) → P (.int (I (-1))) h) (k0 : (0 ≤ g ∧ g < n) → ∀ h', KX n (tellD d g.toNat) h h' → P (.int (I (tellA d g.toNat))) h') : R 113 0 [.ref 0, .int (I g)] [] h P := by
  have hn := x.n7
  refine t_X_tell x.S (s_noGrain x hg (fun c => ?_) (fun c => ?_))
  · exact t_X_tell_5 x.S ⟨by decide, fun q => absurd q (by decide), fun _ => k1 c⟩
  · obtain ⟨g1, g2, -⟩ := x.1.2.2.2.1 g.toNat (by omega)
    have k0 := k0 c
    unfold tellD tellA at k0
    refine t_X_tell_5 x.S ?_
    rw [child2 (by omega)]
    refine ⟨by decide, fun _ => ⟨by omega, by omega, g1, by omega, by omega, fun e => ?_, fun e => ?_, fun e => ?_⟩, fun q => absurd rfl q⟩
    · rw [if_pos (by omega), if_pos (by omega)] at k0
      have z := s_plainly (P := fun v h2 => R 118 5 [.ref (30 + g.toNat), .ref 16] [v] h2 fun v h2 => R 113 28 [.ref 0, .int (I g)] [v] h2 P) x (g := g.toNat) (by omega) fun h1 k1 => t_Grain_told_5 (t_X_tell_28 k1.1.S (k0 h1 k1))
      exact t_Grain_told ⟨by omega, fun _ => z, fun _ => z, fun _ => z⟩
    · rw [if_neg (by omega), if_pos (by omega), if_neg (by omega), if_pos (by omega)] at k0
      exact s_ltold x (by omega) (by omega) fun h1 k1 => t_X_tell_28 k1.1.S (k0 h1 k1)
    · rw [if_neg (by omega), if_neg (by omega), if_neg (by omega), if_neg (by omega)] at k0
      refine t_Oily_told ⟨x.S.t16, s_leave x fun h1 k1 => ?_⟩
      obtain ⟨v1, v2, -⟩ := k1.1.1.2.2.2.1 g.toNat (by omega)
      rw [lv_f _ _ (by decide)] at v2
      refine t_Oily_told_5 ⟨by omega, ?_⟩
      refine s_ltold k1.1 (by omega) (by rw [lv_f _ _ (by decide)]; omega) fun h2 k2 => ?_
      obtain ⟨w1, w2, -⟩ := k2.1.1.2.2.2.1 g.toNat (by omega)
      rw [lv_f _ _ (by decide), lv_f _ _ (by decide), lv_f _ _ (by decide)] at w2
      refine t_Oily_told_10 ⟨by omega, fun _ => ?_⟩
      refine s_plainly k2.1 (by omega) fun h3 k3 => t_Oily_told_15 (t_X_tell_28 k3.1.S ?_)
      rw [lv_f _ _ (by decide), lv_f _ _ (by decide), lv_f _ _ (by decide)]
      try rw [lv_f _ _ (by decide)]
      have e : d 1 g.toNat + 100 + d 1 g.toNat = 2 * d 1 g.toNat + 100 := by omega
      rw [e]
      exact k0 h3 ((k1.tr k2).tr k3)
theorem s_sift (x : RX n d h) {g : Int} (hg : rng g) (k1 : (g < 0 ∨ (n : Int) ≤ g) → P (.int (I (-1))) h) (k0 : (0 ≤ g ∧ g < n) → ∀ h', KX n (lv d (if d 3 g.toNat = 2 then 5 else 4)) h h' → P (.int (I (if d 3 g.toNat = 2 then 50 else g))) h') : R 119 0 [.ref 0, .int (I g)] [] h P := by
  have hn := x.n7
  refine t_X_sift x.S (s_noGrain x hg (fun c => ?_) (fun c => ?_))
  · exact t_X_sift_5 x.S ⟨by decide, fun q => absurd q (by decide), fun _ => k1 c⟩
  · obtain ⟨g1, g2, -⟩ := x.1.2.2.2.1 g.toNat (by omega)
    have k0 := k0 c
    have z : d 3 g.toNat ≠ 2 → R 121 0 [.ref (30 + g.toNat), .ref 16] [] h fun v h2 => R 119 28 [.ref 0, .int (I g)] [v] h2 P := by
      intro hk
      rw [if_neg hk, if_neg hk] at k0
      refine t_Grain_sifted ⟨x.S.t16, s_leave x fun h1 k1 => ?_⟩
      obtain ⟨v1, v2, v3, -⟩ := k1.1.1.2.2.2.1 g.toNat (by omega)
      rw [lv_f _ _ (by decide)] at v2
      refine t_Grain_sifted_5 ?_
      rw [v3]
      have e : ((g.toNat : Nat) : Int) = g := by omega
      rw [e]
      exact ⟨tok2 (by omega), t_X_sift_28 k1.1.S (k0 h1 k1)⟩
    refine t_X_sift_5 x.S ?_
    rw [child2 (by omega)]
    refine ⟨by decide, fun _ => ⟨by omega, by omega, g1, by omega, by omega, fun e => z (by omega), fun e => z (by omega), fun e => ?_⟩, fun q => absurd rfl q⟩
    have hk : d 3 g.toNat = 2 := by omega
    rw [if_pos hk, if_pos hk] at k0
    exact t_Oily_sifted ⟨x.S.t16, s_leave x fun h1 k1 => t_Oily_sifted_5 (t_X_sift_28 k1.1.S (k0 h1 k1))⟩
/-- a fault is told -/
theorem RX.flt (x : RX n d h) {v : Int} (hv : rng v) : KX n (up d 0 7 v) h (setI h 0 11 v) := x.s0 (k := 11) (by decide) (fun f h1 _ => up_f (by omega)) (up_ne (by omega)) (up_ne (by omega)) (x.2.flt hv)
theorem s_faulted (x : RX n d h) {v : Int} (hv : rng v) (k : ∀ h', KX n (up d 0 7 v) h h' → P (.int (I (-10 - v))) h') : R 11 0 [.ref 0, .int (I v)] [] h P := by
  refine t_X_faulted x.S ?_
  rw [wr_eq hv]
  exact k _ (x.flt hv)
theorem up_up (d : Nat → Nat → Int) (f i : Nat) (v w : Int) : up (up d f i v) f i w = up d f i w := by
  funext a b
  unfold up
  by_cases e : a = f ∧ b = i
  · rw [if_pos e, if_pos e]
  · rw [if_neg e, if_neg e, if_neg e]
theorem s_as (x : RX n d h) {g s : Int} (hg : rng g) (hs : rng s) (k : ∀ (h' : Hp) (v : Int), ((g < 0 ∨ (n : Int) ≤ g) → v = -1 ∧ KX n (up d 0 7 0) h h') → ((0 ≤ g ∧ g < n) → (s < 0 ∨ 2 < s) → v = -2 ∧ KX n (up d 0 7 0) h h') → ((0 ≤ g ∧ g < n) → (0 ≤ s ∧ s ≤ 2) → (d 3 g.toNat < s → v = -12 ∧ KX n (up d 0 7 2) h h') ∧ (s ≤ d 3 g.toNat → v = 1 ∧ KX n (up d 0 7 0) h h')) → P (.int (I v)) h') : R 122 0 [.ref 0, .int (I g), .int (I s)] [] h P := by
  have hn := x.n7
  have k1 := x.flt (v := 0) (by decide)
  have x1 := k1.1
  refine t_X_as x.S (s_noGrain x1 hg (fun c => ?_) (fun c => ?_))
  · exact t_X_as_10 x1.S ⟨by decide, fun q => absurd q (by decide), fun _ => k _ (-1) (fun _ => ⟨rfl, k1⟩) (fun q => absurd q (by omega)) (fun q => absurd q (by omega))⟩
  · obtain ⟨g1, g2, g3, g4, -⟩ := x1.1.2.2.2.1 g.toNat (by omega)
    have e3 : up d 0 7 0 3 = d 3 := up_f (by decide)
    rw [e3] at g2 g4
    have gb := x1.1.2.2.2.2.1 g.toNat (by omega)
    rw [e3] at gb
    refine t_X_as_10 x1.S ?_
    rw [child2 (by omega), g4]
    refine ⟨by decide, fun _ => ⟨hs, fun c2 => ?_, fun c2 => ⟨hs, fun c3 => ?_, fun c3 => ⟨by omega, by omega, g1, by omega, tok2 (by omega), by omega, hs, fun c4 => ?_, fun c4 => ?_⟩⟩⟩, fun q => absurd rfl q⟩
    · exact k _ (-2) (fun q => absurd q (by omega)) (fun _ _ => ⟨rfl, k1⟩) (fun _ q => absurd q (by omega))
    · exact k _ (-2) (fun q => absurd q (by omega)) (fun _ _ => ⟨rfl, k1⟩) (fun _ q => absurd q (by omega))
    · refine s_faulted x1 (by decide) fun h2 k2 => t_X_as_48 k2.1.S (k h2 (-12) (fun q => absurd q (by omega)) (fun _ q => absurd q (by omega)) (fun _ _ => ⟨fun _ => ⟨rfl, ?_⟩, fun q => absurd q (by omega)⟩))
      rw [up_up] at k2
      exact k1.tr k2
    · exact k _ 1 (fun q => absurd q (by omega)) (fun _ q => absurd q (by omega)) (fun _ _ => ⟨fun q => absurd q (by omega), fun _ => ⟨rfl, k1⟩⟩)
theorem s_trace (x : RX n d h) (k : P (.int (I (d 0 6))) h) : R 123 0 [.ref 0] [] h P := by
  refine t_X_trace x.S ?_
  rw [x.2.2.2.2.1.1]; exact k
theorem s_fault (x : RX n d h) (k : P (.int (I (d 0 7))) h) : R 124 0 [.ref 0] [] h P := by
  refine t_X_fault x.S ?_
  rw [x.2.2.2.2.2.1.1]; exact k
def manyA (n : Nat) (d : Nat → Nat → Int) (what : Int) : Int := if what = 0 then n else if what = 1 then lies n else if what = 2 then d 0 3 else if what = 3 then d 0 5 else if what = 4 then d 0 2 else if what = 5 then (if d 0 3 = 0 then -9 else d 0 4) else -2
theorem s_many (x : RX n d h) {w : Int} (hw : rng w) (k : P (.int (I (manyA n d w))) h) : R 125 0 [.ref 0, .int (I w)] [] h P := by
  obtain ⟨⟨b1, b2, b3, b4, b5, b6, b7, b8⟩, c, g, gg, gb, nb, ls, lw⟩ := x.1
  obtain ⟨o1, o2, o3, o4, o5, o6, o7⟩ := x.2
  unfold manyA at k
  refine t_X_many x.S ?_
  rw [b3, b4, ls.2.2.1, ls.2.2.2.1, o2.1, o3.1]
  refine ⟨hw, ⟨fun e => ?_, fun e => ?_, fun e => ?_, fun e => ?_, fun e => ?_, fun e => ⟨by omega, fun q => ?_, fun q => ?_⟩⟩, fun e => ?_⟩
  · rw [if_pos e] at k; exact k
  · rw [if_neg (by omega), if_pos e] at k; exact k
  · rw [if_neg (by omega), if_neg (by omega), if_pos e] at k; exact k
  · rw [if_neg (by omega), if_neg (by omega), if_neg (by omega), if_pos e] at k; exact k
  · rw [if_neg (by omega), if_neg (by omega), if_neg (by omega), if_neg (by omega), if_pos e] at k; exact k
  · rw [if_neg (by omega), if_neg (by omega), if_neg (by omega), if_neg (by omega), if_neg (by omega), if_pos e, if_pos q] at k; exact k
  · rw [if_neg (by omega), if_neg (by omega), if_neg (by omega), if_neg (by omega), if_neg (by omega), if_pos e, if_neg q] at k; exact k
  · rw [if_neg (by omega), if_neg (by omega), if_neg (by omega), if_neg (by omega), if_neg (by omega), if_neg (by omega)] at k; exact k
theorem s_back (x : RX n d h) {v : Int} (hv : rng v) (k1 : (v < 0 ∨ d 0 5 < v) → P (.int (I (-2))) h) (k0 : (0 ≤ v ∧ v ≤ d 0 5) → ∀ h', KX n (up d 0 5 (d 0 5 - v)) h h' → P (.int (I (d 0 5 - v))) h') : R 101 0 [.ref 0, .int (I v)] [] h P := by
  obtain ⟨o1, o2, o3, o4, o5, o6, o7⟩ := id x.2
  refine t_X_back x.S ?_
  rw [o3.1, iv_eq]
  refine ⟨hv, fun c => k1 (Or.inl c), fun c => ⟨hv, by omega, fun c2 => k1 (Or.inr c2), fun c2 => ?_⟩⟩
  rw [wr_eq (show rng (d 0 5 - v) by omega)]
  exact k0 (by omega) _ (x.s0 (k := 8) (by decide) (fun f h1 _ => up_f (by omega)) (up_ne (by omega)) (up_ne (by omega)) (x.2.rds (by omega)))
end PUB2
