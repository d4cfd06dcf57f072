/-! The reference: the text of a law. -/
noncomputable def lfp (H : Nat → Int) (m p : Nat) : Int := lffg (lwG H) m (m - p) p
theorem lfp_m (H : Nat → Int) (m : Nat) : lfp H m m = if m % 4 = 3 then (-1 : Int) else ((m : Nat) : Int) := by
  unfold lfp
  rw [Nat.sub_self]
  rfl
theorem lfp_y {H : Nat → Int} {m p : Nat} (hp : p < m) (h : lwG H p) : lfp H m p = lfp H m (p + 1) := by
  unfold lfp
  rw [show m - p = (m - (p + 1)) + 1 by omega, lffg, if_pos h]
theorem lfp_n {H : Nat → Int} {m p : Nat} (hp : p < m) (h : ¬ lwG H p) : lfp H m p = (p : Nat) := by
  unfold lfp
  rw [show m - p = (m - (p + 1)) + 1 by omega, lffg, if_neg h]
noncomputable def dgAt (H : Nat → Int) (m p : Nat) : Int := if p < m ∧ 48 ≤ H p ∧ H p ≤ 57 then H p - 48 else -9
section YLAW
variable {n : Nat} {d : Nat → Nat → Int} {P : Value → Hp → Prop} {h : Hp}
theorem y_letterOf {c : Int} (hc : rng c) (kk : P (.int (I (ltc c))) h) : R 150 0 [.int (I c)] [] h P := by
  refine t_Y_letterOf ⟨hc, ⟨fun e => ?_, fun e => ?_, fun e => ?_, fun e => ?_, fun e => ?_, fun e => ?_, fun e => ?_, fun e => ?_, fun e => ?_, fun e => ?_, fun e => ?_, fun e => ?_, fun e => ?_, fun e => ?_, fun e => ?_, fun e => ?_, fun e => ?_, fun e => ?_, fun e => ?_, fun e => ?_⟩, fun e => ?_⟩
  iterate 20 (· subst e; exact kk)
  · unfold ltc at kk
    rw [if_neg (by omega), if_neg (by omega), if_neg (by omega), if_neg (by omega), if_neg (by omega), if_neg (by omega)] at kk
    exact kk
theorem RY.ce (x : RY n d h) {k i p : Nat} (hk : k < 4) (hp : i + p < 60) : iv h 405 (60 * (k : Int) + (i : Int) + (p : Int)) = celH d (k : Nat) (i : Nat) p ∧ rng (celH d (k : Nat) (i : Nat) p) := by
  have := (x.sh hk).2.2.2.2 (i + p) hp
  rw [← Nat.add_assoc] at this
  rw [show 60 * (k : Int) + (i : Int) + (p : Int) = ((60 * k + i + p : Nat) : Int) by omega]
  exact this
theorem y_digitAt (x : RY n d h) {k i m p : Nat} (hk : k < 4) (him : i + m ≤ 60) (hp : p ≤ m) (kk : P (.int (I (dgAt (celH d (k : Nat) (i : Nat)) m p))) h) : R 135 0 [.ref 400, .int (I (60 * (k : Int) + (i : Int) + (p : Int))), .int (I (60 * (k : Int) + (i : Int) + (m : Int)))] [] h P := by
  unfold dgAt at kk
  refine t_Y_digitAt x.S ⟨by omega, by omega, fun c => ?_, fun c => ?_⟩
  · obtain ⟨c1, c2⟩ := x.ce (k := k) (i := i) (p := p) hk (by omega)
    rw [c1]
    refine ⟨by omega, by omega, y_within c2 (by decide) (by decide) (fun c3 => ?_) (fun c3 => ?_)⟩
    · rw [if_pos (by omega)] at kk
      refine t_Y_digitAt_18 x.S ?_
      rw [c1]
      exact ⟨by decide, fun q => absurd q (by decide), fun _ => ⟨by omega, by omega, kk⟩⟩
    · rw [if_neg (by omega)] at kk
      exact t_Y_digitAt_18 x.S ⟨by decide, fun _ => kk, fun q => absurd rfl q⟩
  · rw [if_neg (by omega)] at kk; exact kk
theorem y_isCode (x : RY n d h) {k i m p : Nat} {c : Int} (hc : rng c) (hk : k < 4) (him : i + m ≤ 60) (hp : p ≤ m) (e12 : iv h 400 12 = 60 * (k : Int) + (i : Int) + (p : Int)) (k1 : p < m ∧ celH d (k : Nat) (i : Nat) p = c → P (.int (I 1)) h) (k0 : ¬ (p < m ∧ celH d (k : Nat) (i : Nat) p = c) → P (.int (I 0)) h) : R 134 0 [.ref 400, .int (I c), .int (I (60 * (k : Int) + (i : Int) + (m : Int)))] [] h P := by
  refine t_Y_isCode x.S ?_
  rw [e12]
  refine ⟨by omega, by omega, fun c1 => ?_, fun c1 => k0 (by omega)⟩
  obtain ⟨c2, c3⟩ := x.ce (k := k) (i := i) (p := p) hk (by omega)
  rw [c2]
  exact ⟨by omega, by omega, c3, hc, fun e => k1 ⟨by omega, e⟩, fun e => k0 (by omega)⟩
/-- the causes that were read -/
def CR (H : Nat → Int) (h : Hp) (c : Nat) : Prop := ∀ c' : Nat, c' < c → iv h 426 (3 * (c' : Int)) = ltc (H (4 * c')) ∧ iv h 426 (3 * (c' : Int) + 1) = H (4 * c' + 1) - 48 ∧ iv h 426 (3 * (c' : Int) + 2) = H (4 * c' + 2) - 48
theorem KS.p12 (h : Hp) (v : Int) : KS h (setI h 400 12 v) := KS.set0 (by decide) v
theorem cr_iv (h : Hp) (v a b0 b1 b2 w z : Int) : iv (setI (setI (setI (setI (setI h 400 12 v) 426 a b0) 426 (a + 1) b1) 426 (a + 2) b2) 400 13 w) 426 z = if z = a + 2 then b2 else if z = a + 1 then b1 else if z = a then b0 else iv h 426 z := by
  rw [iv_ne (by decide)]
  by_cases c1 : z = a + 2
  · rw [if_pos c1, c1, iv_eq]
  · rw [if_neg c1, iv_nk c1]
    by_cases c2 : z = a + 1
    · rw [if_pos c2, c2, iv_eq]
    · rw [if_neg c2, iv_nk c2]
      by_cases c3 : z = a
      · rw [if_pos c3, c3, iv_eq]
      · rw [if_neg c3, iv_nk c3, iv_ne (by decide)]
theorem readLaw_loop {k i m : Nat} (hk : k < 4) (him : i + m ≤ 60) : ∀ (f c : Nat) (h : Hp) (a2 a3 a4 : Value), m < 4 * c + f → c ≤ 5 → 4 * c ≤ m → RY n d h → iv h 400 12 = 60 * (k : Int) + (i : Int) + ((4 * c : Nat) : Int) → iv h 400 13 = (c : Nat) → CR (celH d (k : Nat) (i : Nat)) h c →
    (∀ (h' : Hp) (p : Nat), KS h h' → iv h' 400 12 = 60 * (k : Int) + (i : Int) + (p : Int) → lfp (celH d (k : Nat) (i : Nat)) m (4 * c) = (p : Nat) → P (.int (I 0)) h') →
    (∀ h', KS h h' → iv h' 400 13 = ((m + 1) / 4 : Nat) → CR (celH d (k : Nat) (i : Nat)) h' ((m + 1) / 4) → lfp (celH d (k : Nat) (i : Nat)) m (4 * c) = -1 → P (.int (I 1)) h') →
    R 149 5 [.ref 400, .int (I (60 * (k : Int) + (i : Int) + (m : Int))), a2, a3, a4] [] h P := by
  intro f
  induction f with
  | zero => intro c h a2 a3 a4 hf hc hm; omega
  | succ f ih =>
    intro c h a2 a3 a4 hf hc hm x e12 e13 cr k0 k1
    generalize hH : celH d (k : Nat) (i : Nat) = H at *
    refine t_Y_readLaw_5 x.S ?_
    rw [e12]
    refine ⟨by omega, by omega, fun c1 => ?_, fun c1 => ⟨fun _ => ?_, fun q => absurd rfl q⟩⟩
    · obtain ⟨v1, v2⟩ := x.ce (k := k) (i := i) (p := 4 * c) hk (by omega)
      rw [hH] at v1 v2
      rw [v1]
      have lb := ltc_bd (H (4 * c))
      refine ⟨by omega, by omega, y_letterOf v2 (t_Y_readLaw_25 x.S ?_)⟩
      have G0 : lwG H (4 * c) ↔ ltc (H (4 * c)) ≠ -9 := ⟨fun g => g.1 (by omega), fun g => ⟨fun _ => g, fun z => by omega, fun z => by omega, fun z => by omega⟩⟩
      rw [e12, wr_eq (show rng (60 * (k : Int) + (i : Int) + ((4 * c : Nat) : Int) + 1) by omega), iv_eq]
      refine ⟨by omega, fun c2 => ?_, fun c2 => ?_⟩
      · exact k0 h (4 * c) (KS.rf h) e12 (lfp_n (by omega) fun g => G0.mp g c2)
      · have L1 := lfp_y (H := H) (m := m) (p := 4 * c) (by omega) (G0.mpr c2)
        have q1 := KS.p12 h (60 * (k : Int) + (i : Int) + ((4 * c : Nat) : Int) + 1)
        have p1 : iv (setI h 400 12 (60 * (k : Int) + (i : Int) + ((4 * c : Nat) : Int) + 1)) 400 12 = 60 * (k : Int) + (i : Int) + ((4 * c + 1 : Nat) : Int) := (iv_eq _ _ _ _).trans (by omega)
        have r1 : iv (setI h 400 12 (60 * (k : Int) + (i : Int) + ((4 * c : Nat) : Int) + 1)) 400 13 = (c : Nat) := (iv_nk (by decide)).trans e13
        have s1 : ∀ z, iv (setI h 400 12 (60 * (k : Int) + (i : Int) + ((4 * c : Nat) : Int) + 1)) 426 z = iv h 426 z := fun z => iv_ne (by decide)
        have x1 := x.ks q1
        rw [show 60 * (k : Int) + (i : Int) + ((4 * c : Nat) : Int) + 1 = 60 * (k : Int) + (i : Int) + ((4 * c + 1 : Nat) : Int) by omega] at *
        generalize setI h 400 12 (60 * (k : Int) + (i : Int) + ((4 * c + 1 : Nat) : Int)) = h1 at *
        refine y_digitAt x1 hk him (by omega) (t_Y_readLaw_58 x1.S ?_)
        rw [hH]
        have dg1 : dgAt H m (4 * c + 1) = -9 ∨ (0 ≤ dgAt H m (4 * c + 1) ∧ dgAt H m (4 * c + 1) ≤ 9) := by unfold dgAt; split <;> omega
        rw [p1, wr_eq (show rng (60 * (k : Int) + (i : Int) + ((4 * c + 1 : Nat) : Int) + 1) by omega), iv_eq]
        refine ⟨by omega, fun c3 => ?_, fun c3 => ?_⟩
        · refine k0 h1 (4 * c + 1) q1 p1 (L1.trans ?_)
          unfold dgAt at c3
          by_cases c4 : 4 * c + 1 < m
          · refine lfp_n c4 fun g => ?_
            have := g.2.1 (by omega)
            rw [if_pos ⟨c4, this⟩] at c3
            omega
          · rw [show m = 4 * c + 1 by omega, lfp_m, if_neg (by omega)]
        · have d3 : 4 * c + 1 < m ∧ 48 ≤ H (4 * c + 1) ∧ H (4 * c + 1) ≤ 57 := by
            apply Classical.byContradiction
            intro z
            exact c3 (if_neg z)
          have d4 : dgAt H m (4 * c + 1) = H (4 * c + 1) - 48 := if_pos d3
          rw [d4]
          have L2 := L1.trans (lfp_y (H := H) (m := m) (p := 4 * c + 1) d3.1 ⟨fun z => by omega, fun _ => d3.2, fun z => by omega, fun z => by omega⟩)
          have q2 := q1.tr (KS.p12 h1 (60 * (k : Int) + (i : Int) + ((4 * c + 1 : Nat) : Int) + 1))
          have p2 : iv (setI h1 400 12 (60 * (k : Int) + (i : Int) + ((4 * c + 1 : Nat) : Int) + 1)) 400 12 = 60 * (k : Int) + (i : Int) + ((4 * c + 2 : Nat) : Int) := (iv_eq _ _ _ _).trans (by omega)
          have r2 : iv (setI h1 400 12 (60 * (k : Int) + (i : Int) + ((4 * c + 1 : Nat) : Int) + 1)) 400 13 = (c : Nat) := (iv_nk (by decide)).trans r1
          have s2 : ∀ z, iv (setI h1 400 12 (60 * (k : Int) + (i : Int) + ((4 * c + 1 : Nat) : Int) + 1)) 426 z = iv h 426 z := fun z => (iv_ne (by decide)).trans (s1 z)
          have x2 := x.ks q2
          rw [show 60 * (k : Int) + (i : Int) + ((4 * c + 1 : Nat) : Int) + 1 = 60 * (k : Int) + (i : Int) + ((4 * c + 2 : Nat) : Int) by omega] at *
          generalize setI h1 400 12 (60 * (k : Int) + (i : Int) + ((4 * c + 2 : Nat) : Int)) = h2 at *
          refine y_digitAt x2 hk him (by omega) (t_Y_readLaw_86 x2.S ?_)
          rw [hH]
          have dg2 : dgAt H m (4 * c + 2) = -9 ∨ (0 ≤ dgAt H m (4 * c + 2) ∧ dgAt H m (4 * c + 2) ≤ 9) := by unfold dgAt; split <;> omega
          refine y_within (by omega) (by decide) (by decide) (fun c4 => ?_) (fun c4 => ?_)
          · have d5 : 4 * c + 2 < m ∧ 48 ≤ H (4 * c + 2) ∧ H (4 * c + 2) ≤ 57 := by
              apply Classical.byContradiction
              intro z
              have : dgAt H m (4 * c + 2) = -9 := if_neg z
              omega
            have d6 : dgAt H m (4 * c + 2) = H (4 * c + 2) - 48 := if_pos d5
            rw [d6] at c4 ⊢
            have L3 := L2.trans (lfp_y (H := H) (m := m) (p := 4 * c + 2) d5.1 ⟨fun z => by omega, fun z => by omega, fun _ => by omega, fun z => by omega⟩)
            refine t_Y_readLaw_95 x2.S ?_
            have E1 : ∀ v, iv (setI h2 400 12 v) 400 13 = (c : Nat) := fun v => (iv_nk (by decide)).trans r2
            have E2 : ∀ v a b, iv (setI (setI h2 400 12 v) 426 a b) 400 13 = (c : Nat) := fun v a b => (iv_ne (by decide)).trans (E1 v)
            have E3 : ∀ v a b a' b', iv (setI (setI (setI h2 400 12 v) 426 a b) 426 a' b') 400 13 = (c : Nat) := fun v a b a' b' => (iv_ne (by decide)).trans (E2 v a b)
            have E4 : ∀ v a b a' b' a'' b'', iv (setI (setI (setI (setI h2 400 12 v) 426 a b) 426 a' b') 426 a'' b'') 400 13 = (c : Nat) := fun v a b a' b' a'' b'' => (iv_ne (by decide)).trans (E3 v a b a' b')
            rw [p2, E1, E2, E3, E4, wr_eq (show rng (60 * (k : Int) + (i : Int) + ((4 * c + 2 : Nat) : Int) + 1) by omega), wr_eq (show rng (ltc (H (4 * c))) by omega), wr_eq (show rng (H (4 * c + 1) - 48) by omega), wr_eq (show rng (H (4 * c + 2) - 48) by omega), wr_eq (show rng ((c : Nat) + 1) by omega)]
            have q3 := q2.tr (((((KS.p12 h2 (60 * (k : Int) + (i : Int) + ((4 * c + 2 : Nat) : Int) + 1)).tr (KS.set (q := 426) (by decide) (3 * (c : Int)) (ltc (H (4 * c))))).tr (KS.set (q := 426) (by decide) (3 * (c : Int) + 1) (H (4 * c + 1) - 48))).tr (KS.set (q := 426) (by decide) (3 * (c : Int) + 2) (H (4 * c + 2) - 48))).tr (KS.set0 (k := 13) (by decide) ((c : Int) + 1)))
            have p3 : iv (setI (setI (setI (setI (setI h2 400 12 (60 * (k : Int) + (i : Int) + ((4 * c + 2 : Nat) : Int) + 1)) 426 (3 * (c : Int)) (ltc (H (4 * c)))) 426 (3 * (c : Int) + 1) (H (4 * c + 1) - 48)) 426 (3 * (c : Int) + 2) (H (4 * c + 2) - 48)) 400 13 ((c : Int) + 1)) 400 12 = 60 * (k : Int) + (i : Int) + ((4 * c + 3 : Nat) : Int) := by
              rw [iv_nk (by decide), iv_ne (by decide), iv_ne (by decide), iv_ne (by decide), iv_eq]
              omega
            have r3 : iv (setI (setI (setI (setI (setI h2 400 12 (60 * (k : Int) + (i : Int) + ((4 * c + 2 : Nat) : Int) + 1)) 426 (3 * (c : Int)) (ltc (H (4 * c)))) 426 (3 * (c : Int) + 1) (H (4 * c + 1) - 48)) 426 (3 * (c : Int) + 2) (H (4 * c + 2) - 48)) 400 13 ((c : Int) + 1)) 400 13 = ((c + 1 : Nat) : Int) := iv_eq _ _ _ _
            have s3 : CR H (setI (setI (setI (setI (setI h2 400 12 (60 * (k : Int) + (i : Int) + ((4 * c + 2 : Nat) : Int) + 1)) 426 (3 * (c : Int)) (ltc (H (4 * c)))) 426 (3 * (c : Int) + 1) (H (4 * c + 1) - 48)) 426 (3 * (c : Int) + 2) (H (4 * c + 2) - 48)) 400 13 ((c : Int) + 1)) (c + 1) := fun c' hc' => by
              rw [cr_iv, cr_iv, cr_iv]
              by_cases z : c' = c
              · rw [z, if_neg (by omega), if_neg (by omega), if_pos rfl, if_neg (by omega), if_pos rfl, if_pos rfl]
                exact ⟨rfl, rfl, rfl⟩
              · rw [if_neg (by omega), if_neg (by omega), if_neg (by omega), if_neg (by omega), if_neg (by omega), if_neg (by omega), if_neg (by omega), if_neg (by omega), if_neg (by omega), s2, s2, s2]
                exact cr c' (by omega)
            have x3 := x.ks q3
            generalize setI (setI (setI (setI (setI h2 400 12 (60 * (k : Int) + (i : Int) + ((4 * c + 2 : Nat) : Int) + 1)) 426 (3 * (c : Int)) (ltc (H (4 * c)))) 426 (3 * (c : Int) + 1) (H (4 * c + 1) - 48)) 426 (3 * (c : Int) + 2) (H (4 * c + 2) - 48)) 400 13 ((c : Int) + 1) = h3 at *
            rw [p3, r3]
            refine ⟨by decide, fun q => absurd q (by decide), fun _ => ⟨by omega, by omega, by omega, by omega, by omega, by omega, by omega, by omega, fun c5 => ⟨by omega, fun c6 => ?_, fun c6 => ?_⟩, fun c5 => ?_⟩⟩
            · exact k0 h3 (4 * c + 3) q3 p3 (L3.trans (lfp_n (by omega) fun g => by have := (g.2.2.2 (by omega)).2; omega))
            · refine y_isCode x3 (by decide) hk him (by omega) p3 (fun c7 => ?_) (fun c7 => ?_)
              · rw [hH] at c7
                have L4 := L3.trans (lfp_y (H := H) (m := m) (p := 4 * c + 3) c7.1 ⟨fun z => by omega, fun z => by omega, fun z => by omega, fun _ => ⟨c7.2, by omega⟩⟩)
                refine t_Y_readLaw_187 x3.S ?_
                rw [p3, wr_eq (show rng (60 * (k : Int) + (i : Int) + ((4 * c + 3 : Nat) : Int) + 1) by omega)]
                refine ⟨by decide, fun q => absurd q (by decide), fun _ => ?_⟩
                have q4 := KS.p12 h3 (60 * (k : Int) + (i : Int) + ((4 * c + 3 : Nat) : Int) + 1)
                refine ih (c + 1) _ _ _ _ (by omega) (by omega) (by omega) (x3.ks q4) ((iv_eq _ _ _ _).trans (by omega)) ((iv_nk (by decide)).trans r3) (fun c' hc' => ?_) (fun h' p g1 g2 g3 => k0 h' p ((q3.tr q4).tr g1) g2 (L4.trans g3)) (fun h' g1 g2 g3 g4 => k1 h' ((q3.tr q4).tr g1) g2 g3 (L4.trans g4))
                rw [iv_ne (by decide), iv_ne (by decide), iv_ne (by decide)]
                exact s3 c' hc'
              · rw [hH] at c7
                refine t_Y_readLaw_187 x3.S ⟨by decide, fun _ => ?_, fun q => absurd rfl q⟩
                exact k0 h3 (4 * c + 3) q3 p3 (L3.trans (lfp_n (by omega) fun g => c7 ⟨by omega, (g.2.2.2 (by omega)).1⟩))
            · have em : m = 4 * c + 3 := by omega
              subst em
              have e4 : (4 * c + 3 + 1) / 4 = c + 1 := by omega
              rw [e4] at k1
              exact k1 h3 q3 r3 s3 (L3.trans ((lfp_m _ _).trans (if_pos (by omega))))
          · refine t_Y_readLaw_95 x2.S ⟨by decide, fun _ => ?_, fun q => absurd rfl q⟩
            refine k0 h2 (4 * c + 2) q2 p2 (L2.trans ?_)
            by_cases c5 : 4 * c + 2 < m
            · refine lfp_n c5 fun g => ?_
              have : 49 ≤ H (4 * c + 2) ∧ H (4 * c + 2) ≤ 51 := g.2.2.1 (by omega)
              have d6 : dgAt H m (4 * c + 2) = H (4 * c + 2) - 48 := if_pos ⟨c5, by omega, by omega⟩
              omega
            · rw [show m = 4 * c + 2 by omega, lfp_m, if_neg (by omega)]
    · have em : m = 4 * c := by omega
      refine k0 h (4 * c) (KS.rf h) e12 ?_
      rw [em, lfp_m, if_neg (by omega)]
end YLAW
