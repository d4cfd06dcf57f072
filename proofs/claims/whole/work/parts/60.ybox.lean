/-! The reference: the text of a box. -/
def BR (H : Nat → Int) (m : Nat) (h : Hp) (g : Nat) : Prop := ∀ j : Nat, j < g → iv h 415 j = H (gpo H m j + 1) - 48 ∧ iv h 416 j = H (gpo H m j + 2) - 48 ∧ iv h 417 j = (kd H m (gpo H m j + 3) : Nat)
theorem gpo_mono (H : Nat → Int) (m : Nat) : ∀ (k a : Nat), gpo H m a + k ≤ gpo H m (a + k)
  | 0, _ => Nat.le_refl _
  | k + 1, a => by
    have := gpo_mono H m k a
    have e : gpo H m (a + (k + 1)) = gpo H m (a + k) + 3 + kd H m (gpo H m (a + k) + 3) + 1 := rfl
    omega
theorem gpo_inj {H : Nat → Int} {m a b : Nat} (h : gpo H m a = gpo H m b) : a = b := by
  rcases Nat.lt_trichotomy a b with c | c | c
  · have := gpo_mono H m (b - a) a
    rw [show a + (b - a) = b by omega] at this
    omega
  · exact c
  · have := gpo_mono H m (a - b) b
    rw [show b + (a - b) = a by omega] at this
    omega
def TL (P : Value → Hp → Prop) (E : Int) (X : Hp) : Prop := (rng (iv X 400 12)) ∧ (rng E) ∧ ((iv X 400 12 < E → (rng (iv X 400 13)) ∧ ((iv X 400 13 = 7 → P (.int (I 0)) X) ∧ (¬ iv X 400 13 = 7 → R 134 0 [.ref 400, .int (I 59), .int (I E)] [] X (fun v h2 => R 133 227 [.ref 400, .int (I E)] (v :: []) h2 P)))) ∧ (¬ iv X 400 12 < E → (rng (iv X 400 13)) ∧ (((1 : Int) < iv X 400 13 → P (.int (I 1)) X) ∧ (¬ (1 : Int) < iv X 400 13 → (rng (iv X 400 13)) ∧ ((iv X 400 13 = 7 → P (.int (I 0)) X) ∧ (¬ iv X 400 13 = 7 → R 134 0 [.ref 400, .int (I 59), .int (I E)] [] X (fun v h2 => R 133 227 [.ref 400, .int (I E)] (v :: []) h2 P)))))))
section YBOX
variable {n : Nat} {d : Nat → Nat → Int} {P : Value → Hp → Prop} {h : Hp}
theorem box_tail {X : Hp} (x : RY n d X) {k i m p g : Nat} (hk : k < 4) (him : i + m ≤ 60) (hp : p ≤ m) (hg : g ≤ 6) (e12 : iv X 400 12 = 60 * (k : Int) + (i : Int) + (p : Int)) (e13 : iv X 400 13 = (g : Int) + 1) (q0 : (p < m ∧ (g = 6 ∨ celH d (k : Nat) (i : Nat) p ≠ 59)) ∨ (p = m ∧ g = 0) → P (.int (I 0)) X) (q1 : p = m → 1 ≤ g → P (.int (I 1)) X) (q2 : p < m → celH d (k : Nat) (i : Nat) p = 59 → g ≠ 6 → R 133 5 [.ref 400, .int (I (60 * (k : Int) + (i : Int) + (m : Int)))] [] (setI X 400 12 (60 * (k : Int) + (i : Int) + (p : Int) + 1)) P) :
    TL P (60 * (k : Int) + (i : Int) + (m : Int)) X := by
  unfold TL
  have cd : g ≠ 6 → R 134 0 [.ref 400, .int (I 59), .int (I (60 * (k : Int) + (i : Int) + (m : Int)))] [] X (fun v h2 => R 133 227 [.ref 400, .int (I (60 * (k : Int) + (i : Int) + (m : Int)))] (v :: []) h2 P) ∨ ¬ (p < m ∨ g = 0) := fun hg6 => by
    by_cases z : p < m ∨ g = 0
    · left
      refine y_isCode x (by decide) hk him hp e12 (fun c => ?_) (fun c => ?_)
      · refine t_Y_readBox_227 x.S ?_
        rw [e12, wr_eq (show rng (60 * (k : Int) + (i : Int) + (p : Int) + 1) by omega)]
        exact ⟨by decide, fun q => absurd q (by decide), fun _ => q2 c.1 c.2 hg6⟩
      · refine t_Y_readBox_227 x.S ⟨by decide, fun _ => q0 ?_, fun q => absurd rfl q⟩
        by_cases z2 : p < m
        · exact Or.inl ⟨z2, Or.inr fun e => c ⟨z2, e⟩⟩
        · exact Or.inr ⟨by omega, by omega⟩
    · exact Or.inr z
  rw [e12, e13]
  refine ⟨by omega, by omega, fun c => ⟨by omega, fun c2 => q0 (Or.inl ⟨by omega, Or.inl (by omega)⟩), fun c2 => ?_⟩, fun c => ⟨by omega, fun c2 => q1 (by omega) (by omega), fun c2 => ⟨by omega, fun c3 => by omega, fun c3 => ?_⟩⟩⟩
  · rcases cd (by omega) with z | z
    · exact z
    · exact absurd (Or.inl (by omega)) z
  · rcases cd (by omega) with z | z
    · exact z
    · exact absurd (Or.inr (by omega)) z
theorem BR.ks {H : Nat → Int} {m g : Nat} {h1 : Hp} (b : BR H m h g) (e : ∀ r, r = 415 ∨ r = 416 ∨ r = 417 → ∀ j : Nat, j < g → iv h1 r j = iv h r j) : BR H m h1 g := fun j hj => by
  rw [e 415 (by decide) j hj, e 416 (by decide) j hj, e 417 (by decide) j hj]
  exact b j hj
theorem readBox_loop {k i m : Nat} (hk : k < 4) (him : i + m ≤ 60) : ∀ (f g : Nat) (h : Hp), g + f = 7 → g ≤ 6 → gpo (celH d (k : Nat) (i : Nat)) m g ≤ m → RY n d h → iv h 400 12 = 60 * (k : Int) + (i : Int) + ((gpo (celH d (k : Nat) (i : Nat)) m g : Nat) : Int) → iv h 400 13 = (g : Nat) → BR (celH d (k : Nat) (i : Nat)) m h g →
    (∀ (h' : Hp) (q : Nat), KS h h' → iv h' 400 12 = 60 * (k : Int) + (i : Int) + (q : Int) → bxg (celH d (k : Nat) (i : Nat)) m f g (gpo (celH d (k : Nat) (i : Nat)) m g) = (q : Nat) → P (.int (I 0)) h') →
    (∀ (h' : Hp) (N : Nat), KS h h' → iv h' 400 13 = (N : Nat) → BR (celH d (k : Nat) (i : Nat)) m h' N → bxg (celH d (k : Nat) (i : Nat)) m f g (gpo (celH d (k : Nat) (i : Nat)) m g) = -1 → gpo (celH d (k : Nat) (i : Nat)) m N = m + 1 → P (.int (I 1)) h') →
    R 133 5 [.ref 400, .int (I (60 * (k : Int) + (i : Int) + (m : Int)))] [] h P := by
  intro f
  induction f with
  | zero => intro g h hf hg; omega
  | succ f ih =>
    intro g h hf hg hp x e12 e13 br k0 k1
    have hgp : gpo (celH d (k : Nat) (i : Nat)) m (g + 1) = gpo (celH d (k : Nat) (i : Nat)) m g + 3 + kd (celH d (k : Nat) (i : Nat)) m (gpo (celH d (k : Nat) (i : Nat)) m g + 3) + 1 := rfl
    generalize hpp : gpo (celH d (k : Nat) (i : Nat)) m g = p at *
    rw [bxg] at k0 k1
    refine t_Y_readBox_5 x.S (y_isCode x (by decide) hk him hp e12 (fun c1 => ?_) (fun c1 => ?_))
    · rw [if_neg (fun z => z c1)] at k0 k1
      refine t_Y_readBox_12 x.S ?_
      rw [e12, wr_eq (show rng (60 * (k : Int) + (i : Int) + (p : Int) + 1) by omega), iv_eq, show 60 * (k : Int) + (i : Int) + (p : Int) + 1 = 60 * (k : Int) + (i : Int) + ((p + 1 : Nat) : Int) by omega]
      refine ⟨by decide, fun q => absurd q (by decide), fun _ => ?_⟩
      have q1 : KS h (setI h 400 12 (60 * (k : Int) + (i : Int) + ((p + 1 : Nat) : Int))) := KS.p12 _ _
      have p1 : iv (setI h 400 12 (60 * (k : Int) + (i : Int) + ((p + 1 : Nat) : Int))) 400 12 = 60 * (k : Int) + (i : Int) + ((p + 1 : Nat) : Int) := iv_eq _ _ _ _
      have r1 : iv (setI h 400 12 (60 * (k : Int) + (i : Int) + ((p + 1 : Nat) : Int))) 400 13 = (g : Nat) := (iv_nk (by decide)).trans e13
      have s1 : ∀ r, r ≠ 400 → ∀ z, iv (setI h 400 12 (60 * (k : Int) + (i : Int) + ((p + 1 : Nat) : Int))) r z = iv h r z := fun r hr z => iv_ne hr
      have x1 := x.ks q1
      generalize setI h 400 12 (60 * (k : Int) + (i : Int) + ((p + 1 : Nat) : Int)) = h1 at *
      rw [r1]
      refine y_digitAt x1 hk him (by omega) (t_Y_readBox_44 x1.S ?_)
      have dg1 : dgAt (celH d (k : Nat) (i : Nat)) m (p + 1) = -9 ∨ (0 ≤ dgAt (celH d (k : Nat) (i : Nat)) m (p + 1) ∧ dgAt (celH d (k : Nat) (i : Nat)) m (p + 1) ≤ 9) := by unfold dgAt; split <;> omega
      have hd1 : dgAt (celH d (k : Nat) (i : Nat)) m (p + 1) = if p + 1 < m ∧ 48 ≤ celH d (k : Nat) (i : Nat) (p + 1) ∧ celH d (k : Nat) (i : Nat) (p + 1) ≤ 57 then celH d (k : Nat) (i : Nat) (p + 1) - 48 else -9 := rfl
      generalize dgAt (celH d (k : Nat) (i : Nat)) m (p + 1) = A at *
      have E1 : ∀ v, iv (setI h1 415 (g : Nat) v) 400 13 = (g : Nat) := fun v => (iv_ne (by decide)).trans r1
      have E2 : ∀ v, iv (setI h1 415 (g : Nat) v) 400 12 = 60 * (k : Int) + (i : Int) + ((p + 1 : Nat) : Int) := fun v => (iv_ne (by decide)).trans p1
      have E3 : ∀ v w, iv (setI (setI h1 415 (g : Nat) v) 400 12 w) 400 13 = (g : Nat) := fun v w => (iv_nk (by decide)).trans (E1 v)
      rw [wr_eq (show rng A by omega), E1, iv_eq, E2, wr_eq (show rng (60 * (k : Int) + (i : Int) + ((p + 1 : Nat) : Int) + 1) by omega), iv_eq, E3, show 60 * (k : Int) + (i : Int) + ((p + 1 : Nat) : Int) + 1 = 60 * (k : Int) + (i : Int) + ((p + 2 : Nat) : Int) by omega]
      have qA : KS h (setI h1 415 (g : Nat) A) := q1.tr (KS.set (by decide) _ _)
      refine ⟨by omega, by omega, by omega, by omega, by omega, fun c2 => ?_, fun c2 => ?_⟩
      · refine k0 _ (p + 1) qA (E2 A) ?_
        refine if_pos fun z => ?_
        rw [if_pos ⟨z.1, by omega, z.2.2⟩] at hd1
        omega
      · have c3 : p + 1 < m ∧ 48 ≤ celH d (k : Nat) (i : Nat) (p + 1) ∧ celH d (k : Nat) (i : Nat) (p + 1) ≤ 57 := by
          apply Classical.byContradiction
          intro z
          rw [if_neg z] at hd1
          omega
        rw [if_pos c3] at hd1
        have c4 : p + 1 < m ∧ 49 ≤ celH d (k : Nat) (i : Nat) (p + 1) ∧ celH d (k : Nat) (i : Nat) (p + 1) ≤ 57 := ⟨c3.1, by omega, c3.2.2⟩
        rw [if_neg (fun z => z c4)] at k0 k1
        have q2 : KS h (setI (setI h1 415 (g : Nat) A) 400 12 (60 * (k : Int) + (i : Int) + ((p + 2 : Nat) : Int))) := qA.tr (KS.p12 _ _)
        have p2 : iv (setI (setI h1 415 (g : Nat) A) 400 12 (60 * (k : Int) + (i : Int) + ((p + 2 : Nat) : Int))) 400 12 = 60 * (k : Int) + (i : Int) + ((p + 2 : Nat) : Int) := iv_eq _ _ _ _
        have r2 : iv (setI (setI h1 415 (g : Nat) A) 400 12 (60 * (k : Int) + (i : Int) + ((p + 2 : Nat) : Int))) 400 13 = (g : Nat) := E3 _ _
        have s2 : ∀ r, r ≠ 400 → ∀ z, (r ≠ 415 ∨ z ≠ (g : Nat)) → iv (setI (setI h1 415 (g : Nat) A) 400 12 (60 * (k : Int) + (i : Int) + ((p + 2 : Nat) : Int))) r z = iv h r z := fun r hr z hz => by
          rw [iv_ne hr, iv_setI, if_neg (by omega)]
          exact s1 r hr z
        have t2 : iv (setI (setI h1 415 (g : Nat) A) 400 12 (60 * (k : Int) + (i : Int) + ((p + 2 : Nat) : Int))) 415 (g : Nat) = A := (iv_ne (by decide)).trans (iv_eq _ _ _ _)
        have x2 := x.ks q2
        generalize setI (setI h1 415 (g : Nat) A) 400 12 (60 * (k : Int) + (i : Int) + ((p + 2 : Nat) : Int)) = h2 at *
        refine y_digitAt x2 hk him (by omega) (t_Y_readBox_87 x2.S ?_)
        have dg2 : dgAt (celH d (k : Nat) (i : Nat)) m (p + 2) = -9 ∨ (0 ≤ dgAt (celH d (k : Nat) (i : Nat)) m (p + 2) ∧ dgAt (celH d (k : Nat) (i : Nat)) m (p + 2) ≤ 9) := by unfold dgAt; split <;> omega
        have hd2 : dgAt (celH d (k : Nat) (i : Nat)) m (p + 2) = if p + 2 < m ∧ 48 ≤ celH d (k : Nat) (i : Nat) (p + 2) ∧ celH d (k : Nat) (i : Nat) (p + 2) ≤ 57 then celH d (k : Nat) (i : Nat) (p + 2) - 48 else -9 := rfl
        generalize dgAt (celH d (k : Nat) (i : Nat)) m (p + 2) = B at *
        have G1 : ∀ v, iv (setI h2 416 (g : Nat) v) 400 13 = (g : Nat) := fun v => (iv_ne (by decide)).trans r2
        have G2 : ∀ v, iv (setI h2 416 (g : Nat) v) 400 12 = 60 * (k : Int) + (i : Int) + ((p + 2 : Nat) : Int) := fun v => (iv_ne (by decide)).trans p2
        have G3 : ∀ v w, iv (setI (setI h2 416 (g : Nat) v) 400 12 w) 400 13 = (g : Nat) := fun v w => (iv_nk (by decide)).trans (G1 v)
        rw [wr_eq (show rng B by omega), G1, iv_eq, G2, wr_eq (show rng (60 * (k : Int) + (i : Int) + ((p + 2 : Nat) : Int) + 1) by omega), G3, show 60 * (k : Int) + (i : Int) + ((p + 2 : Nat) : Int) + 1 = 60 * (k : Int) + (i : Int) + ((p + 3 : Nat) : Int) by omega]
        have qB : KS h (setI h2 416 (g : Nat) B) := q2.tr (KS.set (by decide) _ _)
        refine ⟨by omega, by omega, by omega, by omega, by omega, fun c5 => ?_, fun c5 => ⟨by omega, by omega, ?_⟩⟩
        · refine k0 _ (p + 2) qB (G2 B) ?_
          refine if_pos fun z => ?_
          rw [if_pos ⟨z.1, by omega, z.2.2⟩] at hd2
          omega
        have c6 : p + 2 < m ∧ 48 ≤ celH d (k : Nat) (i : Nat) (p + 2) ∧ celH d (k : Nat) (i : Nat) (p + 2) ≤ 57 := by
          apply Classical.byContradiction
          intro z
          rw [if_neg z] at hd2
          omega
        rw [if_pos c6] at hd2
        have c7 : p + 2 < m ∧ 49 ≤ celH d (k : Nat) (i : Nat) (p + 2) ∧ celH d (k : Nat) (i : Nat) (p + 2) ≤ 57 := ⟨c6.1, by omega, c6.2.2⟩
        rw [if_neg (fun z => z c7)] at k0 k1
        have q3 : KS h (setI (setI (setI h2 416 (g : Nat) B) 400 12 (60 * (k : Int) + (i : Int) + ((p + 3 : Nat) : Int))) 417 (g : Nat) 0) := (qB.tr (KS.p12 _ _)).tr (KS.set (by decide) _ _)
        have p3 : iv (setI (setI (setI h2 416 (g : Nat) B) 400 12 (60 * (k : Int) + (i : Int) + ((p + 3 : Nat) : Int))) 417 (g : Nat) 0) 400 12 = 60 * (k : Int) + (i : Int) + ((p + 3 : Nat) : Int) := (iv_ne (by decide)).trans (iv_eq _ _ _ _)
        have r3 : iv (setI (setI (setI h2 416 (g : Nat) B) 400 12 (60 * (k : Int) + (i : Int) + ((p + 3 : Nat) : Int))) 417 (g : Nat) 0) 400 13 = (g : Nat) := (iv_ne (by decide)).trans (G3 _ _)
        have s3 : BR (celH d (k : Nat) (i : Nat)) m (setI (setI (setI h2 416 (g : Nat) B) 400 12 (60 * (k : Int) + (i : Int) + ((p + 3 : Nat) : Int))) 417 (g : Nat) 0) g := br.ks fun r hr j hj => by
          rw [iv_setI, if_neg (by omega), iv_ne (by omega), iv_setI, if_neg (by omega)]
          exact s2 r (by omega) _ (by omega)
        have t3 : iv (setI (setI (setI h2 416 (g : Nat) B) 400 12 (60 * (k : Int) + (i : Int) + ((p + 3 : Nat) : Int))) 417 (g : Nat) 0) 415 (g : Nat) = A ∧ iv (setI (setI (setI h2 416 (g : Nat) B) 400 12 (60 * (k : Int) + (i : Int) + ((p + 3 : Nat) : Int))) 417 (g : Nat) 0) 416 (g : Nat) = B ∧ iv (setI (setI (setI h2 416 (g : Nat) B) 400 12 (60 * (k : Int) + (i : Int) + ((p + 3 : Nat) : Int))) 417 (g : Nat) 0) 417 (g : Nat) = 0 := by
          refine ⟨?_, ?_, iv_eq _ _ _ _⟩
          · rw [iv_ne (by decide), iv_ne (by decide), iv_ne (by decide)]; exact t2
          · rw [iv_ne (by decide), iv_ne (by decide), iv_eq]
        have x3 := x.ks q3
        generalize setI (setI (setI h2 416 (g : Nat) B) 400 12 (60 * (k : Int) + (i : Int) + ((p + 3 : Nat) : Int))) 417 (g : Nat) 0 = h3 at *
        generalize hK : kd (celH d (k : Nat) (i : Nat)) m (p + 3) = K at *
        -- the end, from a heap with the kind
        have fin : ∀ X0 : Hp, KS h3 X0 → iv X0 400 12 = 60 * (k : Int) + (i : Int) + ((p + 3 + K : Nat) : Int) → iv X0 400 13 = (g : Nat) → p + 3 + K ≤ m → BR (celH d (k : Nat) (i : Nat)) m X0 g → iv X0 415 (g : Nat) = A ∧ iv X0 416 (g : Nat) = B ∧ iv X0 417 (g : Nat) = (K : Nat) → TL P (60 * (k : Int) + (i : Int) + (m : Int)) (setI X0 400 13 ((g : Int) + 1)) := fun X0 ks y12 y13 hle b3 tt => by
          have ks2 : KS X0 (setI X0 400 13 ((g : Int) + 1)) := KS.set0 (by decide) _
          have kst := (q3.tr ks).tr ks2
          have y12' : iv (setI X0 400 13 ((g : Int) + 1)) 400 12 = 60 * (k : Int) + (i : Int) + ((p + 3 + K : Nat) : Int) := (iv_nk (by decide)).trans y12
          have b4 : BR (celH d (k : Nat) (i : Nat)) m (setI X0 400 13 ((g : Int) + 1)) (g + 1) := fun j hj => by
            rw [iv_ne (by decide), iv_ne (by decide), iv_ne (by decide)]
            by_cases e : j = g
            · rw [e, tt.1, tt.2.1, tt.2.2, hpp, hK, hd1, hd2]
              exact ⟨rfl, rfl, rfl⟩
            · exact b3 j (by omega)
          refine box_tail (x.ks kst) hk him hle hg y12' (iv_eq _ _ _ _) (fun c8 => ?_) (fun c8 c9 => ?_) (fun c8 c9 c10 => ?_)
          · refine k0 _ (p + 3 + K) kst y12' ?_
            rw [if_neg (by omega)]
            refine if_pos ?_
            rcases c8 with ⟨z1, z2 | z2⟩ | ⟨z1, z2⟩
            · exact Or.inl (by omega)
            · exact Or.inr fun z => z2 z.2
            · exact Or.inr fun z => by omega
          · exact k1 _ (g + 1) kst (iv_eq _ _ _ _) b4 (if_pos ⟨by omega, c9⟩) (by rw [hgp]; omega)
          · have ks3 := KS.p12 (setI X0 400 13 ((g : Int) + 1)) (60 * (k : Int) + (i : Int) + ((p + 3 + K : Nat) : Int) + 1)
            have n1 : ¬ (m ≤ p + 3 + K ∧ 1 ≤ g) := by omega
            have n2 : ¬ (f = 0 ∨ ¬ (p + 3 + K < m ∧ celH d (k : Nat) (i : Nat) (p + 3 + K) = 59)) := fun z => z.elim (fun z => by omega) fun z => z ⟨c8, c9⟩
            rw [if_neg n1, if_neg n2] at k0 k1
            refine ih (g + 1) _ (by omega) (by omega) (by rw [hgp]; omega) ((x.ks kst).ks ks3) ?_ ((iv_nk (by decide)).trans (iv_eq _ _ _ _)) (b4.ks fun r hr j hj => iv_ne (by omega)) (fun h' q z1 z2 z3 => k0 h' q ((kst.tr ks3).tr z1) z2 ?_) (fun h' N z1 z2 z3 z4 z5 => k1 h' N ((kst.tr ks3).tr z1) z2 z3 ?_ z5)
            · rw [iv_eq, hgp]; omega
            · rw [hgp] at z3; exact z3
            · rw [hgp] at z4; exact z4
        refine y_isCode x3 (by decide) hk him (by omega) p3 (fun c8 => ?_) (fun c8 => ?_)
        · refine t_Y_readBox_130 x3.S ?_
          have F1 : ∀ v, iv (setI h3 400 12 v) 400 13 = (g : Nat) := fun v => (iv_nk (by decide)).trans r3
          rw [F1, p3, wr_eq (show rng (60 * (k : Int) + (i : Int) + ((p + 3 : Nat) : Int) + 1) by omega), show 60 * (k : Int) + (i : Int) + ((p + 3 : Nat) : Int) + 1 = 60 * (k : Int) + (i : Int) + ((p + 4 : Nat) : Int) by omega]
          refine ⟨by decide, fun q => absurd q (by decide), fun _ => ⟨by omega, by omega, ?_⟩⟩
          have q4 : KS h3 (setI (setI h3 400 12 (60 * (k : Int) + (i : Int) + ((p + 4 : Nat) : Int))) 417 (g : Nat) 1) := (KS.p12 _ _).tr (KS.set (by decide) _ _)
          have p4 : iv (setI (setI h3 400 12 (60 * (k : Int) + (i : Int) + ((p + 4 : Nat) : Int))) 417 (g : Nat) 1) 400 12 = 60 * (k : Int) + (i : Int) + ((p + 4 : Nat) : Int) := (iv_ne (by decide)).trans (iv_eq _ _ _ _)
          have r4 : iv (setI (setI h3 400 12 (60 * (k : Int) + (i : Int) + ((p + 4 : Nat) : Int))) 417 (g : Nat) 1) 400 13 = (g : Nat) := (iv_ne (by decide)).trans (F1 _)
          have s4 : BR (celH d (k : Nat) (i : Nat)) m (setI (setI h3 400 12 (60 * (k : Int) + (i : Int) + ((p + 4 : Nat) : Int))) 417 (g : Nat) 1) g := s3.ks fun r hr j hj => by
            rw [iv_setI, if_neg (by omega), iv_ne (by omega)]
          have t4 : iv (setI (setI h3 400 12 (60 * (k : Int) + (i : Int) + ((p + 4 : Nat) : Int))) 417 (g : Nat) 1) 415 (g : Nat) = A ∧ iv (setI (setI h3 400 12 (60 * (k : Int) + (i : Int) + ((p + 4 : Nat) : Int))) 417 (g : Nat) 1) 416 (g : Nat) = B ∧ iv (setI (setI h3 400 12 (60 * (k : Int) + (i : Int) + ((p + 4 : Nat) : Int))) 417 (g : Nat) 1) 417 (g : Nat) = 1 := by
            refine ⟨?_, ?_, iv_eq _ _ _ _⟩
            · rw [iv_ne (by decide), iv_ne (by decide)]; exact t3.1
            · rw [iv_ne (by decide), iv_ne (by decide)]; exact t3.2.1
          have x4 := x3.ks q4
          generalize setI (setI h3 400 12 (60 * (k : Int) + (i : Int) + ((p + 4 : Nat) : Int))) 417 (g : Nat) 1 = h4 at *
          refine y_isCode x4 (by decide) hk him (by omega) p4 (fun c9 => ?_) (fun c9 => ?_)
          · have eK : K = 2 := by
              rw [← hK]; unfold kd
              rw [if_pos c8, if_pos c9]
            subst eK
            refine t_Y_readBox_160 x4.S ?_
            have F2 : ∀ v, iv (setI h4 400 12 v) 400 13 = (g : Nat) := fun v => (iv_nk (by decide)).trans r4
            have F3 : ∀ v w, iv (setI (setI h4 400 12 v) 417 (g : Nat) w) 400 13 = (g : Nat) := fun v w => (iv_ne (by decide)).trans (F2 v)
            rw [F2, F3, p4, wr_eq (show rng (60 * (k : Int) + (i : Int) + ((p + 4 : Nat) : Int) + 1) by omega), show 60 * (k : Int) + (i : Int) + ((p + 4 : Nat) : Int) + 1 = 60 * (k : Int) + (i : Int) + ((p + 3 + 2 : Nat) : Int) by omega, wr_eq (show rng ((g : Nat) + 1) by omega)]
            refine ⟨by decide, fun q => absurd q (by decide), fun _ => ⟨by omega, by omega, ?_⟩⟩
            refine fin (setI (setI h4 400 12 (60 * (k : Int) + (i : Int) + ((p + 3 + 2 : Nat) : Int))) 417 (g : Nat) 2) (q4.tr ((KS.p12 _ _).tr (KS.set (by decide) _ _))) ((iv_ne (by decide)).trans (iv_eq _ _ _ _)) (F3 _ _) (by omega) (s4.ks fun r hr j hj => by rw [iv_setI, if_neg (by omega), iv_ne (by omega)]) ⟨?_, ?_, iv_eq _ _ _ _⟩
            · rw [iv_ne (by decide), iv_ne (by decide)]; exact t4.1
            · rw [iv_ne (by decide), iv_ne (by decide)]; exact t4.2.1
          · have eK : K = 1 := by
              rw [← hK]; unfold kd
              rw [if_pos c8, if_neg c9]
            subst eK
            refine t_Y_readBox_160 x4.S ?_
            rw [r4, wr_eq (show rng ((g : Nat) + 1) by omega)]
            exact ⟨by decide, fun _ => fin h4 q4 p4 r4 (by omega) s4 t4, fun q => absurd rfl q⟩
        · have eK : K = 0 := by
            rw [← hK]; unfold kd
            rw [if_neg c8]
          subst eK
          refine t_Y_readBox_130 x3.S ?_
          rw [r3, wr_eq (show rng ((g : Nat) + 1) by omega)]
          exact ⟨by decide, fun _ => fin h3 (KS.rf _) p3 r3 (by omega) s3 t3, fun q => absurd rfl q⟩
    · refine t_Y_readBox_12 x.S ⟨by decide, fun _ => ?_, fun q => absurd rfl q⟩
      exact k0 h p (KS.rf h) e12 (if_pos c1)
end YBOX
