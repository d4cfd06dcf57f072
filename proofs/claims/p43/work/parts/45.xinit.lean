/-! The object is made. -/
def d00 : Nat → Nat → Int := fun f _ => if f = 10 then -9 else 0
/-- all but its sheets -/
def XA (h : Hp) : Prop := (∀ q ∈ ([(0, 12), (1, 1), (2, 21), (3, 20), (4, 22), (5, 20), (6, 20), (7, 23), (16, 11), (17, 8), (18, 20), (19, 9), (20, 20), (21, 20), (22, 20), (23, 20), (24, 20), (25, 20), (26, 20)] : List (Nat × Nat)), tg h q.1 = q.2) ∧ (∀ q ∈ ([(0, 0), (0, 1), (0, 6), (0, 7), (0, 9), (0, 10), (0, 12), (0, 13), (0, 14), (0, 15), (0, 16), (1, 0), (1, 4), (17, 0), (19, 0), (19, 1), (19, 2), (19, 3)] : List (Nat × Nat)), fl h q.1 q.2 = true) ∧ (∀ q ∈ ([(2, 7), (4, 4), (5, 8), (6, 8), (7, 4), (18, 64)] : List (Nat × Nat)), ln h q.1 = q.2) ∧ (∀ q ∈ ([3, 20, 21, 22, 23, 24, 25, 26] : List Nat), ln h q = 0) ∧ (∀ k, iv h 0 k = 0) ∧ (∀ k, iv h 1 k = 0) ∧ ∀ k, iv h 16 k = 0
def SI (hA : Hp) (k : Nat) (h : Hp) : Prop := (∀ r, ¬ (8 ≤ r ∧ r < 16) → Gp hA h r) ∧ (∀ j, j < k → tg h (8 + j) = 10 ∧ fl h 7 j = true ∧ fl h (8 + j) 0 = true ∧ tg h (12 + j) = 20 ∧ ln h (12 + j) = 60 ∧ (∀ z, iv h (8 + j) z = 0) ∧ ∀ z, iv h (12 + j) z = 0) ∧ (∀ j, k ≤ j → j < 4 → tg h (8 + j) = 0 ∧ tg h (12 + j) = 0) ∧ (ck h = ck hA + 2 * k ∧ cu h = cu hA + 64 * k) ∧ Gr X4 hA h
section XINIT
variable {P : Value → Hp → Prop}
theorem sheets_loop {hA : Hp} (xa : XA hA) (kk : ∀ h, SI hA 4 h → P .null h) : ∀ (r k : Nat) (h : Hp), k + r = 4 → SI hA k h → R 0 103 [.ref 0, .int (I (k : Nat))] [] h P := by
  have t0 : tg hA 0 = 12 := xa.1 (0, 12) (by decide)
  have t7 : tg hA 7 = 23 := xa.1 (7, 23) (by decide)
  have f9 : fl hA 0 9 = true := xa.2.1 (0, 9) (by decide)
  have l7 : ln hA 7 = 4 := xa.2.2.1 (7, 4) (by decide)
  intro r
  induction r with
  | zero =>
    intro k h hk s
    have e : k = 4 := by omega
    subst e
    exact t_X_init_103 ⟨by decide, fun q => absurd q (by decide), fun _ => kk h s⟩
  | succ r ih =>
    intro k h hk s
    obtain ⟨s1, s2, s3, s4, s5⟩ := id s
    obtain ⟨z1, z2⟩ := s3 k (Nat.le_refl _) (by omega)
    have p0 := s1 0 (by omega)
    have p7 := s1 7 (by omega)
    have e12 : 12 + k = 8 + k + 4 := by omega
    rw [e12] at z2
    have ch := ch8 (k := k) (by omega)
    rw [e12] at ch
    refine t_X_init_103 ⟨by omega, fun _ => ?_, fun q => absurd (by omega) q⟩
    rw [wr_eq (show rng (k : Nat) by omega), show ((k : Nat) : Int).toNat = k from rfl]
    refine ⟨p0.1.trans t0, p0.2.2.2 _ f9, by rw [p7.1, t7]; decide, z1, by omega, okg_i rfl rfl rfl rfl ?_, t_Sheet_init ⟨?_, by omega, ?_, ch, t_X_init_120 ⟨?_, ?_, by omega, ?_, ch7 (by omega), ?_⟩⟩⟩
    · have e : k = 0 ∨ k = 1 ∨ k = 2 ∨ k = 3 := by omega
      rcases e with rfl | rfl | rfl | rfl <;> rfl
    · rw [tg_mk, if_neg (by omega)]; exact z2
    · rw [tg_mk, if_neg (by omega), tg_mk, if_pos rfl]
    · rw [tg_setF, tg_setF, tg_mk, if_neg (by omega), tg_mk, if_neg (by omega), tg_mk, if_neg (by omega), tg_mk, if_pos rfl, p7.1, t7]
      rfl
    · rw [ln_setF, ln_mk, if_neg (by omega), ln_mk, if_neg (by omega), p7.2.1, l7]; decide
    · rw [ln_setF, ln_mk, if_neg (by omega), ln_mk, if_neg (by omega), p7.2.1, l7]; omega
    · rw [show ((k : Nat) : Int).toNat = k from rfl, show (60 : Int).toNat = 60 from rfl]
      have gp : ∀ x, x ≠ 8 + k → x ≠ 8 + k + 4 → Gp h (setF (setF (mk (mk h (8 + k) 10 0 4) (8 + k + 4) 20 60 60) (8 + k) 0) 7 k) x := fun x h1 h2 => (((Gp.mk 10 0 4 h1).tr (Gp.mk 20 60 60 h2)).tr (Gp.setF _ _ _ _)).tr (Gp.setF _ _ _ _)
      refine ih (k + 1) _ (by omega) ⟨fun x hx => (s1 x hx).tr (gp x (by omega) (by omega)), fun j hj => ?_, fun j h1 h2 => ?_, ?_, ?_⟩
      · by_cases e : j = k
        · subst e
          rw [e12]
          refine ⟨?_, ?_, ?_, ?_, ?_, fun z => ?_, fun z => ?_⟩
          · rw [tg_setF, tg_setF, tg_mk, if_neg (by omega), tg_mk, if_pos rfl]
          · rw [fl_setF, if_pos ⟨rfl, rfl⟩]
          · rw [fl_setF, if_neg (by omega), fl_setF, if_pos ⟨rfl, rfl⟩]
          · rw [tg_setF, tg_setF, tg_mk, if_pos rfl]
          · rw [ln_setF, ln_setF, ln_mk, if_pos rfl]
          · rw [iv_setF, iv_setF, iv_mk, if_neg (by omega), iv_mk, if_pos rfl]
          · rw [iv_setF, iv_setF, iv_mk, if_pos rfl]
        · obtain ⟨u1, u2, u3, u4, u5, u6, u7⟩ := s2 j (by omega)
          have q1 := gp (8 + j) (by omega) (by omega)
          have q2 := gp (12 + j) (by omega) (by omega)
          have q7 := gp 7 (by omega) (by omega)
          exact ⟨q1.1.trans u1, q7.2.2.2 _ u2, q1.2.2.2 _ u3, q2.1.trans u4, q2.2.1.trans u5, fun z => (q1.2.2.1 z).trans (u6 z), fun z => (q2.2.2.1 z).trans (u7 z)⟩
      · obtain ⟨u1, u2⟩ := s3 j (by omega) h2
        exact ⟨(gp (8 + j) (by omega) (by omega)).1.trans u1, (gp (12 + j) (by omega) (by omega)).1.trans u2⟩
      · show ck h + 1 + 1 = _ ∧ cu h + 4 + 60 = _
        omega
      · have s8 : X4 (8 + k) = true := Nat.blt_eq.mpr (by omega)
        have s12 : X4 (8 + k + 4) = true := Nat.blt_eq.mpr (by omega)
        exact (((s5.tr (Gr.mk1 10 0 4 s8)).tr (Gr.mk1 20 60 60 s12)).tr (Gr.setF1 0 s8)).tr (Gr.setF1 k rfl)
theorem rx_init {h0 h : Hp} (hz : ∀ r, r < 400 → tg h0 r = 0 ∧ ln h0 r = 0) (L : LTs h0) (F : tg h0 500 = 30 ∧ ln h0 500 = 8 ∧ ∀ k : Nat, k < 8 → iv h0 500 k = (fct k : Nat)) {hA : Hp} (xa : XA hA) (gA : Gr X4 h0 hA) (zA : ∀ r, 26 < r → r < 400 → tg hA r = 0 ∧ ln hA r = 0) (s : SI hA 4 h) : RX 0 d00 h ∧ TZ d00 h ∧ SL h = 0 ∧ iv h 1 3 = 0 ∧ Gr X4 h0 h := by
  obtain ⟨s1, s2, s3, s4, s5⟩ := s
  have tA : ∀ q ∈ ([(0, 12), (1, 1), (2, 21), (3, 20), (4, 22), (5, 20), (6, 20), (7, 23), (16, 11), (17, 8), (18, 20), (19, 9), (20, 20), (21, 20), (22, 20), (23, 20), (24, 20), (25, 20), (26, 20)] : List (Nat × Nat)), tg h q.1 = q.2 := fun q hq => by
    have hr : ¬ (8 ≤ q.1 ∧ q.1 < 16) := (by decide : ∀ q ∈ ([(0, 12), (1, 1), (2, 21), (3, 20), (4, 22), (5, 20), (6, 20), (7, 23), (16, 11), (17, 8), (18, 20), (19, 9), (20, 20), (21, 20), (22, 20), (23, 20), (24, 20), (25, 20), (26, 20)] : List (Nat × Nat)), ¬ (8 ≤ q.1 ∧ q.1 < 16)) q hq
    rw [(s1 q.1 hr).1]; exact xa.1 q hq
  have fA : ∀ q ∈ ([(0, 0), (0, 1), (0, 6), (0, 7), (0, 9), (0, 10), (0, 12), (0, 13), (0, 14), (0, 15), (0, 16), (1, 0), (1, 4), (17, 0), (19, 0), (19, 1), (19, 2), (19, 3)] : List (Nat × Nat)), fl h q.1 q.2 = true := fun q hq => by
    have hr : ¬ (8 ≤ q.1 ∧ q.1 < 16) := (by decide : ∀ q ∈ ([(0, 0), (0, 1), (0, 6), (0, 7), (0, 9), (0, 10), (0, 12), (0, 13), (0, 14), (0, 15), (0, 16), (1, 0), (1, 4), (17, 0), (19, 0), (19, 1), (19, 2), (19, 3)] : List (Nat × Nat)), ¬ (8 ≤ q.1 ∧ q.1 < 16)) q hq
    exact (s1 q.1 hr).2.2.2 _ (xa.2.1 q hq)
  have lA : ∀ q ∈ ([(2, 7), (4, 4), (5, 8), (6, 8), (7, 4), (18, 64)] : List (Nat × Nat)), ln h q.1 = q.2 := fun q hq => by
    have hr : ¬ (8 ≤ q.1 ∧ q.1 < 16) := (by decide : ∀ q ∈ ([(2, 7), (4, 4), (5, 8), (6, 8), (7, 4), (18, 64)] : List (Nat × Nat)), ¬ (8 ≤ q.1 ∧ q.1 < 16)) q hq
    rw [(s1 q.1 hr).2.1]; exact xa.2.2.1 q hq
  have g := gA.tr s5
  have g500 := g 500 rfl
  have g501 := g 501 rfl
  have u0 := s2 0 (by decide)
  have u1 := s2 1 (by decide)
  have u2 := s2 2 (by decide)
  have u3 := s2 3 (by decide)
  have xs : XS h := by
    refine ⟨fun q hq => ?_, fun q hq => ?_, fun q hq => ?_⟩
    · simp only [List.mem_cons, List.not_mem_nil, or_false] at hq
      rcases hq with rfl | rfl | rfl | rfl | rfl | rfl | rfl | rfl | rfl | rfl | rfl | rfl | rfl | rfl | rfl | rfl | rfl | rfl | rfl | rfl | rfl | rfl | rfl | rfl | rfl | rfl | rfl | rfl | rfl
      all_goals first
        | exact tA _ (by decide)
        | exact u0.1
        | exact u1.1
        | exact u2.1
        | exact u3.1
        | exact u0.2.2.2.1
        | exact u1.2.2.2.1
        | exact u2.2.2.2.1
        | exact u3.2.2.2.1
        | exact g500.1.trans F.1
        | exact g501.1.trans L.1
    · simp only [List.mem_cons, List.not_mem_nil, or_false] at hq
      rcases hq with rfl | rfl | rfl | rfl | rfl | rfl | rfl | rfl | rfl | rfl | rfl | rfl | rfl | rfl | rfl | rfl | rfl | rfl | rfl | rfl | rfl | rfl | rfl | rfl | rfl | rfl
      all_goals first
        | exact fA _ (by decide)
        | exact u0.2.1
        | exact u1.2.1
        | exact u2.2.1
        | exact u3.2.1
        | exact u0.2.2.1
        | exact u1.2.2.1
        | exact u2.2.2.1
        | exact u3.2.2.1
    · simp only [List.mem_cons, List.not_mem_nil, or_false] at hq
      rcases hq with rfl | rfl | rfl | rfl | rfl | rfl | rfl | rfl | rfl | rfl | rfl | rfl
      all_goals first
        | exact lA _ (by decide)
        | exact u0.2.2.2.2.1
        | exact u1.2.2.2.2.1
        | exact u2.2.2.2.2.1
        | exact u3.2.2.2.2.1
        | exact g500.2.1.trans F.2.1
        | exact g501.2.1.trans L.2.1
  have p0 := s1 0 (by omega)
  have p1 := s1 1 (by omega)
  have p16 := s1 16 (by omega)
  have i0 : ∀ k, iv h 0 k = 0 := fun k => (p0.2.2.1 k).trans (xa.2.2.2.2.1 k)
  have i1 : ∀ k, iv h 1 k = 0 := fun k => (p1.2.2.1 k).trans (xa.2.2.2.2.2.1 k)
  have i16 : ∀ k, iv h 16 k = 0 := fun k => (p16.2.2.1 k).trans (xa.2.2.2.2.2.2 k)
  have lz : ∀ q ∈ ([3, 20, 21, 22, 23, 24, 25, 26] : List Nat), ln h q = 0 := fun q hq => by
    have hr : ¬ (8 ≤ q ∧ q < 16) := (by decide : ∀ q ∈ ([3, 20, 21, 22, 23, 24, 25, 26] : List Nat), ¬ (8 ≤ q ∧ q < 16)) q hq
    rw [(s1 q hr).2.1]; exact xa.2.2.2.1 q hq
  have zr : ∀ r, 26 < r → r < 400 → tg h r = 0 ∧ ln h r = 0 := fun r h1 h2 => by
    have q := s1 r (by omega)
    have q2 := zA r h1 h2
    exact ⟨q.1.trans q2.1, q.2.1.trans q2.2⟩
  have e10 : ∀ k, d00 10 k = -9 := fun _ => rfl
  refine ⟨⟨⟨⟨xs, Or.inl rfl, i1 1, i1 2, fun k hk => (g500.2.2.1 k).trans (F.2.2 k hk), fun k hk => (g501.2.2.1 k).trans (L.2.2 k hk), (zr 37 (by decide) (by decide)).1, (zr 38 (by decide) (by decide)).1⟩, fun i hi => ?_, fun r hr => ?_, fun x hx => absurd hx (Nat.not_lt_zero _), fun x hx => absurd hx (Nat.not_lt_zero _), ?_, ?_, fun l hl => ?_⟩, ?_⟩, fun l h1 h2 r h3 h4 => zr r (by omega) (by omega), ?_, i1 3, g⟩
  · rw [lz 3 (by decide)] at hi; omega
  · rw [lz r (by simpa [gws] using hr)]
    exact ⟨by decide, Or.inl rfl⟩
  · rw [i1 3]; decide
  · rw [i0 2, i0 3]; decide
  · have : d00 0 3 = 0 := rfl
    omega
  · refine ⟨⟨i0 4, by decide⟩, ⟨i0 5, by decide⟩, ⟨i0 8, by decide⟩, ⟨i16 0, by decide⟩, ⟨i0 11, by decide⟩, fun r hr _ => ?_, fun k hk => ?_⟩
    · have : d00 0 5 = 0 := rfl
      omega
    · obtain ⟨v1, v2, v3, v4, v5, v6, v7⟩ := s2 k hk
      rw [v6, v6, v6, e10]
      exact ⟨Or.inl rfl, rfl, fun q => absurd rfl q, rfl, (by decide : (0 : Int) ≤ 0 ∧ (0 : Int) ≤ 60), fun i hi => ⟨v7 i, (by decide : rng 0)⟩⟩
  · unfold SL
    rw [lz 3 (by decide), lz 20 (by decide), lz 21 (by decide), lz 22 (by decide), lz 23 (by decide), lz 24 (by decide), lz 25 (by decide), lz 26 (by decide), (zr 83 (by decide) (by decide)).2, (zr 87 (by decide) (by decide)).2, (zr 91 (by decide) (by decide)).2, (zr 147 (by decide) (by decide)).2, (zr 151 (by decide) (by decide)).2, (zr 155 (by decide) (by decide)).2, (zr 211 (by decide) (by decide)).2, (zr 215 (by decide) (by decide)).2, (zr 219 (by decide) (by decide)).2, (zr 275 (by decide) (by decide)).2, (zr 279 (by decide) (by decide)).2, (zr 283 (by decide) (by decide)).2]
theorem s_xinit {h0 : Hp} (hz : ∀ r, r < 400 → tg h0 r = 0 ∧ ln h0 r = 0) (L : LTs h0) (F : tg h0 500 = 30 ∧ ln h0 500 = 8 ∧ ∀ k : Nat, k < 8 → iv h0 500 k = (fct k : Nat)) (kk : ∀ h, RX 0 d00 h → TZ d00 h → SL h = 0 → iv h 1 3 = 0 → Gr X4 h0 h → ck h ≤ ck h0 + 100 → cu h ≤ cu h0 + 1000 → P .null h) : R 0 0 [.ref 0, .retAddr 0] [] (mk h0 0 12 0 17) P := by
  have z : ∀ r, r < 400 → tg h0 r = 0 := fun r hr => (hz r hr).1
  refine t_X_init ⟨z 1 (by decide), t_Box_init ⟨z 2 (by decide), rfl, z 3 (by decide), rfl, ?_⟩⟩
  refine t_X_init_12 ⟨rfl, z 4 (by decide), rfl, z 5 (by decide), rfl, z 6 (by decide), rfl, z 7 (by decide), rfl, z 16 (by decide), t_Trail_init ?_⟩
  refine t_X_init_55 ⟨rfl, z 17 (by decide), rfl, t_Rule_init ⟨z 18 (by decide), by decide, rfl, rfl, ?_⟩⟩
  refine t_X_init_66 ⟨rfl, z 19 (by decide), rfl, t_Search_init ⟨z 20 (by decide), rfl, z 21 (by decide), rfl, z 22 (by decide), rfl, z 23 (by decide), rfl, ?_⟩⟩
  refine t_X_init_77 ⟨rfl, z 24 (by decide), rfl, z 25 (by decide), rfl, z 26 (by decide), rfl, ?_⟩
  generalize hg : setF _ 0 16 = hA
  have xa : XA hA := by
    subst hg
    refine ⟨fun q hq => ?_, fun q hq => ?_, fun q hq => ?_, fun q hq => ?_, fun k => rfl, fun k => rfl, fun k => rfl⟩
    · simp only [List.mem_cons, List.not_mem_nil, or_false] at hq
      rcases hq with rfl | rfl | rfl | rfl | rfl | rfl | rfl | rfl | rfl | rfl | rfl | rfl | rfl | rfl | rfl | rfl | rfl | rfl | rfl <;> rfl
    · simp only [List.mem_cons, List.not_mem_nil, or_false] at hq
      rcases hq with rfl | rfl | rfl | rfl | rfl | rfl | rfl | rfl | rfl | rfl | rfl | rfl | rfl | rfl | rfl | rfl | rfl | rfl <;> rfl
    · simp only [List.mem_cons, List.not_mem_nil, or_false] at hq
      rcases hq with rfl | rfl | rfl | rfl | rfl | rfl <;> rfl
    · simp only [List.mem_cons, List.not_mem_nil, or_false] at hq
      rcases hq with rfl | rfl | rfl | rfl | rfl | rfl | rfl | rfl <;> rfl
  have gp : ∀ r, 26 < r ∨ (8 ≤ r ∧ r < 16) → tg hA r = tg h0 r ∧ ln hA r = ln h0 r ∧ (∀ k, iv hA r k = iv h0 r k) ∧ ∀ k, fl hA r k = fl h0 r k := by
    intro r hr
    have n : ∀ q, q ∈ [0, 1, 2, 3, 4, 5, 6, 7, 16, 17, 18, 19, 20, 21, 22, 23, 24, 25, 26] → r ≠ q := by
      intro q hq
      simp only [List.mem_cons, List.not_mem_nil, or_false] at hq
      omega
    have S : (fun x : Nat => x ∈ [0, 1, 2, 3, 4, 5, 6, 7, 16, 17, 18, 19, 20, 21, 22, 23, 24, 25, 26]) r → False := fun q => n r q rfl
    have G : Gr (fun x => decide (x ∈ [0, 1, 2, 3, 4, 5, 6, 7, 16, 17, 18, 19, 20, 21, 22, 23, 24, 25, 26])) h0 hA := by
      subst hg
      repeat' first
        | exact Gr.mk1 _ _ _ rfl
        | exact Gr.setF1 _ rfl
        | refine Gr.tr ?_ (Gr.setF1 _ rfl)
        | refine Gr.tr ?_ (Gr.mk1 _ _ _ rfl)
    exact G r (decide_eq_false S)
  have g4 : Gr X4 h0 hA := fun r hr => gp r (Or.inl (by have := X4_lt hr; omega))
  have zA : ∀ r, 26 < r → r < 400 → tg hA r = 0 ∧ ln hA r = 0 := fun r h1 h2 => ⟨(gp r (Or.inl h1)).1.trans (hz r h2).1, (gp r (Or.inl h1)).2.1.trans (hz r h2).2⟩
  have cA : ck hA = ck h0 + 19 ∧ cu hA = cu h0 + 125 := by
    subst hg
    exact ⟨rfl, rfl⟩
  refine sheets_loop xa (fun h s => ?_) 4 0 hA (by decide) ⟨fun r _ => Gp.rf _ _, fun j hj => absurd hj (Nat.not_lt_zero _), fun j _ hj => ⟨(gp (8 + j) (Or.inr (by omega))).1.trans (z _ (by omega)), (gp (12 + j) (Or.inr (by omega))).1.trans (z _ (by omega))⟩, ⟨rfl, rfl⟩, Gr.rf _ _⟩
  obtain ⟨r1, r2, r3, r4, r5⟩ := rx_init hz L F xa g4 zA s
  have c4 := s.2.2.2.1
  exact kk h r1 r2 r3 r4 r5 (by omega) (by omega)
end XINIT
