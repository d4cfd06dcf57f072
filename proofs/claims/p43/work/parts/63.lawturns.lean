/-! The law's turns; what is refused at the end. -/
section TURNS
variable {g : Int → Int} {M kc ku N G L Mr W Q : Nat} {d : Nat → Nat → Int} {t fo r : Nat} {h h1 : Hp} {P : Value → Hp → Prop} {a3 a7 a12 a13 a14 a15 a16 a17 a18 a19 a20 a21 a22 a23 a24 a25 a26 a27 : Value} {x hd sh : Int} {tn : Nat}
theorem tick_1 {a b c e s : Nat} (h1 : a ≤ e + s) (h2 : b ≤ a + 20) (h3 : c ≤ b + 725) : c ≤ e + (s + 750) := by
  have q1 : b ≤ e + s + 20 := Nat.le_trans h2 (Nat.add_le_add_right h1 20)
  have q2 : c ≤ e + s + 20 + 725 := Nat.le_trans h3 (Nat.add_le_add_right q1 725)
  rw [Nat.add_assoc, Nat.add_assoc] at q2
  exact Nat.le_trans q2 (Nat.add_le_add_left (Nat.add_le_add_left (Nat.le_of_ble_eq_true rfl) s) e)
theorem tick_le {t t' t6 t0 tn : Nat} (h1 : t ≤ t0 + 750 * tn) (h2 : t' ≤ t + 20) (h3 : t6 ≤ t' + 725) : t6 ≤ t0 + 750 * (tn + 1) := tick_1 h1 h2 h3
theorem law_end (c : CS M N G L Mr W) (a : MS g M kc ku N G L Mr W d t fo r h) (n3 : ngv a3 = true) (n7 : ngv a7 = true) (D : ng [a3, a7, a12, a13, a14, a15, a16, a17, a18, a19, a20, a21, a22, a23, a24, a25, a26, a27] = true) (htn : 12 ≤ tn ∧ tn < 1000) (kk : ∀ (h' : Hp) (t' : Nat), ZZ g M kc ku N d t' h' → t' ≤ t + 20 → P (.int (I 1)) h') :
    R 99 187 [.ref 502, .ref 0, .ref G, a3, .int (I (N : Nat)), .ref L, .ref Mr, a7, .int (I (fct N : Nat)), .ref W, .int (I sh), .int (I (tn : Nat)), a12, a13, a14, a15, a16, a17, a18, a19, a20, a21, a22, a23, a24, a25, a26, a27] [] h P := by
  obtain ⟨cn, hM, ⟨r1, r2, r3, r4⟩, n1, n2, n3', n4, n5, n6⟩ := id c
  have cn7 : 2 ≤ N ∧ N ≤ 7 := ⟨cn.1, by omega⟩
  have nG := nv r1
  have nL := nv r2
  have nM := nv r3
  have nW := nv r4
  obtain ⟨l1, l2, l3, l4⟩ := a.lie c
  have fp := fct_pos N
  have e3 : d 0 3 = 2 := a.2.1.1
  have OK : ng [.ref 502, .ref 0, .ref G, a3, .int (I (N : Nat)), .ref L, .ref Mr, a7, .int (I (fct N : Nat)), .ref W, .int (I sh), .int (I (tn : Nat)), a12, a13, a14, a15, a16, a17, a18, a19, a20, a21, a22, a23, a24, a25, a26, a27] = true := (by simp only [ng, List.all_cons, List.all_nil, Bool.and_eq_true, Bool.and_true] at D ⊢; simp only [D, ngv_i, ngv_0, ngv_5, nG, nL, nM, nW, and_self])
  refine t_L_law_187 ⟨by omega, fun z => absurd z (by omega), fun _ => ⟨a.x.S.t0, s_use a.x (by decide) (fun _ => t_L_law_1297 ⟨by decide, fun _ => ⟨a.x.S.t0, s_lay a.x (by omega) (fun _ => t_L_law_1307 ⟨by decide, fun _ => ⟨a.x.S.t0, s_of a.x (by decide) (by omega) fun h1 k1 => t_L_law_1318 ?_⟩, fun w => absurd rfl w⟩) fun z => absurd z (by omega)⟩, fun w => absurd rfl w⟩) fun z => absurd z (by omega)⟩⟩
  have b1 := a.k0 c k1
  have v1 : ofA N 0 (N : Nat) = -1 := by
    unfold ofA atA
    rw [if_neg (by omega), if_pos (by omega)]
  rw [v1]
  refine ⟨by decide, fun _ => ⟨b1.x.S.t0, s_at b1.x (by omega) fun h2 k2 => t_L_law_1328 ?_⟩, fun w => absurd rfl w⟩
  have b2 := b1.k0 c k2
  have v2 : atA N (d 0 1) (N : Nat) = -1 := by
    unfold atA
    rw [if_pos (by omega)]
  rw [v2]
  have c1 : causeA N d 0 (N : Nat) 0 1 = -1 := by
    unfold causeA
    rw [if_pos (by omega)]
  have c2 : causeA N d 0 0 0 1 = -2 := by
    unfold causeA
    rw [if_neg (by omega), if_pos (by omega)]
  have c3 : causeA N d 0 1 ((N : Int) - 1) 1 = -2 := by
    unfold causeA
    rw [if_neg (by omega), if_pos (by omega)]
  have c4 : causeA N d 0 1 0 4 = -2 := by
    unfold causeA
    rw [if_neg (by omega), if_pos (by omega)]
  refine ⟨by decide, fun _ => ⟨b2.x.S.t0, s_cause b2.x (by decide) (by omega) (by decide) (by decide) (t_L_law_1341 ?_)⟩, fun w => absurd rfl w⟩
  rw [c1]
  refine ⟨by decide, fun _ => ⟨b2.x.S.t0, s_cause b2.x (by decide) (by decide) (by decide) (by decide) (t_L_law_1353 ?_)⟩, fun w => absurd rfl w⟩
  rw [c2]
  refine ⟨by decide, fun _ => ⟨b2.x.S.t0, s_cause b2.x (by decide) (by decide) (by omega) (by decide) (t_L_law_1369 ?_)⟩, fun w => absurd rfl w⟩
  rw [c3]
  refine ⟨by decide, fun _ => ⟨b2.x.S.t0, s_cause b2.x (by decide) (by decide) (by decide) (by decide) (t_L_law_1382 ?_)⟩, fun w => absurd rfl w⟩
  rw [c4]
  refine ⟨by decide, fun _ => ⟨okg_i rfl rfl rfl rfl (ng_ok rfl OK), b2.x.S.t0, s_shake b2.x (by decide) (by decide) fun h3 k3 => t_L_law_1393 ?_⟩, fun w => absurd rfl w⟩
  have s1 : shakeV N d 0 1 = -2 := by
    unfold shakeV
    rw [if_pos (by omega)]
  have s2 : shakeD N d 0 1 = d := by
    unfold shakeD
    rw [if_pos (by omega)]
  rw [s2] at k3
  have b3 := b2.k0 c k3
  rw [s1]
  refine ⟨by decide, fun _ => ⟨okg_i rfl rfl rfl rfl (ng_ok rfl OK), b3.x.S.t0, s_shake b3.x (by decide) (by decide) fun h4 k4 => t_L_law_1405 ?_⟩, fun w => absurd rfl w⟩
  have s3 : shakeV N d 1 100 = -2 := by
    unfold shakeV
    rw [if_pos (by omega)]
  have s4 : shakeD N d 1 100 = d := by
    unfold shakeD
    rw [if_pos (by omega)]
  rw [s4] at k4
  have b4 := b3.k0 c k4
  rw [s3]
  refine ⟨by decide, fun _ => ⟨okg_i rfl rfl rfl rfl (ng_ok rfl OK), b4.x.S.t0, s_next b4.x (by omega) (by decide) fun h5 k5 => t_L_law_1417 ?_⟩, fun w => absurd rfl w⟩
  have b5 := b4.k0 c k5
  have x1 : nextA N d (fct N : Nat) 1 = -1 := by
    unfold nextA
    rw [if_pos (by omega)]
  rw [x1]
  refine ⟨by decide, fun _ => ⟨okg_i rfl rfl rfl rfl (ng_ok rfl OK), b5.x.S.t0, s_next b5.x (by decide) (by decide) fun h6 k6 => t_L_law_1427 ?_⟩, fun w => absurd rfl w⟩
  have b6 := b5.k0 c k6
  have x2 : nextA N d 0 4 = -2 := by
    unfold nextA
    rw [if_neg (by omega), if_pos (by omega)]
  rw [x2]
  refine ⟨by decide, fun _ => ⟨okg_i rfl rfl rfl rfl (ng_ok rfl OK), b6.x.S.t0, s_still b6.x (by omega) (by decide) (by decide) fun h7 k7 => t_L_law_1440 ?_⟩, fun w => absurd rfl w⟩
  have b7 := b6.k0 c k7
  have x3 : stillA N d (fct N : Nat) 1 0 = -1 := by
    unfold stillA
    rw [if_pos (by omega)]
  rw [x3]
  refine ⟨by decide, fun _ => ⟨okg_i rfl rfl rfl rfl (ng_ok rfl OK), b7.x.S.t0, s_still b7.x (by decide) (by decide) (by decide) fun h8 k8 => t_L_law_1451 ?_⟩, fun w => absurd rfl w⟩
  have b8 := b7.k0 c k8
  have x4 : stillA N d 0 1 2 = -2 := by
    unfold stillA
    rw [if_neg (by omega), if_pos (by omega)]
  rw [x4]
  refine ⟨by decide, fun _ => ⟨okg_i rfl rfl rfl rfl (ng_ok rfl OK), b8.x.S.t0, s_soon b8.x (by omega) (by decide) (by decide) fun h9 k9 => t_L_law_1464 ?_⟩, fun w => absurd rfl w⟩
  have b9 := b8.k0 c k9
  have x5 : soonA N d (N : Nat) 0 1 = -1 := by
    unfold soonA
    rw [if_pos (by omega)]
  rw [x5]
  refine ⟨by decide, fun _ => ⟨okg_i rfl rfl rfl rfl (ng_ok rfl OK), b9.x.S.t0, s_soon b9.x (by decide) (by decide) (by decide) fun h10 k10 => t_L_law_1475 ?_⟩, fun w => absurd rfl w⟩
  have b10 := b9.k0 c k10
  have x6 : soonA N d 0 0 0 = -2 := by
    unfold soonA
    rw [if_neg (by omega), if_pos (by omega)]
  rw [x6]
  refine ⟨by decide, fun _ => ⟨okg_i rfl rfl rfl rfl (ng_ok rfl OK), b10.x.S.t0, s_boss b10.x (by decide) (by omega) (by decide) fun h11 k11 => t_L_law_1488 ?_⟩, fun w => absurd rfl w⟩
  have b11 := b10.k0 c k11
  have x7 : bossA N d 0 (fct N : Nat) 1 = -1 := by
    have x8 : soonA N d 0 (fct N : Nat) 1 = -1 := by
      unfold soonA
      rw [if_pos (by omega)]
    unfold bossA
    rw [x8, if_pos (by decide)]
  rw [x7]
  exact ⟨by decide, fun _ => t_L_law_1497 ⟨rfl, kk h11 _ b11.z (by omega)⟩, fun w => absurd rfl w⟩
/-- from 603 on: all that a turn looks at -/
theorem seg_look (c : CS M N G L Mr W) (hh : 1 ≤ hd ∧ hd ≤ 3) (a : MS g M kc ku N G L Mr W d t fo (rw_ N (d 0 1).toNat) h) (hsh : sh = d 0 2 ∧ 0 ≤ sh ∧ sh ≤ 6 * ((tn : Nat) + 1)) (htn : tn < 12) (D : ng [a3, a7, a13, a15, a16, a17, a18, a19, a20, a21, a22, a23, a24, a25, a26, a27] = true)
    (kk : ∀ (h' : Hp) (d' : Nat → Nat → Int) (t' fo' : Nat) (a12 a13 a14 a15 a16 a17 a18 a19 a20 a21 a22 a23 a24 a25 a26 a27 : Value), MS g M kc ku N G L Mr W d' t' fo' (rw_ N (d' 0 1).toNat) h' → d' 0 2 = d 0 2 → t' ≤ t + 725 → ng [a3, a7, a12, a13, a14, a15, a16, a17, a18, a19, a20, a21, a22, a23, a24, a25, a26, a27] = true → R 99 187 [.ref 502, .ref 0, .ref G, a3, .int (I (N : Nat)), .ref L, .ref Mr, a7, .int (I (fct N : Nat)), .ref W, .int (I sh), .int (I ((tn : Nat) + 1)), a12, a13, a14, a15, a16, a17, a18, a19, a20, a21, a22, a23, a24, a25, a26, a27] [] h' P) :
    R 99 603 [.ref 502, .ref 0, .ref G, a3, .int (I (N : Nat)), .ref L, .ref Mr, a7, .int (I (fct N : Nat)), .ref W, .int (I sh), .int (I (tn : Nat)), .int (I x), a13, .int (I hd), a15, a16, a17, a18, a19, a20, a21, a22, a23, a24, a25, a26, a27] [] h P := by
  obtain ⟨cn, hM, ⟨r1, r2, r3, r4⟩, n1, n2, n3', n4, n5, n6⟩ := id c
  have sb := smv_bd (shr x 15) (m := (N : Nat)) (by omega)
  refine seg_603 c a hsh (by omega) (fun a13 a17 a18 a19 a20 a21 a22 a23 a24 a25 a26 a27 D1 => ?_) D
  refine seg_635 c (t0 := t) (fun h2 t2 a13 a17 a18 a19 a20 a21 a22 a23 a24 a25 a26 a27 m2 ht2 D2 => ?_) D1 N 0 h t (by omega) a (by omega)
  obtain ⟨p1, p2, p3, p4⟩ := m2.2.2.2.2
  have qs : QS G L Mr W (10000 + ck h2) := ⟨by omega, by omega, by omega, by omega, by omega⟩
  refine seg_698 c hh m2 (fun h3 m3 gp3 ck3 fz3 tl3 => ?_) (N - 1) 0 (by omega)
  refine seg_771 c qs hh (fun h4 a17 s0 n17 m4 ar4 hQ4 => ?_) 7 0 h3 (by omega) m3 (by omega) tl3.1 tl3.2 fun q hq => absurd hq (Nat.not_lt_zero q)
  refine seg_806 c qs hh m4 ar4 hQ4 ?_ fun h5 a13 a17 a18 a19 a20 a21 a22 a23 a24 a25 a26 a27 m5 D5 => ?_
  · simp only [ng, List.all_cons, List.all_nil, Bool.and_eq_true, Bool.and_true] at D2 ⊢
    simp only [D2, n17, and_self]
  · exact seg_1051 c hh m5 sb (nv (by omega)) D5 fun h6 d6 t6 fo6 a12 a13 a14 a15 a16 a17 a18 a19 a20 a21 a22 a23 a24 a25 a26 a27 m6 e6 ht6 D6 => t_L_law_1286 (kk h6 d6 t6 fo6 _ _ _ _ _ _ _ _ _ _ _ _ _ _ _ _ m6 e6 (by omega) D6)
theorem law_turns (c : CS M N G L Mr W) {t0 : Nat} (n3 : ngv a3 = true) (n7 : ngv a7 = true) (kk : ∀ (h' : Hp) (d' : Nat → Nat → Int) (t' : Nat), ZZ g M kc ku N d' t' h' → t' ≤ t0 + 9100 → P (.int (I 1)) h') : ∀ (j tn : Nat) (h : Hp) (d : Nat → Nat → Int) (t fo : Nat) (a12 a13 a14 a15 a16 a17 a18 a19 a20 a21 a22 a23 a24 a25 a26 a27 : Value), ng [a3, a7, a12, a13, a14, a15, a16, a17, a18, a19, a20, a21, a22, a23, a24, a25, a26, a27] = true → tn + j = 12 → MS g M kc ku N G L Mr W d t fo (rw_ N (d 0 1).toNat) h → (0 ≤ d 0 2 ∧ d 0 2 ≤ 6 * (tn : Nat)) → t ≤ t0 + 750 * tn →
    R 99 187 [.ref 502, .ref 0, .ref G, a3, .int (I (N : Nat)), .ref L, .ref Mr, a7, .int (I (fct N : Nat)), .ref W, .int (I (d 0 2)), .int (I (tn : Nat)), a12, a13, a14, a15, a16, a17, a18, a19, a20, a21, a22, a23, a24, a25, a26, a27] [] h P := by
  obtain ⟨cn, hM, ⟨r1, r2, r3, r4⟩, n1, n2, n3', n4, n5, n6⟩ := id c
  have cn7 : 2 ≤ N ∧ N ≤ 7 := ⟨cn.1, by omega⟩
  intro j
  induction j with
  | zero =>
    intro tn h d t fo a12 a13 a14 a15 a16 a17 a18 a19 a20 a21 a22 a23 a24 a25 a26 a27 D hj a hs ht
    exact law_end c a n3 n7 D (by omega) fun h' t' z ht' => kk h' d t' z (by omega)
  | succ j ih =>
    intro tn h d t fo a12 a13 a14 a15 a16 a17 a18 a19 a20 a21 a22 a23 a24 a25 a26 a27 D hj a hs ht
    obtain ⟨lx, lx2⟩ := a.lx c
    obtain ⟨l1, l2, l3, l4⟩ := a.lie c
    refine t_L_law_187 ⟨by omega, fun _ => s_cell a.z.sc hM ⟨by omega, by omega⟩ (t_L_law_203 (s_some (by decide) (t_L_law_212 (s_some (by decide) ?_)))), fun z => absurd (by omega) z⟩
    generalize clv g M (10 + (tn : Nat)) = x
    have hb := smv_bd (shr x 3) (m := 3) (by decide)
    have hh : 1 ≤ 1 + smv (shr x 3) 3 ∧ 1 + smv (shr x 3) 3 ≤ 3 := by omega
    have ab := smv_bd x (m := 7) (by decide)
    have nx : ∀ (t1 : Nat), t1 ≤ t + 20 → ∀ (h' : Hp) (d' : Nat → Nat → Int) (t' : Nat) (a13 a15 a16 a17 a18 a19 a20 a21 a22 a23 a24 a25 a26 a27 : Value), MS g M kc ku N G L Mr W d' t' fo (rw_ N (d' 0 1).toNat) h' → (0 ≤ d' 0 2 ∧ d' 0 2 ≤ 6 * ((tn : Nat) + 1)) → t' ≤ t + 20 → ng [a3, a7, a13, a15, a16, a17, a18, a19, a20, a21, a22, a23, a24, a25, a26, a27] = true → R 99 603 [.ref 502, .ref 0, .ref G, a3, .int (I (N : Nat)), .ref L, .ref Mr, a7, .int (I (fct N : Nat)), .ref W, .int (I (d' 0 2)), .int (I (tn : Nat)), .int (I x), a13, .int (I (1 + smv (shr x 3) 3)), a15, a16, a17, a18, a19, a20, a21, a22, a23, a24, a25, a26, a27] [] h' P := fun t1 ht1 h' d' t' a13 a15 a16 a17 a18 a19 a20 a21 a22 a23 a24 a25 a26 a27 m' s' ht' D' => by
      refine seg_look c hh m' (sh := d' 0 2) ⟨rfl, s'.1, by omega⟩ (by omega) D' fun h6 d6 t6 fo6 a12 a13 a14 a15 a16 a17 a18 a19 a20 a21 a22 a23 a24 a25 a26 a27 m6 e6 ht6 D6 => ?_
      have z := ih (tn + 1) h6 d6 t6 fo6 a12 a13 a14 a15 a16 a17 a18 a19 a20 a21 a22 a23 a24 a25 a26 a27 D6 (by omega) m6 (by rw [e6]; exact s') (tick_le ht ht' ht6)
      rw [e6] at z
      exact z
    have nx := nx t (by omega)
    have hsh : d 0 2 = d 0 2 ∧ 0 ≤ d 0 2 ∧ d 0 2 ≤ 6 * (tn : Nat) := ⟨rfl, hs.1, hs.2⟩
    have e0 : ∀ {s : List Nat}, True := trivial
    refine t_L_law_223 ⟨by omega, fun c1 => s_some (by decide) (t_L_law_241 ?_), fun c1 => ⟨by omega, fun c2 => ?_, fun c2 => ⟨by omega, fun c3 => ?_, fun c3 => ⟨by omega, fun c4 => s_some (by omega) ?_, fun c4 => s_some (by decide) (t_L_law_493 ⟨a.x.S.t0, ?_⟩)⟩⟩⟩⟩
    · have kb := smv_bd (shr x 5) (m := 6) (by decide)
      have ek : smv (shr x 5) 6 = (((smv (shr x 5) 6).toNat : Nat) : Int) := by omega
      have z := act_shake (x := x) (a13 := .int (I (smv x 7))) (a18 := a18) (a19 := a19) (a20 := a20) (a21 := a21) (a22 := a22) (a23 := a23) (a24 := a24) (a25 := a25) (a26 := a26) (a27 := a27) (a3 := a3) (a7 := a7) c hh (kN := (smv (shr x 5) 6).toNat) (by omega) a hsh (by omega) nx (by
        simp only [ng, List.all_cons, List.all_nil, Bool.and_eq_true, Bool.and_true] at D ⊢
        simp only [D, ngv_i, and_self]) (smv (shr x 5) 6).toNat 0 h (by omega) a
      rw [← ek] at z
      exact z
    · refine act_turn c a hsh nx (N / 2) 0 h _ _ _ _ _ _ _ _ _ _ _ _ _ ?_ (by omega) (Fr.rf _ _) fun q hq => ?_
      · simp only [ng, List.all_cons, List.all_nil, Bool.and_eq_true, Bool.and_true] at D ⊢
        simp only [D, ngv_i, and_self]
      · rw [if_neg (by omega)]; exact a.ar.2 q hq
    · obtain ⟨⟨wt, wl⟩, wa⟩ := id a.ar
      have w0 := wa 0 (by omega)
      rw [wl, show (0 : Int) = ((0 : Nat) : Int) from rfl, w0]
      refine ⟨Or.inl wt, by omega, by omega, act_spoon c a hsh nx ?_ (N - 1) 1 h (by omega) (by omega) (Fr.rf _ _) fun q hq => ?_⟩
      · simp only [ng, List.all_cons, List.all_nil, Bool.and_eq_true, Bool.and_true] at D ⊢
        simp only [D, ngv_i, and_self]
      · rw [if_neg (by omega)]; exact wa q hq
    · have kb := smv_bd (shr x 5) (m := (fct N : Nat)) (by omega)
      have ek : smv (shr x 5) (fct N : Nat) = (((smv (shr x 5) (fct N : Nat)).toNat : Nat) : Int) := by omega
      have z := act_lay (x := x) (hd := 1 + smv (shr x 3) 3) (a13 := .int (I (smv x 7))) (a15 := a15) (a16 := a16) (a17 := a17) (a18 := a18) (a19 := a19) (a20 := a20) (a21 := a21) (a22 := a22) (a23 := a23) (a24 := a24) (a25 := a25) (a26 := a26) (a27 := a27) (a3 := a3) (a7 := a7) c a hsh (l := (smv (shr x 5) (fct N : Nat)).toNat) (by omega) nx (by
        simp only [ng, List.all_cons, List.all_nil, Bool.and_eq_true, Bool.and_true] at D ⊢
        simp only [D, ngv_i, and_self])
      rw [← ek] at z
      exact z
    · have kb := smv_bd (shr x 5) (m := 5) (by decide)
      have ek : smv (shr x 5) 5 = (((smv (shr x 5) 5).toNat : Nat) : Int) := by omega
      refine s_sheet a.x (by decide) (by decide) (by decide) fun h2 k2 => t_L_law_506 ?_
      have e1 : sheetV 2 0 6 = 1 := rfl
      have e2 : sheetD d 2 0 6 = shtD (up d 0 7 0) 2 0 6 := rfl
      rw [e1]
      rw [e2] at k2
      have de := sht_de d 2 0 6
      have a2 := a.k c k2 de.1 (de.2 3 (by decide)) (de.2 4 (by decide))
      refine ⟨by decide, fun _ => ?_, fun w => absurd rfl w⟩
      have z := act_doing (x := x) (hd := 1 + smv (shr x 3) 3) (a3 := a3) (a7 := a7) c (d0 := d) (t0 := t) (kN := (smv (shr x 5) 5).toNat) (by omega) lx lx2 hsh (by omega) (by omega) a.2.1.2 nx (smv (shr x 5) 5).toNat 0 h2 _ (t + 1) (.int (I (smv x 7))) a18 a19 a20 a21 a22 a23 a24 a25 a26 a27 (by
        simp only [ng, List.all_cons, List.all_nil, Bool.and_eq_true, Bool.and_true] at D ⊢
        simp only [D, ngv_i, and_self]) (by omega) (by omega) de (sht_10 _ _ _ _) (sht_11 _ _ _ _) (fun q' hq' => absurd hq' (Nat.not_lt_zero q')) a2
      rw [← ek] at z
      exact z
end TURNS
