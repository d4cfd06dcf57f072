/-! Where each lies; which cause rules each pair. -/
def k7q (n t lie : Nat) : Bool := allN n (fun p => allN n (fun q => Nat.beq p q || !(Nat.beq (dg (tb t lie) p) (dg (tb t lie) q))))
theorem kk7_2 : allN 2 (k7q 2 tb2) = true := by decide +kernel
theorem kk7_3 : allN 6 (k7q 3 tb3) = true := by decide +kernel
theorem kk7_4 : allN 24 (k7q 4 tb4) = true := by decide +kernel
theorem kk7_5 : allN 120 (k7q 5 tb5) = true := by decide +kernel
theorem kk7_6 : allN 720 (k7q 6 tb6) = true := by decide +kernel
theorem okRow.inj {n r : Nat} (hn : 2 ≤ n ∧ n ≤ 6) (h : okRow n r) {p q : Nat} (hp : p < n) (hq : q < n) (e : dg r p = dg r q) : p = q := by
  obtain ⟨lie, hl, rfl⟩ := h
  have er := (rank_facts (show 2 ≤ n ∧ n ≤ 7 from ⟨hn.1, by omega⟩) hl).2.2.2.2
  have z : k7q n (tbn n) lie = true := by
    have : n = 2 ∨ n = 3 ∨ n = 4 ∨ n = 5 ∨ n = 6 := by omega
    rcases this with rfl | rfl | rfl | rfl | rfl
    · exact allN_at kk7_2 lie hl
    · exact allN_at kk7_3 lie hl
    · exact allN_at kk7_4 lie hl
    · exact allN_at kk7_5 lie hl
    · exact allN_at kk7_6 lie hl
  have w := allN_at (allN_at z p hp) q hq
  rw [er] at e
  rw [e, Bool.or_eq_true] at w
  rcases w with w | w
  · exact Nat.eq_of_beq_eq_true w
  · rw [Nat.beq_refl] at w; cases w
theorem plg_at {n r : Nat} (hn : 2 ≤ n ∧ n ≤ 6) (h : okRow n r) {p : Nat} (hp : p < n) : ∀ (k q : Nat), q ≤ p → q + k = n → plg r (dg r p) k q = (p : Nat)
  | 0, q, h1, h2 => absurd h2 (by omega)
  | k + 1, q, h1, h2 => by
    rw [plg]
    by_cases e : dg r q = dg r p
    · rw [if_pos e, h.inj hn (by omega) hp e]
    · rw [if_neg e]
      refine plg_at hn h hp k (q + 1) ?_ (by omega)
      apply Nat.lt_of_le_of_ne h1
      intro z
      exact e (by rw [z])
section LOOK
variable {g : Int → Int} {M kc ku N G L Mr W : Nat} {d : Nat → Nat → Int} {t fo r : Nat} {h h1 : Hp} {P : Value → Hp → Prop} {a3 a7 a12 a13 a14 a15 a16 a17 a18 a19 a20 a21 a22 a23 a24 a25 a26 a27 : Value} {x hd sh : Int} {tn : Nat}
theorem seg_603 (c : CS M N G L Mr W) (a : MS g M kc ku N G L Mr W d t fo (rw_ N (d 0 1).toNat) h) (hsh : sh = d 0 2 ∧ 0 ≤ sh ∧ sh ≤ 6 * ((tn : Nat) + 1)) (htn : tn ≤ 12)
    (kk : ∀ (a13 a17 a18 a19 a20 a21 a22 a23 a24 a25 a26 a27 : Value), ng [a3, a7, a13, a17, a18, a19, a20, a21, a22, a23, a24, a25, a26, a27] = true → R 99 635 [.ref 502, .ref 0, .ref G, a3, .int (I (N : Nat)), .ref L, .ref Mr, a7, .int (I (fct N : Nat)), .ref W, .int (I sh), .int (I (tn : Nat)), .int (I x), a13, .int (I hd), .int (I ((d 0 1).toNat : Nat)), .int (I 0), a17, a18, a19, a20, a21, a22, a23, a24, a25, a26, a27] [] h P) (D : ng [a3, a7, a13, a15, a16, a17, a18, a19, a20, a21, a22, a23, a24, a25, a26, a27] = true) :
    R 99 603 [.ref 502, .ref 0, .ref G, a3, .int (I (N : Nat)), .ref L, .ref Mr, a7, .int (I (fct N : Nat)), .ref W, .int (I sh), .int (I (tn : Nat)), .int (I x), a13, .int (I hd), a15, a16, a17, a18, a19, a20, a21, a22, a23, a24, a25, a26, a27] [] h P := by
  obtain ⟨cn, hM, ⟨r1, r2, r3, r4⟩, n1, n2, n3, n4, n5, n6⟩ := id c
  have cn7 : 2 ≤ N ∧ N ≤ 7 := ⟨cn.1, by omega⟩
  have nG := nv r1
  have nL := nv r2
  have nM := nv r3
  have nW := nv r4
  obtain ⟨lx, lx2⟩ := a.lx c
  obtain ⟨l1, l2, l3, l4⟩ := a.lie c
  refine t_L_law_603 (a.num c (t_L_law_609 ⟨a.x.S.t0, s_lie a.x (t_L_law_615 ?_)⟩))
  rw [(rank_facts cn7 lx).1, if_neg (by omega), lx2]
  refine ⟨by omega, by omega, fun _ => ⟨a.x.S.t0, s_many a.x (by decide) (t_L_law_625 ?_)⟩, fun w => absurd rfl w⟩
  have e4 : manyA N d 4 = d 0 2 := rfl
  rw [e4, ← hsh.1]
  have z := kk a13 a17 a18 a19 a20 a21 a22 a23 a24 a25 a26 a27 (by simp only [ng, List.all_cons, List.all_nil, Bool.and_eq_true, Bool.and_true] at D ⊢; simp only [D, ngv_i, ngv_0, ngv_5, nG, nL, nM, nW, and_self])
  rw [lx2] at z
  exact ⟨by omega, by omega, fun _ => z, fun w => absurd rfl w⟩
theorem seg_635 (c : CS M N G L Mr W) {t0 : Nat} (kk : ∀ (h' : Hp) (t' : Nat) (a13 a17 a18 a19 a20 a21 a22 a23 a24 a25 a26 a27 : Value), MS g M kc ku N G L Mr W d t' fo (rw_ N (d 0 1).toNat) h' → t' ≤ t0 + 18 → ng [a3, a7, a13, a17, a18, a19, a20, a21, a22, a23, a24, a25, a26, a27] = true → R 99 698 [.ref 502, .ref 0, .ref G, a3, .int (I (N : Nat)), .ref L, .ref Mr, a7, .int (I (fct N : Nat)), .ref W, .int (I sh), .int (I (tn : Nat)), .int (I x), a13, .int (I hd), .int (I ((d 0 1).toNat : Nat)), .int (I 0), a17, a18, a19, a20, a21, a22, a23, a24, a25, a26, a27] [] h' P) (D : ng [a3, a7, a13, a17, a18, a19, a20, a21, a22, a23, a24, a25, a26, a27] = true) : ∀ (j p : Nat) (h : Hp) (t : Nat), p + j = N → MS g M kc ku N G L Mr W d t fo (rw_ N (d 0 1).toNat) h → t ≤ t0 + 3 * p →
    R 99 635 [.ref 502, .ref 0, .ref G, a3, .int (I (N : Nat)), .ref L, .ref Mr, a7, .int (I (fct N : Nat)), .ref W, .int (I sh), .int (I (tn : Nat)), .int (I x), a13, .int (I hd), .int (I ((d 0 1).toNat : Nat)), .int (I (p : Nat)), a17, a18, a19, a20, a21, a22, a23, a24, a25, a26, a27] [] h P := by
  obtain ⟨cn, hM, ⟨r1, r2, r3, r4⟩, n1, n2, n3, n4, n5, n6⟩ := id c
  have cn7 : 2 ≤ N ∧ N ≤ 7 := ⟨cn.1, by omega⟩
  intro j
  induction j with
  | zero =>
    intro p h t hp a ht
    exact t_L_law_635 ⟨by omega, by omega, fun z => absurd z (by omega), fun _ => kk h t _ _ _ _ _ _ _ _ _ _ _ _ a (by omega) D⟩
  | succ j ih =>
    intro p h t hp a ht
    obtain ⟨lx, lx2⟩ := a.lx c
    obtain ⟨l1, l2, l3, l4⟩ := a.lie c
    have ok := a.2.2.2.1
    have dp := ok.d cn7 (p := p) (by omega)
    have eA : atA N (d 0 1) (p : Nat) = (dg (rw_ N (d 0 1).toNat) p : Nat) := by
      unfold atA
      rw [if_neg (by omega), Int.toNat_natCast]
    have eO : ofA N ((d 0 1).toNat : Nat) (p : Nat) = (dg (rw_ N (d 0 1).toNat) p : Nat) := by
      unfold ofA atA
      rw [if_neg (by omega), if_neg (by omega), Int.toNat_natCast, Int.toNat_natCast]
    have eG : ofG N d (dg (rw_ N (d 0 1).toNat) p : Nat) 5 = (p : Nat) := by
      unfold ofG
      rw [if_neg (by omega), if_neg (by decide), if_neg (by decide), if_neg (by decide), if_neg (by decide), if_neg (by decide), if_pos rfl, Int.toNat_natCast]
      exact plg_at cn ok (by omega) N 0 (by omega) (by omega)
    refine t_L_law_635 ⟨by omega, by omega, fun _ => ⟨a.x.S.t0, s_at a.x (by omega) fun h1 k1 => t_L_law_648 ?_⟩, fun z => absurd (by omega) z⟩
    have a1 := a.k0 c k1
    obtain ⟨⟨wt, wl⟩, wa⟩ := id a1.ar
    rw [wl, wa p (by omega), eA]
    refine ⟨Or.inl wt, by omega, by omega, by omega, by omega, by omega, fun _ => ⟨a1.x.S.t0, s_of a1.x (by omega) (by omega) fun h2 k2 => t_L_law_664 ?_⟩, fun w => absurd rfl w⟩
    have a2 := a1.k0 c k2
    obtain ⟨⟨wt2, wl2⟩, wa2⟩ := id a2.ar
    rw [wl2, wa2 p (by omega), eO]
    refine ⟨Or.inl wt2, by omega, by omega, by omega, by omega, by omega, fun _ => ⟨Or.inl wt2, by omega, by omega, by omega, a2.x.S.t0, s_ofGrain a2.x (by omega) (by decide) fun h3 k3 => t_L_law_682 ?_⟩, fun w => absurd rfl w⟩
    rw [eG]
    exact ⟨by omega, by omega, fun _ => ih (p + 1) h3 _ (by omega) (a2.k0 c k3) (by omega), fun w => absurd rfl w⟩
theorem seg_698 (c : CS M N G L Mr W) (hh : 1 ≤ hd ∧ hd ≤ 3) (a : MS g M kc ku N G L Mr W d t fo (rw_ N (d 0 1).toNat) h) (kk : ∀ (h' : Hp), MS g M kc ku N G L Mr W d (t + 1) fo (rw_ N (d 0 1).toNat) h' → (∀ z, z < 10000 + ck h → Gp h h' z) → ck h' = ck h + 1 → FZ h' → (tg h' (10000 + ck h) = 20 ∧ ln h' (10000 + ck h) = 7) → R 99 771 [.ref 502, .ref 0, .ref G, a3, .int (I (N : Nat)), .ref L, .ref Mr, a7, .int (I (fct N : Nat)), .ref W, .int (I sh), .int (I (tn : Nat)), .int (I x), a13, .int (I hd), .int (I ((d 0 1).toNat : Nat)), .ref (10000 + ck h), .int (I 0), a18, a19, a20, a21, a22, a23, a24, a25, a26, a27] [] h' P) : ∀ (j p : Nat), p + j + 1 = N →
    R 99 698 [.ref 502, .ref 0, .ref G, a3, .int (I (N : Nat)), .ref L, .ref Mr, a7, .int (I (fct N : Nat)), .ref W, .int (I sh), .int (I (tn : Nat)), .int (I x), a13, .int (I hd), .int (I ((d 0 1).toNat : Nat)), .int (I (p : Nat)), a17, a18, a19, a20, a21, a22, a23, a24, a25, a26, a27] [] h P := by
  obtain ⟨cn, hM, ⟨r1, r2, r3, r4⟩, n1, n2, n3, n4, n5, n6⟩ := id c
  have cn7 : 2 ≤ N ∧ N ≤ 7 := ⟨cn.1, by omega⟩
  obtain ⟨⟨wt, wl⟩, wa⟩ := id a.ar
  have fo1 := a.fo1
  intro j
  induction j with
  | zero =>
    intro p hp
    obtain ⟨m1, m2⟩ := mk7 h (10000 + ck h)
    have nw := NW.mk7 a.z.fz
    exact t_L_law_698 ⟨by omega, by omega, fun z => absurd z (by omega), fun _ => ⟨a.z.fz _ (Nat.le_refl _), kk _ (a.nw nw) nw.1 rfl nw.2.1 ⟨m1, m2⟩⟩⟩
  | succ j ih =>
    intro p hp
    have ok := a.2.2.2.1
    have w1 := wa p (by omega)
    have w2 := wa (p + 1) (by omega)
    have c1 : ((p + 1 : Nat) : Int) = (p : Int) + 1 := by omega
    rw [c1] at w2
    have d1 := ok.d cn7 (p := p) (by omega)
    have d2 := ok.d cn7 (p := p + 1) (by omega)
    have e4 : (d 0 4).toNat = fo := by have := a.2.1.2; omega
    have dn : dg (rw_ N (d 0 1).toNat) p ≠ dg (rw_ N (d 0 1).toNat) (p + 1) := fun z => by
      have := ok.inj cn (by omega) (by omega) z
      omega
    have eC : causeA N d (dg (rw_ N (d 0 1).toNat) p : Nat) (dg (rw_ N (d 0 1).toNat) (p + 1) : Nat) (p : Nat) hd = rul d fo (dg (rw_ N (d 0 1).toNat) p) (dg (rw_ N (d 0 1).toNat) (p + 1)) (p : Nat) hd (-9) := by
      unfold causeA
      rw [if_neg (by omega), if_neg (by omega), if_neg (by have := a.2.1.1; omega), e4, Int.toNat_natCast, Int.toNat_natCast]
    have bd := rulg_bd d fo (dg (rw_ N (d 0 1).toNat) p) (dg (rw_ N (d 0 1).toNat) (p + 1)) (p : Nat) hd (-9) (d 4 fo).toNat 0
    have bd : rng (rul d fo (dg (rw_ N (d 0 1).toNat) p) (dg (rw_ N (d 0 1).toNat) (p + 1)) (p : Nat) hd (-9)) := by
      have := (a.lb fo1).1
      unfold rul
      omega
    refine t_L_law_698 ?_
    rw [wl, w1, w2]
    refine ⟨by omega, by omega, fun _ => ⟨Or.inl wt, by omega, by omega, by omega, Or.inl wt, by omega, by omega, by omega, a.x.S.t0, s_cause a.x (by omega) (by omega) (by omega) (by omega) (t_L_law_727 ?_)⟩, fun z => absurd (by omega) z⟩
    rw [wl, w1, w2, eC]
    exact ⟨Or.inl wt, by omega, by omega, by omega, Or.inl wt, by omega, by omega, by omega, s_Lruling cn7.2 a.ag a.al a.gb (a.lb fo1) d1 d2 ⟨by omega, by omega⟩ (by omega) (by decide) (t_L_law_751 ⟨bd, bd, fun _ => ih (p + 1) (by omega), fun w => absurd rfl w⟩)⟩
end LOOK
