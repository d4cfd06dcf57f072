/-! The law's beginning. -/
theorem rw0 {n : Nat} (hn : 2 ≤ n ∧ n ≤ 6) {p : Nat} (hp : p < n) : dg (rw_ n 0) p = p := by
  have k2 : allN 2 (fun p => Nat.beq (dg (rw_ 2 0) p) p) = true := by decide +kernel
  have k3 : allN 3 (fun p => Nat.beq (dg (rw_ 3 0) p) p) = true := by decide +kernel
  have k4 : allN 4 (fun p => Nat.beq (dg (rw_ 4 0) p) p) = true := by decide +kernel
  have k5 : allN 5 (fun p => Nat.beq (dg (rw_ 5 0) p) p) = true := by decide +kernel
  have k6 : allN 6 (fun p => Nat.beq (dg (rw_ 6 0) p) p) = true := by decide +kernel
  have : n = 2 ∨ n = 3 ∨ n = 4 ∨ n = 5 ∨ n = 6 := by omega
  rcases this with rfl | rfl | rfl | rfl | rfl
  · exact Nat.eq_of_beq_eq_true (allN_at k2 p hp)
  · exact Nat.eq_of_beq_eq_true (allN_at k3 p hp)
  · exact Nat.eq_of_beq_eq_true (allN_at k4 p hp)
  · exact Nat.eq_of_beq_eq_true (allN_at k5 p hp)
  · exact Nat.eq_of_beq_eq_true (allN_at k6 p hp)
section BEGIN
variable {g : Int → Int} {M kc ku N G L Mr W : Nat} {d : Nat → Nat → Int} {t : Nat} {h : Hp} {P : Value → Hp → Prop} {a3 a7 a8 a9 a10 a11 a12 a13 a14 a15 a16 a17 a18 a19 a20 a21 a22 a23 a24 a25 a26 a27 : Value}
/-- the first row -/
theorem beg_161 (c : CS M N G L Mr W) {t0 : Nat} (n3 : ngv a3 = true) (n7 : ngv a7 = true) (kk : ∀ (h' : Hp) (d' : Nat → Nat → Int) (t' : Nat), ZZ g M kc ku N d' t' h' → t' ≤ t0 + 9100 → P (.int (I 1)) h') (D : ng [a3, a7, a11, a12, a13, a14, a15, a16, a17, a18, a19, a20, a21, a22, a23, a24, a25, a26, a27] = true) (ht : t ≤ t0) (hd : d 0 1 = 0 ∧ d 0 2 = 0 ∧ d 0 3 = 2 ∧ d 0 4 = 0) : ∀ (j p : Nat) (h : Hp), p + j = N → ZZ g M kc ku N d t h → (AG N d G h ∧ AL d 0 L h ∧ AL d 1 Mr h) → (tg h W = 20 ∧ ln h W = 7) → (G < 10000 + ck h ∧ L < 10000 + ck h ∧ Mr < 10000 + ck h ∧ W < 10000 + ck h) → (∀ q : Nat, q < p → iv h W (q : Nat) = (q : Nat)) →
    R 99 161 [.ref 502, .ref 0, .ref G, a3, .int (I (N : Nat)), .ref L, .ref Mr, a7, .int (I (fct N : Nat)), .ref W, .int (I (p : Nat)), a11, a12, a13, a14, a15, a16, a17, a18, a19, a20, a21, a22, a23, a24, a25, a26, a27] [] h P := by
  obtain ⟨cn, hM, ⟨r1, r2, r3, r4⟩, n1, n2, n3', n4, n5, n6⟩ := id c
  have fp := fct_pos N
  intro j
  induction j with
  | zero =>
    intro p h hp z ⟨b1, b2, b3⟩ ⟨t1, t2⟩ pp hv
    refine t_L_law_161 ⟨by omega, by omega, fun q => absurd q (by omega), fun _ => ?_⟩
    have e0 : (d 0 1).toNat = 0 := by rw [hd.1]; rfl
    have ar : AR N (rw_ N (d 0 1).toNat) W h := ⟨⟨t1, t2⟩, fun q hq => by rw [e0, rw0 cn hq]; exact hv q (by omega)⟩
    have ms : MS g M kc ku N G L Mr W d t 0 (rw_ N (d 0 1).toNat) h := ⟨z, ⟨hd.2.2.1, hd.2.2.2⟩, ⟨b1, b2, b3, ar⟩, ⟨(d 0 1).toNat, by omega, rfl⟩, pp⟩
    have w := law_turns (P := P) (a3 := a3) (a7 := a7) c (t0 := t0) n3 n7 kk 12 0 h d t 0 a12 a13 a14 a15 a16 a17 a18 a19 a20 a21 a22 a23 a24 a25 a26 a27 (by
      simp only [ng, List.all_cons, List.all_nil, Bool.and_eq_true, Bool.and_true] at D ⊢
      simp only [D, and_self]) (by omega) ms (by omega) (by omega)
    rw [hd.2.1] at w
    exact w
  | succ j ih =>
    intro p h hp z ⟨b1, b2, b3⟩ ⟨t1, t2⟩ pp hv
    have fr : Fr (fun q => q == W) h (setI h W (p : Nat) (wr (p : Nat))) := Fr.set (S := fun q => q == W) h _ _ (beq_self_eq_true W)
    refine t_L_law_161 ⟨by omega, by omega, fun _ => ⟨t1, by omega, by omega, by omega, ?_⟩, fun q => absurd (by omega) q⟩
    refine ih (p + 1) _ (by omega) (z.o fr r4) ⟨b1.gp (fr.gp1 n3'), b2.gp (fr.gp1 n5), b3.gp (fr.gp1 n6)⟩ ⟨t1, t2⟩ pp fun q hq => ?_
    by_cases w : q = p
    · rw [w, iv_eq, wr_eq (by omega)]
    · rw [iv_nk (by omega)]; exact hv q (by omega)
theorem beg_150 {t0 : Nat} (cn : 2 ≤ N ∧ N ≤ 6) (hM : M ≤ 260) (rr : 10000 ≤ G ∧ 10000 ≤ L ∧ 10000 ≤ Mr) (nn : G ≠ L ∧ G ≠ Mr ∧ L ≠ Mr) (n3 : ngv a3 = true) (n7 : ngv a7 = true) (kk : ∀ (h' : Hp) (d' : Nat → Nat → Int) (t' : Nat), ZZ g M kc ku N d' t' h' → t' ≤ t0 + 9100 → P (.int (I 1)) h') (D : ng [a3, a7, a8, a9, a10, a11, a12, a13, a14, a15, a16, a17, a18, a19, a20, a21, a22, a23, a24, a25, a26, a27] = true) (ht : t + 1 ≤ t0) (hd : d 0 1 = 0 ∧ d 0 2 = 0 ∧ d 0 3 = 2 ∧ d 0 4 = 0) (z : ZZ g M kc ku N d t h) (b : AG N d G h ∧ AL d 0 L h ∧ AL d 1 Mr h) (pp : G < 10000 + ck h ∧ L < 10000 + ck h ∧ Mr < 10000 + ck h) :
    R 99 150 [.ref 502, .ref 0, .ref G, a3, .int (I (N : Nat)), .ref L, .ref Mr, a7, a8, a9, a10, a11, a12, a13, a14, a15, a16, a17, a18, a19, a20, a21, a22, a23, a24, a25, a26, a27] [.int (I (fct N : Nat))] h P := by
  obtain ⟨m1, m2⟩ := mk7 h (10000 + ck h)
  have nw := NW.mk7 z.fz
  have c1 : ck (mk h (10000 + ck h) 20 (7 : Int).toNat (7 : Int).toNat) = ck h + 1 := rfl
  refine t_L_law_150 ⟨z.fz _ (Nat.le_refl _), ?_⟩
  refine beg_161 (t0 := t0) (t := t + 1) ⟨cn, hM, ⟨rr.1, rr.2.1, rr.2.2, Nat.le_add_right _ _⟩, nn.1, nn.2.1, by omega, nn.2.2, by omega, by omega⟩ n3 n7 kk ?_ ht hd N 0 _ (by omega) (z.nw nw) ⟨b.1.gp (nw.1 _ pp.1), b.2.1.gp (nw.1 _ pp.2.1), b.2.2.gp (nw.1 _ pp.2.2)⟩ ⟨m1, m2⟩ ⟨by omega, by omega, by omega, by omega⟩ fun q hq => absurd hq (Nat.not_lt_zero q)
  simp only [ng, List.all_cons, List.all_nil, Bool.and_eq_true, Bool.and_true] at D ⊢
  simp only [D, and_self]
/-- the second law -/
theorem beg_100 {t0 : Nat} (cn : 2 ≤ N ∧ N ≤ 6) (hM : M ≤ 260) (rr : 10000 ≤ G ∧ 10000 ≤ L ∧ 10000 ≤ Mr) (nn : G ≠ L ∧ G ≠ Mr ∧ L ≠ Mr) (n3 : ngv a3 = true) (kk : ∀ (h' : Hp) (d' : Nat → Nat → Int) (t' : Nat), ZZ g M kc ku N d' t' h' → t' ≤ t0 + 9100 → P (.int (I 1)) h') (D : ng [a3, a7, a8, a9, a10, a11, a12, a13, a14, a15, a16, a17, a18, a19, a20, a21, a22, a23, a24, a25, a26, a27] = true) (ht : t + 27 ≤ t0) (hd : d 0 1 = 0 ∧ d 0 2 = 0 ∧ d 0 3 = 1 ∧ d 0 4 = 0) (z : ZZ g M kc ku N d t h) (b : AG N d G h ∧ AL d 0 L h) (tm : tg h Mr = 20 ∧ ln h Mr = 19) (pp : G < 10000 + ck h ∧ L < 10000 + ck h ∧ Mr < 10000 + ck h) :
    R 99 100 [.ref 502, .ref 0, .ref G, a3, .int (I (N : Nat)), .ref L, .ref Mr, a7, a8, a9, a10, a11, a12, a13, a14, a15, a16, a17, a18, a19, a20, a21, a22, a23, a24, a25, a26, a27] [.int (I 0)] h P := by
  have nG := nv rr.1
  have nL := nv rr.2.1
  have nM := nv rr.2.2
  have lb0 : LB d 0 := (z.rx.1.2.2.2.2.2.2.2 0 (by omega)).2.2.1
  refine t_L_law_100 ⟨by decide, fun _ => ?_, fun w => absurd rfl w⟩
  refine R.up (s_Lcauses hM (f := 7) (by decide) z rr.2.2 tm.1 tm.2 fun h1 d1 t1 z1 ht1 de1 e10 e11 f1 ac1 c1 cm1 => t_L_law_114 ?_)
  have cb := cCn_bd g M 7
  have hd1 : d1 0 1 = 0 ∧ d1 0 2 = 0 ∧ d1 0 3 = 1 ∧ d1 0 4 = 0 := by
    rw [de1.2 1 (by decide), de1.2 2 (by decide), de1.2 3 (by decide), de1.2 4 (by decide)]
    exact hd
  have b1 : AG N d1 G h1 ∧ AL d1 0 L h1 := ⟨(b.1.gp (f1 G rr.1 nn.2.1)).cg de1.1, (b.2.gp (f1 L rr.2.1 nn.2.2)).cg de1.1⟩
  have lb1 : LB d1 0 := (z1.rx.1.2.2.2.2.2.2.2 0 (by omega)).2.2.1
  obtain ⟨v1, v2⟩ := law_ok e10 e11 c1 (cLt_bd g M 7) (cNm_bd g M 7) (cHd_bd g M 7) cb.1 (by omega)
  refine ⟨by omega, fun q => absurd q (by omega), fun _ => ⟨okg_i rfl rfl rfl rfl (ng_ok rfl ?_), z1.rx.S.t0, R.up (s_law z1.rx z1.tz (by decide) (by decide) (by decide) (by omega) fun h2 kl2 cm2 => t_L_law_131 ?_)⟩⟩
  · simp only [ng, List.all_cons, List.all_nil, Bool.and_eq_true, Bool.and_true] at D ⊢
    simp only [D, ngv_i, ngv_0, ngv_5, nG, nL, nM, and_self]
  rw [v1, hd1.2.2.1]
  rw [v2, hd1.2.2.1] at kl2
  have z2 := z1.x kl2 cm2
  have gx : ∀ r, 10000 ≤ r → Gp h1 h2 r := fun r hr => kl2.2.1.p (X4_n (by omega))
  have al1 := law_al (d' := nlD (up d1 0 7 0) 1 (celH (up d1 0 7 0) 1 0) (cCn g M 7)) c1 (cLt_bd g M 7) rfl (ac1.gp (gx Mr rr.2.2))
  have le0 : Le (up d1 0 7 0) (nlD (up d1 0 7 0) 1 (celH (up d1 0 7 0) 1 0) (cCn g M 7)) 0 := nlD_le cb.1.2 (by decide)
  have de7 : ∀ f, 1 ≤ f → f ≤ 9 → up d1 0 7 0 f = d1 f := fun f h1 h2 => up_f (by omega)
  have lb7 : LB (up d1 0 7 0) 0 := by
    unfold LB
    rw [de7 4 (by decide) (by decide), de7 5 (by decide) (by decide), de7 6 (by decide) (by decide), de7 7 (by decide) (by decide)]
    exact lb1
  have al0 : AL (nlD (up d1 0 7 0) 1 (celH (up d1 0 7 0) 1 0) (cCn g M 7)) 0 L h2 := ((b1.2.gp (gx L rr.2.1)).cg de7).le le0 lb7
  have ag0 : AG N (nlD (up d1 0 7 0) 1 (celH (up d1 0 7 0) 1 0) (cCn g M 7)) G h2 := by
    have q := (b1.1.gp (gx G rr.1)).cg de7
    unfold AG at q ⊢
    rw [le0.1, le0.2.1, le0.2.2.1]
    exact q
  have hd2 : nlD (up d1 0 7 0) 1 (celH (up d1 0 7 0) 1 0) (cCn g M 7) 0 1 = 0 ∧ nlD (up d1 0 7 0) 1 (celH (up d1 0 7 0) 1 0) (cCn g M 7) 0 2 = 0 ∧ nlD (up d1 0 7 0) 1 (celH (up d1 0 7 0) 1 0) (cCn g M 7) 0 3 = 2 ∧ nlD (up d1 0 7 0) 1 (celH (up d1 0 7 0) 1 0) (cCn g M 7) 0 4 = 0 := by
    refine ⟨?_, ?_, ?_, ?_⟩
    · rw [nlD_0 (by decide), up_ne (by omega)]; exact hd1.1
    · rw [nlD_0 (by decide), up_ne (by omega)]; exact hd1.2.1
    · rw [nlD_03, up_ne (by omega), hd1.2.2.1]; rfl
    · rw [nlD_0 (by decide), up_ne (by omega)]; exact hd1.2.2.2
  have z2 : ZZ g M kc ku N (nlD (up d1 0 7 0) 1 (celH (up d1 0 7 0) 1 0) (cCn g M 7)) (t1 + 1) h2 := z2
  generalize nlD (up d1 0 7 0) 1 (celH (up d1 0 7 0) 1 0) (cCn g M 7) = d2 at *
  have e5 : manyA N d2 5 = 0 := by
    show (if d2 0 3 = 0 then -9 else d2 0 4) = 0
    rw [if_neg (by omega)]
    exact hd2.2.2.2
  refine ⟨by decide, fun _ => ⟨z2.rx.S.t0, s_many z2.rx (by decide) (t_L_law_140 ?_)⟩, fun w => absurd rfl w⟩
  rw [e5]
  have e1 : manyA N d2 1 = (fct N : Nat) := by
    show ((lies N : Nat) : Int) = _
    rw [lies_pos cn.1]
  refine ⟨by decide, fun _ => ⟨z2.rx.S.t0, s_many z2.rx (by decide) ?_⟩, fun w => absurd rfl w⟩
  rw [e1]
  exact beg_150 (t0 := t0) cn hM rr nn n3 rfl kk (by
    simp only [ng, List.all_cons, List.all_nil, Bool.and_eq_true, Bool.and_true] at D ⊢
    simp only [D, ngv_i, and_self]) (by omega) hd2 z2 ⟨ag0, al0, al1⟩ ⟨by omega, by omega, by omega⟩
end BEGIN
