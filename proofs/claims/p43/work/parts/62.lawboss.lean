/-! How soon it is on top, by which cause; another law. -/
section BOSSQ
variable {g : Int → Int} {M kc ku N G L Mr W Q : Nat} {d : Nat → Nat → Int} {t fo r : Nat} {h h1 : Hp} {P : Value → Hp → Prop} {a3 a7 a12 a13 a14 a15 a16 a17 a18 a19 a20 a21 a22 a23 a24 a25 a26 a27 : Value} {x hd sh : Int} {tn : Nat}
theorem l_soon (c : CS M N G L Mr W) (hh : rng hd) (a : MS g M kc ku N G L Mr W d t fo r h) {y : Nat} (hy : y < fct N) {gr lo : Int} (hg : rng gr) (hlo : rng lo) (kk : ∀ h', MS g M kc ku N G L Mr W d (t + 100) fo r h' → P (.int (I (cnt9 (fstV (fh d N fo hd lo) (topQ N gr) y)))) h') : R 97 0 [.ref G, .ref L, .int (I lo), .int (I gr), .int (I (y : Nat)), .int (I hd), .retAddr 0, .retAddr 0, .retAddr 0] [] h P := by
  obtain ⟨cn, hM, ⟨r1, r2, r3, r4⟩, -⟩ := id c
  obtain ⟨p1, p2, p3, p4⟩ := a.2.2.2.2
  exact s_Lsoon cn a.gb (a.lb a.fo1) hh hlo hg a.z.fz ⟨r1, p1⟩ ⟨r2, p2⟩ a.ag a.al hy fun h' nw => kk h' (a.nw nw)
theorem seg_1109 (c : CS M N G L Mr W) (hh : 1 ≤ hd ∧ hd ≤ 3) {gr : Int} (hgr : 0 ≤ gr ∧ gr < (N : Nat)) {y : Nat} (hy : (((d 0 1).toNat : Nat) : Int) = (y : Nat)) (hy2 : y < fct N) {so : Int} (eso : so = cnt9 (fstV (fh d N fo hd (-9)) (topQ N gr) y)) {t0 : Nat}
    (kk : ∀ (h' : Hp) (t' : Nat) (v : Int) (a13 a14 a15 a16 a17 a18 a19 a20 a21 a22 a24 a25 a26 a27 : Value), rng v → MS g M kc ku N G L Mr W d t' fo r h' → t' ≤ t0 + 601 → ng [a3, a7, a13, a14, a15, a16, a17, a18, a19, a20, a21, a22, a24, a25, a26, a27] = true → R 99 1190 [.ref 502, .ref 0, .ref G, a3, .int (I (N : Nat)), .ref L, .ref Mr, a7, .int (I (fct N : Nat)), .ref W, .int (I sh), .int (I (tn : Nat)), .int (I x), a13, a14, a15, a16, a17, a18, a19, a20, a21, a22, .int (I v), a24, a25, a26, a27] [.int (I v)] h' P) : ∀ (j k : Nat) (h : Hp) (t : Nat) (most best : Int) (a13 a16 a17 a18 a19 a20 a26 a27 : Value), ng [a3, a7, a13, a16, a17, a18, a19, a20, a26, a27] = true → (k : Int) + j = d 4 fo → t ≤ t0 + 100 * k → (0 ≤ most ∧ most ≤ 9999) → rng best → bsg (bossF N d fo hd gr y) so (d 4 fo).toNat 0 0 (-9) = bsg (bossF N d fo hd gr y) so j k most best → MS g M kc ku N G L Mr W d t fo r h →
    R 99 1109 [.ref 502, .ref 0, .ref G, a3, .int (I (N : Nat)), .ref L, .ref Mr, a7, .int (I (fct N : Nat)), .ref W, .int (I sh), .int (I (tn : Nat)), .int (I x), a13, .int (I hd), .int (I (y : Nat)), a16, a17, a18, a19, a20, .int (I gr), .int (I so), .int (I best), .int (I most), .int (I (k : Nat)), a26, a27] [] h P := by
  obtain ⟨cn, hM, ⟨r1, r2, r3, r4⟩, n1, n2, n3, n4, n5, n6⟩ := id c
  have cn7 : 2 ≤ N ∧ N ≤ 7 := ⟨cn.1, by omega⟩
  have nG := nv r1
  have nL := nv r2
  have nM := nv r3
  have nW := nv r4
  have sb := cnt9_bd (d := d) (l := fo) (hd := hd) (lo := -9) (g := gr) cn7 hy2
  rw [← eso] at sb
  intro j
  induction j with
  | zero =>
    intro k h t most best a13 a16 a17 a18 a19 a20 a26 a27 D hk ht hm rb eb a
    obtain ⟨⟨lt, ll⟩, l0, la⟩ := id a.al
    obtain ⟨l1, l2, l3, l4⟩ := a.lie c
    have lb := (a.lb a.fo1).1
    have e4 : (d 0 4).toNat = fo := by have := a.2.1.2; omega
    have e3 : ¬ d 0 3 = 0 := by have := a.2.1.1; omega
    have eS : soonA N d gr (y : Nat) hd = fstV (fh d N fo hd (-9)) (topQ N gr) y := by
      unfold soonA
      rw [if_neg (by omega), if_neg (by omega), if_neg e3, e4, Int.toNat_natCast]
    have fb := fstV_bd (d := d) (l := fo) (hd := hd) (lo := -9) (Q := topQ N gr) cn7 hy2
    have eB : bossA N d gr (y : Nat) hd = best := by
      unfold bossA
      rw [eS, if_neg (by omega), e4, Int.toNat_natCast, ← eso, eb]
      rfl
    refine t_L_law_1109 ?_
    rw [l0, ll]
    refine ⟨Or.inl lt, by omega, by omega, by omega, by omega, fun z => absurd z (by omega), fun _ => ⟨(okg_i rfl rfl rfl rfl (ng_ok rfl (by simp only [ng, List.all_cons, List.all_nil, Bool.and_eq_true, Bool.and_true] at D ⊢; simp only [D, ngv_i, ngv_0, ngv_5, nG, nL, nM, nW, and_self]))), a.x.S.t0, s_boss a.x (by omega) (by omega) (by omega) fun h' k1 => ?_⟩⟩
    rw [eB]
    exact kk h' (t + 1) best _ _ _ _ _ _ _ _ _ _ _ _ _ _ rb (a.k0 c k1) (by omega) (by simp only [ng, List.all_cons, List.all_nil, Bool.and_eq_true, Bool.and_true] at D ⊢; simp only [D, ngv_i, ngv_0, ngv_5, nG, nL, nM, nW, and_self])
  | succ j ih =>
    intro k h t most best a13 a16 a17 a18 a19 a20 a26 a27 D hk ht hm rb eb a
    obtain ⟨⟨lt, ll⟩, l0, la⟩ := id a.al
    have lb := (a.lb a.fo1).1
    refine t_L_law_1109 ?_
    rw [l0, ll]
    refine ⟨Or.inl lt, by omega, by omega, by omega, by omega, fun _ => ⟨(okg_i rfl rfl rfl rfl (ng_ok rfl (by simp only [ng, List.all_cons, List.all_nil, Bool.and_eq_true, Bool.and_true] at D ⊢; simp only [D, ngv_i, ngv_0, ngv_5, nG, nL, nM, nW, and_self]))), l_soon c (by omega) a hy2 (by omega) (by omega) fun h' a' => ?_⟩, fun z => absurd (by omega) z⟩
    have fbd := cnt9_bd (d := d) (l := fo) (hd := hd) (lo := (k : Nat)) (g := gr) cn7 hy2
    rw [bsg] at eb
    have eF : bossF N d fo hd gr y k = cnt9 (fstV (fh d N fo hd (k : Nat)) (topQ N gr) y) := rfl
    generalize cnt9 (fstV (fh d N fo hd (k : Nat)) (topQ N gr) y) = fv at *
    rw [eF] at eb
    have nx : ∀ (by_ : Int) (a26 : Value), ngv a26 = true → by_ = ab (fv - so) → R 99 1154 [.ref 502, .ref 0, .ref G, a3, .int (I (N : Nat)), .ref L, .ref Mr, a7, .int (I (fct N : Nat)), .ref W, .int (I sh), .int (I (tn : Nat)), .int (I x), a13, .int (I hd), .int (I (y : Nat)), a16, a17, a18, a19, a20, .int (I gr), .int (I so), .int (I best), .int (I most), .int (I (k : Nat)), a26, a27] [.int (I by_)] h' P := fun by_ a26 n26 eby => by
      have bb : 0 ≤ by_ ∧ by_ ≤ 9999 := by
        rw [eby]
        unfold ab
        split <;> omega
      rw [← eby] at eb
      refine t_L_law_1154 ⟨by omega, by omega, fun z => t_L_law_1174 ?_, fun z => t_L_law_1174 ?_⟩
      · rw [if_pos z] at eb
        refine ih (k + 1) h' (t + 100) by_ (k : Nat) a13 a16 a17 a18 a19 a20 a26 _ ?_ (by omega) (by omega) bb (by omega) eb a'
        simp only [ng, List.all_cons, List.all_nil, Bool.and_eq_true, Bool.and_true] at D ⊢
        simp only [D, n26, ngv_i, and_self]
      · rw [if_neg z] at eb
        refine ih (k + 1) h' (t + 100) most best a13 a16 a17 a18 a19 a20 a26 _ ?_ (by omega) (by omega) hm rb eb a'
        simp only [ng, List.all_cons, List.all_nil, Bool.and_eq_true, Bool.and_true] at D ⊢
        simp only [D, n26, ngv_i, and_self]
    refine t_L_law_1132 ⟨by omega, by omega, fun z => nx _ _ rfl ?_, fun z => nx _ _ rfl ?_⟩
    · unfold ab; rw [if_neg (by omega)]
    · unfold ab
      by_cases w : fv - so < 0
      · rw [if_pos w]; omega
      · rw [if_neg w]; omega
theorem seg_1249 (c : CS M N G L Mr W) {h0 : Hp} (z0 : AG N d G h0 ∧ AL d fo L h0 ∧ AL d (1 - fo) Mr h0 ∧ AR N r W h0) (ok : okRow N r) (hfo : fo ≤ 1) (hd3 : d 0 3 = 2 ∧ d 0 4 = (1 - fo : Nat))
    (kk : ∀ (h' : Hp) (a12 a13 a14 a15 a16 a17 a18 a19 a20 a21 a22 a23 a24 a25 a26 a27 : Value), MS g M kc ku N G L Mr W d t (1 - fo) r h' → ng [a3, a7, a12, a13, a14, a15, a16, a17, a18, a19, a20, a21, a22, a23, a24, a25, a26, a27] = true → R 99 1286 [.ref 502, .ref 0, .ref G, a3, .int (I (N : Nat)), .ref L, .ref Mr, a7, .int (I (fct N : Nat)), .ref W, .int (I sh), .int (I (tn : Nat)), a12, a13, a14, a15, a16, a17, a18, a19, a20, a21, a22, a23, a24, a25, a26, a27] [] h' P) (pp : G < 10000 + ck h0 ∧ L < 10000 + ck h0 ∧ Mr < 10000 + ck h0 ∧ W < 10000 + ck h0) : ∀ (j k : Nat) (h : Hp) (a12 a13 a14 a15 a16 a17 a18 a19 a20 a21 a22 a23 a24 a25 a27 : Value), ng [a3, a7, a12, a13, a14, a15, a16, a17, a18, a19, a20, a21, a22, a23, a24, a25, a27] = true → k + j = 19 → ZZ g M kc ku N d t h → ck h = ck h0 → (∀ z, z ≠ L → z ≠ Mr → Gp h0 h z) → (tg h L = 20 ∧ ln h L = 19 ∧ tg h Mr = 20 ∧ ln h Mr = 19) → (∀ z : Nat, (z < k → iv h L (z : Nat) = wr (iv h0 Mr (z : Nat)) ∧ iv h Mr (z : Nat) = wr (iv h0 L (z : Nat))) ∧ (k ≤ z → iv h L (z : Nat) = iv h0 L (z : Nat) ∧ iv h Mr (z : Nat) = iv h0 Mr (z : Nat))) →
    R 99 1249 [.ref 502, .ref 0, .ref G, a3, .int (I (N : Nat)), .ref L, .ref Mr, a7, .int (I (fct N : Nat)), .ref W, .int (I sh), .int (I (tn : Nat)), a12, a13, a14, a15, a16, a17, a18, a19, a20, a21, a22, a23, a24, a25, .int (I (k : Nat)), a27] [] h P := by
  obtain ⟨cn, hM, ⟨r1, r2, r3, r4⟩, n1, n2, n3, n4, n5, n6⟩ := id c
  obtain ⟨b1, b2, b3, b4⟩ := z0
  intro j
  induction j with
  | zero =>
    intro k h a12 a13 a14 a15 a16 a17 a18 a19 a20 a21 a22 a23 a24 a25 a27 D hk z ec gp ⟨t1, t2, t3, t4⟩ hv
    obtain rfl : k = 19 := by omega
    have sw : ∀ {l : Nat} {A B : Nat}, l ≤ 1 → AL d l B h0 → tg h A = 20 → ln h A = 19 → (∀ z : Nat, z < 19 → iv h A (z : Nat) = wr (iv h0 B (z : Nat))) → AL d l A h := fun {l A B} hl al ta la he => by
      obtain ⟨-, u2, u3⟩ := al
      obtain ⟨v1, v2⟩ := (z.rx.1.2.2.2.2.2.2.2 l (by omega)).2.2.1
      refine ⟨⟨ta, la⟩, ?_, fun c hc => ?_⟩
      · have := he 0 (by omega)
        rw [show ((0 : Nat) : Int) = 0 from rfl, u2, wr_eq (by omega)] at this
        exact this
      · obtain ⟨w5, w6, w7⟩ := u3 c hc
        obtain ⟨y5, y6, y7⟩ := v2 c (by omega) hc
        have q1 := he (1 + 3 * c) (by omega)
        have q2 := he (2 + 3 * c) (by omega)
        have q3 := he (3 + 3 * c) (by omega)
        have i1 : ((1 + 3 * c : Nat) : Int) = 1 + 3 * (c : Int) := by omega
        have i2 : ((2 + 3 * c : Nat) : Int) = 2 + 3 * (c : Int) := by omega
        have i3 : ((3 + 3 * c : Nat) : Int) = 3 + 3 * (c : Int) := by omega
        rw [i1, w5, wr_eq (by omega)] at q1
        rw [i2, w6, wr_eq (by omega)] at q2
        rw [i3, w7, wr_eq (by omega)] at q3
        exact ⟨q1, q2, q3⟩
    have al1 : AL d (1 - fo) L h := sw (by omega) b3 t1 t2 fun z hz => ((hv z).1 hz).1
    have al2 : AL d fo Mr h := sw (by omega) b2 t3 t4 fun z hz => ((hv z).1 hz).2
    refine t_L_law_1249 ⟨by omega, fun z => absurd z (by omega), fun _ => kk h _ _ _ _ _ _ _ _ _ _ _ _ _ _ _ _ ⟨z, hd3, ⟨b1.gp (gp G n1 n2), al1, ?_, b4.gp (gp W (Ne.symm n5) (Ne.symm n6))⟩, ok, by rw [ec]; exact pp⟩ ?_⟩
    · rw [show 1 - (1 - fo) = fo by omega]; exact al2
    · simp only [ng, List.all_cons, List.all_nil, Bool.and_eq_true, Bool.and_true] at D ⊢
      simp only [D, ngv_i, and_self]
  | succ j ih =>
    intro k h a12 a13 a14 a15 a16 a17 a18 a19 a20 a21 a22 a23 a24 a25 a27 D hk z ec gp ⟨t1, t2, t3, t4⟩ hv
    obtain ⟨e1, e2⟩ := (hv k).2 (Nat.le_refl _)
    have f1 : Fr (fun q => q == L) h (setI h L (k : Nat) (wr (iv h Mr (k : Nat)))) := Fr.set (S := fun q => q == L) h _ _ (beq_self_eq_true L)
    have f2 : Fr (fun q => q == Mr) (setI h L (k : Nat) (wr (iv h Mr (k : Nat)))) (setI (setI h L (k : Nat) (wr (iv h Mr (k : Nat)))) Mr (k : Nat) (wr (iv h L (k : Nat)))) := Fr.set (S := fun q => q == Mr) _ _ _ (beq_self_eq_true Mr)
    refine t_L_law_1249 ?_
    rw [t2, t4]
    refine ⟨by omega, fun _ => ⟨Or.inl t1, by omega, by omega, by omega, Or.inl t3, by omega, by omega, by omega, t1, by omega, by omega, by omega, t3, ?_, by omega, ?_, ?_⟩, fun z => absurd (by omega) z⟩
    · show ((ln h Mr : Nat) : Int) ≤ _; omega
    · show _ < ((ln h Mr : Nat) : Int); omega
    refine ih (k + 1) _ a12 a13 a14 a15 a16 a17 a18 a19 a20 a21 a22 a23 a24 a25 _ ?_ (by omega) ((z.o f1 r2).o f2 r3) (by rw [f2.c.1, f1.c.1]; exact ec) (fun z h1 h2 => ((gp z h1 h2).tr (f1.gp1 h1)).tr (f2.gp1 h2)) ⟨t1, t2, t3, t4⟩ fun z => ?_
    · simp only [ng, List.all_cons, List.all_nil, Bool.and_eq_true, Bool.and_true] at D ⊢
      simp only [D, ngv_i, and_self]
    · by_cases w : z = k
      · rw [w]
        refine ⟨fun _ => ⟨?_, ?_⟩, fun q => absurd q (by omega)⟩
        · rw [iv_ne n4, iv_eq, e2]
        · rw [iv_eq, e1]
      · obtain ⟨y1, y2⟩ := hv z
        rw [iv_ne n4, iv_nk (by omega), iv_nk (by omega), iv_ne (Ne.symm n4)]
        exact ⟨fun q => y1 (by omega), fun q => y2 (by omega)⟩
theorem seg_1051 (c : CS M N G L Mr W) (hh : 1 ≤ hd ∧ hd ≤ 3) (a : MS g M kc ku N G L Mr W d t fo (rw_ N (d 0 1).toNat) h) {gr : Int} (hgr : 0 ≤ gr ∧ gr < (N : Nat)) (hq : ngv a16 = true) (D : ng [a3, a7, a13, a17, a18, a19, a20, a21, a22, a23, a24, a25, a26, a27] = true)
    (kk : ∀ (h' : Hp) (d' : Nat → Nat → Int) (t' fo' : Nat) (a12 a13 a14 a15 a16 a17 a18 a19 a20 a21 a22 a23 a24 a25 a26 a27 : Value), MS g M kc ku N G L Mr W d' t' fo' (rw_ N (d' 0 1).toNat) h' → d' 0 2 = d 0 2 → t' ≤ t + 703 → ng [a3, a7, a12, a13, a14, a15, a16, a17, a18, a19, a20, a21, a22, a23, a24, a25, a26, a27] = true → R 99 1286 [.ref 502, .ref 0, .ref G, a3, .int (I (N : Nat)), .ref L, .ref Mr, a7, .int (I (fct N : Nat)), .ref W, .int (I sh), .int (I (tn : Nat)), a12, a13, a14, a15, a16, a17, a18, a19, a20, a21, a22, a23, a24, a25, a26, a27] [] h' P) :
    R 99 1051 [.ref 502, .ref 0, .ref G, a3, .int (I (N : Nat)), .ref L, .ref Mr, a7, .int (I (fct N : Nat)), .ref W, .int (I sh), .int (I (tn : Nat)), .int (I x), a13, .int (I hd), .int (I ((d 0 1).toNat : Nat)), a16, a17, a18, a19, a20, a21, a22, a23, a24, a25, a26, a27] [.int (I gr)] h P := by
  obtain ⟨cn, hM, ⟨r1, r2, r3, r4⟩, n1, n2, n3, n4, n5, n6⟩ := id c
  have cn7 : 2 ≤ N ∧ N ≤ 7 := ⟨cn.1, by omega⟩
  have nG := nv r1
  have nL := nv r2
  have nM := nv r3
  have nW := nv r4
  obtain ⟨lx, lx2⟩ := a.lx c
  obtain ⟨l1, l2, l3, l4⟩ := a.lie c
  have fo1 := a.fo1
  have e4 : (d 0 4).toNat = fo := by have := a.2.1.2; omega
  have e3 : ¬ d 0 3 = 0 := by have := a.2.1.1; omega
  have eS : soonA N d gr ((d 0 1).toNat : Nat) hd = fstV (fh d N fo hd (-9)) (topQ N gr) (d 0 1).toNat := by
    unfold soonA
    rw [if_neg (by omega), if_neg (by omega), if_neg e3, e4, Int.toNat_natCast]
  have fb := fstV_bd (d := d) (l := fo) (hd := hd) (lo := -9) (Q := topQ N gr) cn7 lx
  have lb := (a.lb fo1).1
  have OKD : ∀ (s : Int), ng [.ref 502, .ref 0, .ref G, a3, .int (I (N : Nat)), .ref L, .ref Mr, a7, .int (I (fct N : Nat)), .ref W, .int (I sh), .int (I (tn : Nat)), .int (I x), a13, .int (I hd), .int (I ((d 0 1).toNat : Nat)), a16, a17, a18, a19, a20, .int (I gr), a22, a23, a24, a25, a26, a27] = true ∧ ng [.ref 502, .ref 0, .ref G, a3, .int (I (N : Nat)), .ref L, .ref Mr, a7, .int (I (fct N : Nat)), .ref W, .int (I sh), .int (I (tn : Nat)), .int (I x), a13, .int (I hd), .int (I ((d 0 1).toNat : Nat)), a16, a17, a18, a19, a20, .int (I gr), .int (I s), a23, a24, a25, a26, a27] = true := fun s => by
    simp only [ng, List.all_cons, List.all_nil, Bool.and_eq_true, Bool.and_true] at D ⊢
    simp only [D, hq, ngv_i, ngv_0, ngv_5, nG, nL, nM, nW, and_self]
  refine t_L_law_1051 ⟨okg_i rfl rfl rfl rfl (ng_ok rfl (OKD 0).1), l_soon c (by omega) a lx (by omega) (by decide) fun h1 a1 => t_L_law_1067 ⟨okg_i rfl rfl rfl rfl (ng_ok rfl (OKD _).2), a1.x.S.t0, s_soon a1.x (by omega) (by omega) (by omega) fun h2 k2 => t_L_law_1079 ?_⟩⟩
  have a2 := a1.k0 c k2
  rw [eS]
  have f1109 : R 99 1109 [.ref 502, .ref 0, .ref G, a3, .int (I (N : Nat)), .ref L, .ref Mr, a7, .int (I (fct N : Nat)), .ref W, .int (I sh), .int (I (tn : Nat)), .int (I x), a13, .int (I hd), .int (I ((d 0 1).toNat : Nat)), a16, a17, a18, a19, a20, .int (I gr), .int (I (cnt9 (fstV (fh d N fo hd (-9)) (topQ N gr) (d 0 1).toNat))), .int (I (-9)), .int (I 0), .int (I 0), a26, a27] [] h2 P := by
    refine seg_1109 c hh hgr (y := (d 0 1).toNat) rfl lx rfl (t0 := t + 101) (fun h3 t3 v a13 a14 a15 a16 a17 a18 a19 a20 a21 a22 a24 a25 a26 a27 rv a3' ht3 D3 => t_L_law_1190 ⟨rv, rv, fun _ => s_some (by decide) (t_L_law_1206 ?_), fun w => absurd rfl w⟩) (d 4 fo).toNat 0 h2 (t + 101) 0 (-9) a13 a16 a17 a18 a19 a20 a26 a27 ?_ (by omega) (by omega) (by decide) (by decide) rfl a2
    · have sb := smv_bd (shr x 18) (m := 5) (by decide)
      refine ⟨by omega, fun _ => kk h3 d t3 fo _ _ _ _ _ _ _ _ _ _ _ _ _ _ _ _ a3' rfl (by omega) ?_, fun _ => ⟨a3'.x.S.t0, s_many a3'.x (by decide) (t_L_law_1217 ?_)⟩⟩
      · simp only [ng, List.all_cons, List.all_nil, Bool.and_eq_true, Bool.and_true] at D3 ⊢
        simp only [D3, ngv_i, and_self]
      have eM : manyA N d 5 = (fo : Nat) := by
        show (if d 0 3 = 0 then -9 else d 0 4) = _
        rw [if_neg e3]
        exact a.2.1.2
      rw [eM]
      refine ⟨a3'.x.S.t0, s_use a3'.x (by omega) (fun z => by have := a.2.1.1; omega) fun _ h4 k4 => t_L_law_1227 ?_⟩
      have ek : (1 : Int) - (fo : Nat) = ((1 - fo : Nat) : Int) := by omega
      have x4 := k4.1
      rw [a.2.1.2]
      refine ⟨by omega, by omega, fun _ => ⟨x4.S.t0, s_many x4 (by decide) (t_L_law_1237 ?_)⟩, fun w => absurd rfl w⟩
      have e03 : up d 0 4 (1 - (fo : Int)) 0 3 = 2 := by rw [up_ne (by omega)]; exact a.2.1.1
      have eM2 : manyA N (up d 0 4 (1 - (fo : Int))) 5 = 1 - (fo : Int) := by
        show (if up d 0 4 (1 - (fo : Int)) 0 3 = 0 then -9 else up d 0 4 (1 - (fo : Int)) 0 4) = _
        rw [if_neg (by omega), up_at]
      rw [eM2]
      refine ⟨by omega, by omega, fun _ => ?_, fun w => absurd rfl w⟩
      obtain ⟨m1, m2, ⟨m3, m4, m5, m6⟩, m7, p1, p2, p3, p4⟩ := a3'
      have gx : ∀ z, 10000 ≤ z → Gp h3 h4 z := fun z hz => k4.2.1.p (X4_n (by omega))
      have cm := k4.c
      have de : ∀ f, 1 ≤ f → f ≤ 9 → up d 0 4 (1 - (fo : Int)) f = d f := fun f h1 h2 => up_f (by omega)
      have z4 := m1.k k4 (up_ne (by omega))
      have al3 := (m4.gp (gx L r2)).cg de
      have al4 := (m5.gp (gx Mr r3)).cg de
      refine seg_1249 c (h0 := h4) (fo := fo) (r := rw_ N (d 0 1).toNat) (d := up d 0 4 (1 - (fo : Int))) (t := t3 + 1) ⟨(m3.gp (gx G r1)).cg de, al3, al4, m6.gp (gx W r4)⟩ m7 fo1 ⟨e03, by rw [up_at]; omega⟩ (fun h5 a12 a13 a14 a15 a16 a17 a18 a19 a20 a21 a22 a23 a24 a25 a26 a27 ms5 D5 => kk h5 (up d 0 4 (1 - (fo : Int))) (t3 + 1) (1 - fo) _ _ _ _ _ _ _ _ _ _ _ _ _ _ _ _ ?_ (up_ne (by omega)) (by omega) D5) ⟨by omega, by omega, by omega, by omega⟩ 19 0 h4 _ _ _ _ _ _ _ _ _ _ _ _ _ _ _ ?_ (by omega) z4 rfl (fun z _ _ => Gp.rf _ _) ⟨al3.1.1, al3.1.2, al4.1.1, al4.1.2⟩ fun z => ⟨fun q => absurd q (Nat.not_lt_zero z), fun _ => ⟨rfl, rfl⟩⟩
      · rw [up_ne (by omega)]; exact ms5
      · simp only [ng, List.all_cons, List.all_nil, Bool.and_eq_true, Bool.and_true] at D3 ⊢
        simp only [D3, ngv_i, and_self]
    · simp only [ng, List.all_cons, List.all_nil, Bool.and_eq_true, Bool.and_true] at D ⊢
      simp only [D, hq, and_self]
  have cb := cnt9_bd (d := d) (l := fo) (hd := hd) (lo := -9) (g := gr) cn7 lx
  have cc : cnt9 (fstV (fh d N fo hd (-9)) (topQ N gr) (d 0 1).toNat) = if fstV (fh d N fo hd (-9)) (topQ N gr) (d 0 1).toNat = -9 then 9999 else fstV (fh d N fo hd (-9)) (topQ N gr) (d 0 1).toNat := rfl
  by_cases w9 : fstV (fh d N fo hd (-9)) (topQ N gr) (d 0 1).toNat = -9
  · rw [if_pos w9] at cc
    refine ⟨by omega, fun _ => t_L_law_1094 ⟨by omega, by omega, fun _ => f1109, fun w => absurd w9 w⟩, fun z => absurd cc z⟩
  · rw [if_neg w9] at cc
    refine ⟨by omega, fun z => absurd z (by omega), fun _ => t_L_law_1094 ⟨by omega, by omega, fun _ => f1109, fun w => absurd cc.symm w⟩⟩
end BOSSQ
