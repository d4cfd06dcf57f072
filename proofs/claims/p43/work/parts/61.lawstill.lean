/-! Where it goes; when it is still, how long it goes round. -/
section STILLQ
variable {g : Int → Int} {M kc ku N G L Mr W Q : Nat} {d : Nat → Nat → Int} {t fo r : Nat} {h h1 : Hp} {P : Value → Hp → Prop} {a3 a7 a12 a13 a14 a15 a16 a17 a18 a19 a20 a21 a22 a23 a24 a25 a26 a27 : Value} {x hd sh : Int} {tn : Nat}
def QS (G L Mr W Q : Nat) : Prop := 10000 ≤ Q ∧ G ≠ Q ∧ L ≠ Q ∧ Mr ≠ Q ∧ W ≠ Q
theorem q_shake (c : CS M N G L Mr W) (hq : QS G L Mr W Q) (a : MS g M kc ku N G L Mr W d t fo r h) {y : Nat} (hy : y < fct N) (ar : AR N (rw_ N y) Q h) {hard : Int} (hh : rng hard) (kk : ∀ h', MS g M kc ku N G L Mr W d t fo r h' → AR N (rw_ N (fh d N fo hard (-9) y)) Q h' → ck h' = ck h → P (.int (I (shc (chg d fo hard (-9)) N (rw_ N y) : Nat))) h') : R 94 0 [.ref G, .ref L, .int (I (-9)), .ref Q, .int (I hard), .retAddr 0, .retAddr 0, .retAddr 0, .retAddr 0, .retAddr 0] [] h P := by
  obtain ⟨cn, -⟩ := id c
  have cn7 : 2 ≤ N ∧ N ≤ 7 := ⟨cn.1, by omega⟩
  refine s_Lshake cn7 a.gb (a.lb a.fo1) hq.2.1 hq.2.2.1 hh (by decide) a.ag a.al ⟨y, hy, rfl⟩ ar fun h' f ar' => ?_
  rw [← (fh_row cn7 hy).2] at ar'
  exact kk h' (a.q f hq) ar' f.c.1
theorem q_num (c : CS M N G L Mr W) (a : MS g M kc ku N G L Mr W d t fo r h) {y : Nat} (hy : y < fct N) (ar : AR N (rw_ N y) Q h) (kk : P (.int (I (y : Nat))) h) : R 95 0 [.ref G, .ref Q, .retAddr 0, .retAddr 0, .retAddr 0, .retAddr 0, .retAddr 0] [] h P := by
  obtain ⟨cn, -⟩ := id c
  have cn7 : 2 ≤ N ∧ N ≤ 7 := ⟨cn.1, by omega⟩
  refine s_Lnumber cn7 a.ag ar ?_
  rw [(rank_facts cn7 hy).1]
  exact kk
theorem seg_771 (c : CS M N G L Mr W) (hq : QS G L Mr W Q) (hh : 1 ≤ hd ∧ hd ≤ 3) (kk : ∀ (h' : Hp) (a17 : Value) (s0 : Int), ngv a17 = true → MS g M kc ku N G L Mr W d t fo (rw_ N (d 0 1).toNat) h' → AR N (rw_ N (fh d N fo hd (-9) (d 0 1).toNat)) Q h' → Q < 10000 + ck h' → R 99 806 [.ref 502, .ref 0, .ref G, a3, .int (I (N : Nat)), .ref L, .ref Mr, a7, .int (I (fct N : Nat)), .ref W, .int (I sh), .int (I (tn : Nat)), .int (I x), a13, .int (I hd), .int (I ((d 0 1).toNat : Nat)), .ref Q, a17, a18, a19, a20, a21, a22, a23, a24, a25, a26, a27] [.int (I s0)] h' P) : ∀ (j p : Nat) (h : Hp), p + j = 7 → MS g M kc ku N G L Mr W d t fo (rw_ N (d 0 1).toNat) h → Q < 10000 + ck h → tg h Q = 20 → ln h Q = 7 → (∀ q : Nat, q < p → q < N → iv h Q (q : Nat) = (dg (rw_ N (d 0 1).toNat) q : Nat)) →
    R 99 771 [.ref 502, .ref 0, .ref G, a3, .int (I (N : Nat)), .ref L, .ref Mr, a7, .int (I (fct N : Nat)), .ref W, .int (I sh), .int (I (tn : Nat)), .int (I x), a13, .int (I hd), .int (I ((d 0 1).toNat : Nat)), .ref Q, .int (I (p : Nat)), a18, a19, a20, a21, a22, a23, a24, a25, a26, a27] [] h P := by
  obtain ⟨cn, hM, ⟨r1, r2, r3, r4⟩, n1, n2, n3, n4, n5, n6⟩ := id c
  have cn7 : 2 ≤ N ∧ N ≤ 7 := ⟨cn.1, by omega⟩
  intro j
  induction j with
  | zero =>
    intro p h hp a hQ qt ql hv
    obtain ⟨lx, lx2⟩ := a.lx c
    refine t_L_law_771 ⟨by omega, fun z => absurd z (by omega), fun _ => q_shake c hq a lx ⟨⟨qt, ql⟩, fun q hq2 => hv q (by omega) hq2⟩ (by omega) fun h' a' ar' ec => ?_⟩
    exact kk h' _ _ rfl a' ar' (by omega)
  | succ j ih =>
    intro p h hp a hQ qt ql hv
    obtain ⟨⟨wt, wl⟩, wa⟩ := id a.ar
    have fr : Fr (fun q => q == Q) h (setI h Q (p : Nat) (wr (iv h W (p : Nat)))) := Fr.set (S := fun q => q == Q) h _ _ (beq_self_eq_true Q)
    refine t_L_law_771 ?_
    rw [wl, ql]
    refine ⟨by omega, fun _ => ⟨Or.inl wt, by omega, by omega, by omega, qt, by omega, by omega, by omega, ?_⟩, fun z => absurd (by omega) z⟩
    refine ih (p + 1) _ (by omega) (a.q fr hq) hQ qt ql fun q hq1 hqn => ?_
    by_cases z : q = p
    · have b := dg_lt (rw_ N (d 0 1).toNat) p
      rw [z, iv_eq, wa p (by omega), wr_eq (by omega)]
    · rw [iv_nk (by omega)]; exact hv q (by omega) hqn
theorem seg_888 (c : CS M N G L Mr W) (hq : QS G L Mr W Q) (hh : 1 ≤ hd ∧ hd ≤ 3) {tt ss : Nat} (hss : ss ≤ fct N) (f720 : fct N ≤ 720) (rho : Rho (fh d N fo hd (-9)) (d 0 1).toNat tt ss)
    (kk : ∀ (h' : Hp) (a13 a17 a18 a19 a20 a21 a22 a23 a24 a25 a26 a27 : Value), MS g M kc ku N G L Mr W d t fo (rw_ N (d 0 1).toNat) h' → ng [a3, a7, a13, a17, a18, a19, a20, a21, a22, a23, a24, a25, a26, a27] = true → R 99 1051 [.ref 502, .ref 0, .ref G, a3, .int (I (N : Nat)), .ref L, .ref Mr, a7, .int (I (fct N : Nat)), .ref W, .int (I sh), .int (I (tn : Nat)), .int (I x), a13, .int (I hd), .int (I ((d 0 1).toNat : Nat)), .ref Q, a17, a18, a19, a20, a21, a22, a23, a24, a25, a26, a27] [.int (I (smv (shr x 15) (N : Nat)))] h' P) : ∀ (j k : Nat) (h : Hp) (fi be : Int) (a13 a22 a23 a24 a25 a26 a27 : Value), ng [a3, a7, a13, a22, a23, a24, a25, a26, a27] = true → k + j = ss + 1 → rng fi → rng be → (tt < k → fi = (itr (fh d N fo hd (-9)) tt (d 0 1).toNat : Nat)) → (0 < tt → tt ≤ k → be = (itr (fh d N fo hd (-9)) (tt - 1) (d 0 1).toNat : Nat)) → MS g M kc ku N G L Mr W d t fo (rw_ N (d 0 1).toNat) h → AR N (rw_ N (itr (fh d N fo hd (-9)) k (d 0 1).toNat)) Q h →
    R 99 888 [.ref 502, .ref 0, .ref G, a3, .int (I (N : Nat)), .ref L, .ref Mr, a7, .int (I (fct N : Nat)), .ref W, .int (I sh), .int (I (tn : Nat)), .int (I x), a13, .int (I hd), .int (I ((d 0 1).toNat : Nat)), .ref Q, .int (I (tt : Nat)), .int (I ((ss : Int) - (tt : Nat))), .int (I fi), .int (I be), .int (I (k : Nat)), a22, a23, a24, a25, a26, a27] [] h P := by
  obtain ⟨cn, hM, ⟨r1, r2, r3, r4⟩, n1, n2, n3, n4, n5, n6⟩ := id c
  have cn7 : 2 ≤ N ∧ N ≤ 7 := ⟨cn.1, by omega⟩
  have nG := nv r1
  have nL := nv r2
  have nM := nv r3
  have nW := nv r4
  have nQ := nv hq.1
  obtain ⟨rh1, rh2, rh3⟩ := rho
  intro j
  induction j with
  | zero =>
    intro k h fi be a13 a22 a23 a24 a25 a26 a27 D hk rf rb hf hb a ar
    refine t_L_law_888 ⟨by omega, by omega, fun _ => s_some (by omega) (kk h _ _ _ _ _ _ _ _ _ _ _ _ a (by simp only [ng, List.all_cons, List.all_nil, Bool.and_eq_true, Bool.and_true] at D ⊢; simp only [D, ngv_i, ngv_0, ngv_5, nG, nL, nM, nW, nQ, and_self])), fun z => absurd (by omega) z⟩
  | succ j ih =>
    intro k h fi be a13 a22 a23 a24 a25 a26 a27 D hk rf rb hf hb a ar
    obtain ⟨lx, lx2⟩ := a.lx c
    have lt := itr_lt (fh_lt (d := d) (l := fo) (hd := hd) (lo := -9) cn7) lx
    have ltk := lt k
    have ltt := lt tt
    have ltb := lt (tt - 1)
    refine t_L_law_888 ⟨by omega, by omega, fun z => absurd z (by omega), fun _ => q_num c a ltk ar ?_⟩
    generalize hlk : itr (fh d N fo hd (-9)) k (d 0 1).toNat = lk at *
    -- the shake that ends each round of the loop
    have go : ∀ (fi be : Int), rng fi → rng be → (tt < k + 1 → fi = (itr (fh d N fo hd (-9)) tt (d 0 1).toNat : Nat)) → (0 < tt → tt ≤ k + 1 → be = (itr (fh d N fo hd (-9)) (tt - 1) (d 0 1).toNat : Nat)) → ∀ a22 : Value, ngv a22 = true → R 99 1022 [.ref 502, .ref 0, .ref G, a3, .int (I (N : Nat)), .ref L, .ref Mr, a7, .int (I (fct N : Nat)), .ref W, .int (I sh), .int (I (tn : Nat)), .int (I x), a13, .int (I hd), .int (I ((d 0 1).toNat : Nat)), .ref Q, .int (I (tt : Nat)), .int (I ((ss : Int) - (tt : Nat))), .int (I fi), .int (I be), .int (I (k : Nat)), a22, a23, a24, a25, a26, a27] [] h P := fun fi be rf rb hf hb a22 n22 => by
      refine t_L_law_1022 (q_shake c hq a (y := lk) ltk ar (by omega) fun h' a' ar' _ => t_L_law_1034 ?_)
      have ar' : AR N (rw_ N (itr (fh d N fo hd (-9)) (k + 1) (d 0 1).toNat)) Q h' := by
        show AR N (rw_ N (fh d N fo hd (-9) (itr (fh d N fo hd (-9)) k (d 0 1).toNat))) Q h'
        rw [hlk]
        exact ar'
      refine ih (k + 1) h' fi be a13 a22 a23 a24 a25 a26 a27 ?_ (by omega) rf rb hf hb a' ar'
      simp only [ng, List.all_cons, List.all_nil, Bool.and_eq_true, Bool.and_true] at D ⊢
      simp only [D, n22, and_self]
    have e991 : ∀ (fi be : Int), rng fi → rng be → (tt < k + 1 → fi = (itr (fh d N fo hd (-9)) tt (d 0 1).toNat : Nat)) → (0 < tt → tt ≤ k + 1 → be = (itr (fh d N fo hd (-9)) (tt - 1) (d 0 1).toNat : Nat)) → R 99 991 [.ref 502, .ref 0, .ref G, a3, .int (I (N : Nat)), .ref L, .ref Mr, a7, .int (I (fct N : Nat)), .ref W, .int (I sh), .int (I (tn : Nat)), .int (I x), a13, .int (I hd), .int (I ((d 0 1).toNat : Nat)), .ref Q, .int (I (tt : Nat)), .int (I ((ss : Int) - (tt : Nat))), .int (I fi), .int (I be), .int (I (k : Nat)), .int (I (lk : Nat)), a23, a24, a25, a26, a27] [] h P := fun fi be rf rb hf hb => by
      refine t_L_law_991 ⟨by omega, by omega, fun z => ⟨by omega, fun z1 => ⟨rb, fun _ => go fi be rf rb hf hb _ rfl, fun _ => ⟨by omega, rb, fun z2 => ?_, fun _ => go fi be rf rb hf hb _ rfl⟩⟩, fun _ => go fi be rf rb hf hb _ rfl⟩, fun _ => go fi be rf rb hf hb _ rfl⟩
      rw [hb (by omega) (by omega)] at z2
      have := rh3 (tt - 1) k (by omega) (by omega)
      rw [hlk] at this
      exact absurd (Int.ofNat.inj z2).symm this
    have e967 : ∀ (fi be : Int), rng fi → rng be → (tt < k + 1 → fi = (itr (fh d N fo hd (-9)) tt (d 0 1).toNat : Nat)) → (0 < tt → tt ≤ k + 1 → be = (itr (fh d N fo hd (-9)) (tt - 1) (d 0 1).toNat : Nat)) → R 99 967 [.ref 502, .ref 0, .ref G, a3, .int (I (N : Nat)), .ref L, .ref Mr, a7, .int (I (fct N : Nat)), .ref W, .int (I sh), .int (I (tn : Nat)), .int (I x), a13, .int (I hd), .int (I ((d 0 1).toNat : Nat)), .ref Q, .int (I (tt : Nat)), .int (I ((ss : Int) - (tt : Nat))), .int (I fi), .int (I be), .int (I (k : Nat)), .int (I (lk : Nat)), a23, a24, a25, a26, a27] [] h P := fun fi be rf rb hf hb => by
      refine t_L_law_967 ⟨by omega, by omega, fun z => ⟨by omega, fun z1 => ⟨by omega, rb, fun z2 => ?_, fun _ => e991 fi be rf rb hf hb⟩, fun _ => e991 fi be rf rb hf hb⟩, fun _ => e991 fi be rf rb hf hb⟩
      rw [hb (by omega) (by omega)] at z2
      have hks : k = ss := by omega
      have := rh3 (tt - 1) tt (by omega) rh1
      rw [hks] at hlk
      rw [rh2, hlk] at this
      exact absurd (Int.ofNat.inj z2).symm this
    have e930 : ∀ (fi be : Int), rng fi → rng be → (tt < k + 1 → fi = (itr (fh d N fo hd (-9)) tt (d 0 1).toNat : Nat)) → (0 < tt → tt ≤ k + 1 → be = (itr (fh d N fo hd (-9)) (tt - 1) (d 0 1).toNat : Nat)) → R 99 930 [.ref 502, .ref 0, .ref G, a3, .int (I (N : Nat)), .ref L, .ref Mr, a7, .int (I (fct N : Nat)), .ref W, .int (I sh), .int (I (tn : Nat)), .int (I x), a13, .int (I hd), .int (I ((d 0 1).toNat : Nat)), .ref Q, .int (I (tt : Nat)), .int (I ((ss : Int) - (tt : Nat))), .int (I fi), .int (I be), .int (I (k : Nat)), .int (I (lk : Nat)), a23, a24, a25, a26, a27] [] h P := fun fi be rf rb hf hb => by
      refine t_L_law_930 ⟨by omega, by omega, fun z => ⟨by omega, rf, fun z1 => t_L_law_949 ⟨by omega, by omega, fun z2 => t_L_law_964 ⟨by decide, by decide, fun _ => e967 fi be rf rb hf hb, fun w => absurd rfl w⟩, fun z2 => ?_⟩, fun z1 => t_L_law_949 ⟨by omega, by omega, fun z2 => ?_, fun z2 => t_L_law_964 ⟨by decide, by decide, fun _ => e967 fi be rf rb hf hb, fun w => absurd rfl w⟩⟩⟩, fun _ => e967 fi be rf rb hf hb⟩
      · rw [hf (by omega)] at z1
        have := rh3 tt k (by omega) (by omega)
        rw [hlk] at this
        exact absurd (Int.ofNat.inj z1).symm this
      · rw [hf (by omega)] at z1
        have hks : k = ss := by omega
        rw [hks] at hlk
        rw [rh2, hlk] at z1
        exact absurd rfl z1
    have e917 : ∀ (fi : Int), rng fi → (tt < k + 1 → fi = (itr (fh d N fo hd (-9)) tt (d 0 1).toNat : Nat)) → R 99 917 [.ref 502, .ref 0, .ref G, a3, .int (I (N : Nat)), .ref L, .ref Mr, a7, .int (I (fct N : Nat)), .ref W, .int (I sh), .int (I (tn : Nat)), .int (I x), a13, .int (I hd), .int (I ((d 0 1).toNat : Nat)), .ref Q, .int (I (tt : Nat)), .int (I ((ss : Int) - (tt : Nat))), .int (I fi), .int (I be), .int (I (k : Nat)), .int (I (lk : Nat)), a23, a24, a25, a26, a27] [] h P := fun fi rf hf => by
      refine t_L_law_917 ⟨by omega, by omega, fun z => e930 fi (lk : Nat) rf (by omega) hf fun z1 z2 => ?_, fun z => e930 fi be rf rb hf fun z1 z2 => hb z1 (by omega)⟩
      rw [show tt - 1 = k by omega, hlk]
    refine t_L_law_904 ⟨by omega, by omega, fun z => e917 (lk : Nat) (by omega) fun z1 => ?_, fun z => e917 fi rf fun z1 => hf (by omega)⟩
    rw [show tt = k by omega, hlk]
theorem seg_806 (c : CS M N G L Mr W) (hq : QS G L Mr W Q) (hh : 1 ≤ hd ∧ hd ≤ 3) (a : MS g M kc ku N G L Mr W d t fo (rw_ N (d 0 1).toNat) h) (ar : AR N (rw_ N (fh d N fo hd (-9) (d 0 1).toNat)) Q h) (hQ : Q < 10000 + ck h) {s0 : Int} (D : ng [a3, a7, a13, a17, a18, a19, a20, a21, a22, a23, a24, a25, a26, a27] = true)
    (kk : ∀ (h' : Hp) (a13 a17 a18 a19 a20 a21 a22 a23 a24 a25 a26 a27 : Value), MS g M kc ku N G L Mr W d (t + 3) fo (rw_ N (d 0 1).toNat) h' → ng [a3, a7, a13, a17, a18, a19, a20, a21, a22, a23, a24, a25, a26, a27] = true → R 99 1051 [.ref 502, .ref 0, .ref G, a3, .int (I (N : Nat)), .ref L, .ref Mr, a7, .int (I (fct N : Nat)), .ref W, .int (I sh), .int (I (tn : Nat)), .int (I x), a13, .int (I hd), .int (I ((d 0 1).toNat : Nat)), .ref Q, a17, a18, a19, a20, a21, a22, a23, a24, a25, a26, a27] [.int (I (smv (shr x 15) (N : Nat)))] h' P) :
    R 99 806 [.ref 502, .ref 0, .ref G, a3, .int (I (N : Nat)), .ref L, .ref Mr, a7, .int (I (fct N : Nat)), .ref W, .int (I sh), .int (I (tn : Nat)), .int (I x), a13, .int (I hd), .int (I ((d 0 1).toNat : Nat)), .ref Q, a17, a18, a19, a20, a21, a22, a23, a24, a25, a26, a27] [.int (I s0)] h P := by
  obtain ⟨cn, hM, ⟨r1, r2, r3, r4⟩, n1, n2, n3, n4, n5, n6⟩ := id c
  have cn7 : 2 ≤ N ∧ N ≤ 7 := ⟨cn.1, by omega⟩
  have nG := nv r1
  have nL := nv r2
  have nM := nv r3
  have nW := nv r4
  have nQ := nv hq.1
  obtain ⟨lx, lx2⟩ := a.lx c
  obtain ⟨l1, l2, l3, l4⟩ := a.lie c
  have e4 : (d 0 4).toNat = fo := by have := a.2.1.2; omega
  have e3 : ¬ d 0 3 = 0 := by have := a.2.1.1; omega
  have lf := (fh_row (d := d) (l := fo) (hd := hd) (lo := -9) cn7 lx).1
  obtain ⟨tt, ss, hss, rho⟩ := rho_ex (fh_lt (d := d) (l := fo) (hd := hd) (lo := -9) cn7) lx
  have hts := rho.1
  have v0 : stV (fh d N fo hd (-9)) (d 0 1).toNat 0 = (tt : Nat) := (stV_eq ⟨tt, ss, rho, (if_pos rfl).symm⟩).symm
  have v1 : stV (fh d N fo hd (-9)) (d 0 1).toNat 1 = (ss : Int) - (tt : Nat) := (stV_eq ⟨tt, ss, rho, (if_neg (by decide)).symm⟩).symm
  have eN : nextA N d ((d 0 1).toNat : Nat) hd = (fh d N fo hd (-9) (d 0 1).toNat : Nat) := by
    unfold nextA
    rw [if_neg (by omega), if_neg (by omega), if_neg e3, e4, nxt_fh hh, Int.toNat_natCast]
  have eS : ∀ w : Int, 0 ≤ w ∧ w ≤ 1 → stillA N d ((d 0 1).toNat : Nat) hd w = stV (fh d N fo hd (-9)) (d 0 1).toNat w := fun w hw => by
    unfold stillA
    rw [if_neg (by omega), if_neg (by omega), if_neg e3, e4, Int.toNat_natCast]
  refine t_L_law_806 ⟨(okg_i rfl rfl rfl rfl (ng_ok rfl (by simp only [ng, List.all_cons, List.all_nil, Bool.and_eq_true, Bool.and_true] at D ⊢; simp only [D, ngv_i, ngv_0, ngv_5, nG, nL, nM, nW, nQ, and_self]))), a.x.S.t0, s_next a.x (by omega) (by omega) fun h1 k1 => t_L_law_815 ?_⟩
  have a1 := a.k0 c k1
  have ar1 := ar.gp (k1.2.1.p (X4_n (show 400 ≤ Q by have := hq.1; omega)))
  refine q_num c a1 lf ar1 (t_L_law_821 ?_)
  rw [eN]
  refine ⟨by omega, by omega, fun _ => ⟨(okg_i rfl rfl rfl rfl (ng_ok rfl (by simp only [ng, List.all_cons, List.all_nil, Bool.and_eq_true, Bool.and_true] at D ⊢; simp only [D, ngv_i, ngv_0, ngv_5, nG, nL, nM, nW, nQ, and_self]))), a1.x.S.t0, s_still a1.x (by omega) (by omega) (by decide) fun h2 k2 => t_L_law_835 ⟨?_, (a1.k0 c k2).x.S.t0, s_still (a1.k0 c k2).x (by omega) (by omega) (by decide) fun h3 k3 => t_L_law_846 ?_⟩⟩, fun w => absurd rfl w⟩
  · exact (okg_i rfl rfl rfl rfl (ng_ok rfl (by simp only [ng, List.all_cons, List.all_nil, Bool.and_eq_true, Bool.and_true] at D ⊢; simp only [D, ngv_i, ngv_0, ngv_5, nG, nL, nM, nW, nQ, and_self])))
  have a3' := (a1.k0 c k2).k0 c k3
  have ar3 := (ar1.gp (k2.2.1.p (X4_n (show 400 ≤ Q by have := hq.1; omega)))).gp (k3.2.1.p (X4_n (show 400 ≤ Q by have := hq.1; omega)))
  rw [eS 0 (by decide), eS 1 (by decide), v0, v1]
  refine ⟨by omega, fun z => absurd z (by omega), fun _ => ⟨by omega, fun z => absurd z (by omega), fun _ => ⟨by omega, by omega, fun z => absurd z (by omega), fun _ => s_Lopen cn7 hq.2.1 lx a3'.ag ar3.1.1 ar3.1.2 fun h4 f4 ar4 => t_L_law_879 ?_⟩⟩⟩
  refine seg_888 c hq hh hss l3 rho (fun h' a13 a17 a18 a19 a20 a21 a22 a23 a24 a25 a26 a27 ms' D' => kk h' _ _ _ _ _ _ _ _ _ _ _ _ ms' D') (ss + 1) 0 h4 (-1) (-1) a13 a22 a23 a24 a25 a26 a27 ?_ (by omega) (by decide) (by decide) (fun z => absurd z (by omega)) (fun z1 z2 => absurd z2 (by omega)) (a3'.q f4 hq) ar4
  simp only [ng, List.all_cons, List.all_nil, Bool.and_eq_true, Bool.and_true] at D ⊢
  simp only [D, and_self]
end STILLQ
