/-! Turned, spooned, laid, by rows of doings. -/
section ACTS2
variable {g : Int → Int} {M kc ku N G L Mr W : Nat} {d : Nat → Nat → Int} {t fo r : Nat} {h h1 : Hp} {P : Value → Hp → Prop} {a3 a7 a12 a13 a14 a15 a16 a17 a18 a19 a20 a21 a22 a23 a24 a25 a26 a27 : Value} {x hd sh : Int} {tn : Nat}
theorem act_turn (c : CS M N G L Mr W) {h0 : Hp} (a0 : MS g M kc ku N G L Mr W d t fo (rw_ N (d 0 1).toNat) h0) (hsh : sh = d 0 2 ∧ 0 ≤ sh ∧ sh ≤ 6 * (tn : Nat))
    (kk : ∀ (h' : Hp) (d' : Nat → Nat → Int) (t' : Nat) (a13 a15 a16 a17 a18 a19 a20 a21 a22 a23 a24 a25 a26 a27 : Value), MS g M kc ku N G L Mr W d' t' fo (rw_ N (d' 0 1).toNat) h' → (0 ≤ d' 0 2 ∧ d' 0 2 ≤ 6 * ((tn : Nat) + 1)) → t' ≤ t + 20 → ng [a3, a7, a13, a15, a16, a17, a18, a19, a20, a21, a22, a23, a24, a25, a26, a27] = true → R 99 603 [.ref 502, .ref 0, .ref G, a3, .int (I (N : Nat)), .ref L, .ref Mr, a7, .int (I (fct N : Nat)), .ref W, .int (I (d' 0 2)), .int (I (tn : Nat)), .int (I x), a13, .int (I hd), a15, a16, a17, a18, a19, a20, a21, a22, a23, a24, a25, a26, a27] [] h' P) : ∀ (j p : Nat) (h : Hp) (a13 a16 a17 a18 a19 a20 a21 a22 a23 a24 a25 a26 a27 : Value) (D : ng [a3, a7, a13, a16, a17, a18, a19, a20, a21, a22, a23, a24, a25, a26, a27] = true), p + j = N / 2 → Fr (fun q => q == W) h0 h → (∀ q : Nat, q < N → iv h W (q : Nat) = (if q < p ∨ N - 1 - q < p then dg (rw_ N (d 0 1).toNat) (N - 1 - q) else dg (rw_ N (d 0 1).toNat) q : Nat)) →
    R 99 313 [.ref 502, .ref 0, .ref G, a3, .int (I (N : Nat)), .ref L, .ref Mr, a7, .int (I (fct N : Nat)), .ref W, .int (I sh), .int (I (tn : Nat)), .int (I x), a13, .int (I hd), .int (I (p : Nat)), a16, a17, a18, a19, a20, a21, a22, a23, a24, a25, a26, a27] [] h P := by
  obtain ⟨cn, hM, ⟨r1, r2, r3, r4⟩, -⟩ := id c
  have cn7 : 2 ≤ N ∧ N ≤ 7 := ⟨cn.1, by omega⟩
  have nG := nv r1
  have nL := nv r2
  have nM := nv r3
  have nW := nv r4
  obtain ⟨lx, lx2⟩ := a0.lx c
  have ok := a0.2.2.2.1
  obtain ⟨⟨wt0, wl0⟩, -⟩ := id a0.ar
  intro j
  induction j with
  | zero =>
    intro p h a13 a16 a17 a18 a19 a20 a21 a22 a23 a24 a25 a26 a27 D hp f hv
    have ar : AR N (trn N (rw_ N (d 0 1).toNat)) W h := ⟨⟨by rw [f.t]; exact wt0, by rw [f.l]; exact wl0⟩, fun q hq => by
      rw [hv q hq, (ok.dgs cn7).1 q hq]
      by_cases z : q < p ∨ N - 1 - q < p
      · rw [if_pos z]
      · rw [if_neg z, show q = N - 1 - q by omega]
        congr 2
        omega⟩
    have a := a0.w c f ar (ok.step cn7).2.1
    refine t_L_law_313 ⟨by omega, by omega, by omega, fun z => absurd z (by omega), fun _ => ⟨a.x.S.t0, s_turn a.x (fun z => by omega) fun _ h' kx => t_L_law_366 ?_⟩⟩
    have tl := (ok.step cn7).2.1.cl cn7
    have tl : trl N (d 0 1).toNat < fct N ∧ rw_ N (trl N (d 0 1).toNat) = trn N (rw_ N (d 0 1).toNat) := tl
    have a1 := a.k c kx (fun f h1 h2 => up_f (by omega)) (up_ne (by omega)) (up_ne (by omega))
    have f7 := (a0.lie c).2.2.1
    refine a1.num c (t_L_law_372 ⟨by omega, by have := tl.1; show rng (trl N (d 0 1).toNat : Nat); omega, fun _ => ?_, fun w => absurd rfl w⟩)
    have z := kk h' (up d 0 1 (trl N (d 0 1).toNat : Nat)) (t + 1) a13 (.int (I (p : Nat))) a16 a17 a18 a19 a20 a21 a22 a23 a24 a25 a26 a27 (by rw [up_at, Int.toNat_natCast, tl.2]; exact a1) (by rw [up_ne (by omega)]; omega) (by omega) (by simp only [ng, List.all_cons, List.all_nil, Bool.and_eq_true, Bool.and_true] at D ⊢; simp only [D, ngv_i, ngv_0, ngv_5, nG, nL, nM, nW, and_self])
    rw [up_ne (by omega), ← hsh.1] at z
    exact z
  | succ j ih =>
    intro p h a13 a16 a17 a18 a19 a20 a21 a22 a23 a24 a25 a26 a27 D hp f hv
    have wt : tg h W = 20 := by rw [f.t]; exact wt0
    have wl : ln h W = 7 := by rw [f.l]; exact wl0
    have e1 : ((N : Int) - 1) - (p : Nat) = ((N - 1 - p : Nat) : Int) := by omega
    have v1 := hv p (by omega)
    have v2 := hv (N - 1 - p) (by omega)
    rw [if_neg (by omega)] at v1 v2
    have b1 := dg_lt (rw_ N (d 0 1).toNat) p
    have b2 := dg_lt (rw_ N (d 0 1).toNat) (N - 1 - p)
    refine t_L_law_313 ?_
    rw [e1, wl, v1, v2, wr_eq (by omega), wr_eq (by omega)]
    refine ⟨by omega, by omega, by omega, fun _ => ⟨Or.inl wt, by omega, by omega, by omega, Or.inl wt, by omega, by omega, by omega, wt, by omega, by omega, by omega, wt, ?_, by omega, ?_, ?_⟩, fun z => absurd (by omega) z⟩
    · show ((ln h W : Nat) : Int) ≤ _; omega
    · show _ < ((ln h W : Nat) : Int); omega
    · have fr : Fr (fun q => q == W) h (setI (setI h W (p : Nat) (dg (rw_ N (d 0 1).toNat) (N - 1 - p) : Nat)) W ((N - 1 - p : Nat) : Int) (dg (rw_ N (d 0 1).toNat) p : Nat)) := (Fr.set (S := fun q => q == W) h _ _ (beq_self_eq_true W)).tr (Fr.set _ _ _ (beq_self_eq_true W))
      refine ih (p + 1) _ a13 _ a17 a18 a19 a20 a21 a22 a23 a24 a25 a26 a27 (by simp only [ng, List.all_cons, List.all_nil, Bool.and_eq_true, Bool.and_true] at D ⊢; simp only [D, ngv_i, ngv_0, ngv_5, nG, nL, nM, nW, and_self]) (by omega) (f.tr fr) fun q hq => ?_
      by_cases q1 : q = N - 1 - p
      · rw [q1, iv_eq, if_pos (by omega)]
        congr 2
        omega
      · rw [iv_nk (by omega)]
        by_cases q2 : q = p
        · rw [q2, iv_eq, if_pos (by omega)]
        · rw [iv_nk (by omega), hv q hq]
          by_cases q3 : q < p ∨ N - 1 - q < p
          · rw [if_pos q3, if_pos (by omega)]
          · rw [if_neg q3, if_neg (by omega)]
theorem act_spoon (c : CS M N G L Mr W) {h0 : Hp} (a0 : MS g M kc ku N G L Mr W d t fo (rw_ N (d 0 1).toNat) h0) (hsh : sh = d 0 2 ∧ 0 ≤ sh ∧ sh ≤ 6 * (tn : Nat))
    (kk : ∀ (h' : Hp) (d' : Nat → Nat → Int) (t' : Nat) (a13 a15 a16 a17 a18 a19 a20 a21 a22 a23 a24 a25 a26 a27 : Value), MS g M kc ku N G L Mr W d' t' fo (rw_ N (d' 0 1).toNat) h' → (0 ≤ d' 0 2 ∧ d' 0 2 ≤ 6 * ((tn : Nat) + 1)) → t' ≤ t + 20 → ng [a3, a7, a13, a15, a16, a17, a18, a19, a20, a21, a22, a23, a24, a25, a26, a27] = true → R 99 603 [.ref 502, .ref 0, .ref G, a3, .int (I (N : Nat)), .ref L, .ref Mr, a7, .int (I (fct N : Nat)), .ref W, .int (I (d' 0 2)), .int (I (tn : Nat)), .int (I x), a13, .int (I hd), a15, a16, a17, a18, a19, a20, a21, a22, a23, a24, a25, a26, a27] [] h' P) (D : ng [a3, a7, a13, a17, a18, a19, a20, a21, a22, a23, a24, a25, a26, a27] = true) : ∀ (j p : Nat) (h : Hp), p + j = N → 1 ≤ p → Fr (fun q => q == W) h0 h → (∀ q : Nat, q < N → iv h W (q : Nat) = (if q + 1 < p then dg (rw_ N (d 0 1).toNat) (q + 1) else dg (rw_ N (d 0 1).toNat) q : Nat)) →
    R 99 392 [.ref 502, .ref 0, .ref G, a3, .int (I (N : Nat)), .ref L, .ref Mr, a7, .int (I (fct N : Nat)), .ref W, .int (I sh), .int (I (tn : Nat)), .int (I x), a13, .int (I hd), .int (I (dg (rw_ N (d 0 1).toNat) 0 : Nat)), .int (I (p : Nat)), a17, a18, a19, a20, a21, a22, a23, a24, a25, a26, a27] [] h P := by
  obtain ⟨cn, hM, ⟨r1, r2, r3, r4⟩, -⟩ := id c
  have cn7 : 2 ≤ N ∧ N ≤ 7 := ⟨cn.1, by omega⟩
  have nG := nv r1
  have nL := nv r2
  have nM := nv r3
  have nW := nv r4
  obtain ⟨lx, lx2⟩ := a0.lx c
  have ok := a0.2.2.2.1
  obtain ⟨⟨wt0, wl0⟩, -⟩ := id a0.ar
  have b0 := dg_lt (rw_ N (d 0 1).toNat) 0
  intro j
  induction j with
  | zero =>
    intro p h hp hp1 f hv
    obtain rfl : p = N := by omega
    have wt : tg h W = 20 := by rw [f.t]; exact wt0
    have wl : ln h W = 7 := by rw [f.l]; exact wl0
    have e1 : (p : Int) - 1 = ((p - 1 : Nat) : Int) := by omega
    have fr : Fr (fun q => q == W) h (setI h W ((p - 1 : Nat) : Int) (dg (rw_ p (d 0 1).toNat) 0 : Nat)) := Fr.set (S := fun q => q == W) h _ _ (beq_self_eq_true W)
    have ar : AR p (spn p (rw_ p (d 0 1).toNat)) W (setI h W ((p - 1 : Nat) : Int) (dg (rw_ p (d 0 1).toNat) 0 : Nat)) := ⟨⟨wt, wl⟩, fun q hq => by
      by_cases z : q = p - 1
      · rw [z, iv_eq, (ok.dgs cn7).2.2.1]
      · rw [iv_nk (by omega), hv q hq, if_pos (by omega), (ok.dgs cn7).2.1 q (by omega)]⟩
    have a := a0.w c (f.tr fr) ar (ok.step cn7).2.2
    have w0 : wr ((dg (rw_ p (d 0 1).toNat) 0 : Nat) : Int) = ((dg (rw_ p (d 0 1).toNat) 0 : Nat) : Int) := wr_eq (by omega)
    refine t_L_law_392 ?_
    rw [e1, wl, w0]
    refine ⟨by omega, by omega, fun z => absurd z (by omega), fun _ => ⟨wt, by omega, by omega, by omega, a.x.S.t0, s_spoon a.x (fun z => by omega) fun _ h' kx => t_L_law_430 ⟨by omega, by omega, fun _ => ?_, fun w => absurd rfl w⟩⟩⟩
    have tl := (ok.step cn7).2.2.cl cn7
    have tl : spl p (d 0 1).toNat < fct p ∧ rw_ p (spl p (d 0 1).toNat) = spn p (rw_ p (d 0 1).toNat) := tl
    have a1 := a.k c kx (fun f h1 h2 => up_f (by omega)) (up_ne (by omega)) (up_ne (by omega))
    have z := kk h' (up d 0 1 (spl p (d 0 1).toNat : Nat)) (t + 1) a13 (.int (I (dg (rw_ p (d 0 1).toNat) 0 : Nat))) (.int (I (p : Nat))) a17 a18 a19 a20 a21 a22 a23 a24 a25 a26 a27 (by rw [up_at, Int.toNat_natCast, tl.2]; exact a1) (by rw [up_ne (by omega)]; omega) (by omega) (by simp only [ng, List.all_cons, List.all_nil, Bool.and_eq_true, Bool.and_true] at D ⊢; simp only [D, ngv_i, ngv_0, ngv_5, nG, nL, nM, nW, and_self])
    rw [up_ne (by omega), ← hsh.1] at z
    exact z
  | succ j ih =>
    intro p h hp hp1 f hv
    have wt : tg h W = 20 := by rw [f.t]; exact wt0
    have wl : ln h W = 7 := by rw [f.l]; exact wl0
    have e1 : (p : Int) - 1 = ((p - 1 : Nat) : Int) := by omega
    have v1 := hv p (by omega)
    rw [if_neg (by omega)] at v1
    have b1 := dg_lt (rw_ N (d 0 1).toNat) p
    refine t_L_law_392 ?_
    rw [e1, wl, v1, wr_eq (by omega)]
    refine ⟨by omega, by omega, fun _ => ⟨Or.inl wt, by omega, by omega, by omega, wt, by omega, by omega, by omega, ?_⟩, fun z => absurd (by omega) z⟩
    have fr : Fr (fun q => q == W) h (setI h W ((p - 1 : Nat) : Int) (dg (rw_ N (d 0 1).toNat) p : Nat)) := Fr.set (S := fun q => q == W) h _ _ (beq_self_eq_true W)
    refine ih (p + 1) _ (by omega) (by omega) (f.tr fr) fun q hq => ?_
    by_cases q1 : q = p - 1
    · rw [q1, iv_eq, if_pos (by omega)]
      congr 2
      omega
    · rw [iv_nk (by omega), hv q hq]
      by_cases q3 : q + 1 < p
      · rw [if_pos q3, if_pos (by omega)]
      · rw [if_neg q3, if_neg (by omega)]
theorem act_lay (c : CS M N G L Mr W) (a : MS g M kc ku N G L Mr W d t fo (rw_ N (d 0 1).toNat) h) (hsh : sh = d 0 2 ∧ 0 ≤ sh ∧ sh ≤ 6 * (tn : Nat)) {l : Nat} (hl : l < fct N)
    (kk : ∀ (h' : Hp) (d' : Nat → Nat → Int) (t' : Nat) (a13 a15 a16 a17 a18 a19 a20 a21 a22 a23 a24 a25 a26 a27 : Value), MS g M kc ku N G L Mr W d' t' fo (rw_ N (d' 0 1).toNat) h' → (0 ≤ d' 0 2 ∧ d' 0 2 ≤ 6 * ((tn : Nat) + 1)) → t' ≤ t + 20 → ng [a3, a7, a13, a15, a16, a17, a18, a19, a20, a21, a22, a23, a24, a25, a26, a27] = true → R 99 603 [.ref 502, .ref 0, .ref G, a3, .int (I (N : Nat)), .ref L, .ref Mr, a7, .int (I (fct N : Nat)), .ref W, .int (I (d' 0 2)), .int (I (tn : Nat)), .int (I x), a13, .int (I hd), a15, a16, a17, a18, a19, a20, a21, a22, a23, a24, a25, a26, a27] [] h' P) (D : ng [a3, a7, a13, a15, a16, a17, a18, a19, a20, a21, a22, a23, a24, a25, a26, a27] = true) :
    R 99 455 [.ref 502, .ref 0, .ref G, a3, .int (I (N : Nat)), .ref L, .ref Mr, a7, .int (I (fct N : Nat)), .ref W, .int (I sh), .int (I (tn : Nat)), .int (I x), a13, .int (I hd), a15, a16, a17, a18, a19, a20, a21, a22, a23, a24, a25, a26, a27] [.int (I (l : Nat))] h P := by
  obtain ⟨cn, hM, ⟨r1, r2, r3, r4⟩, n1, n2, n3, n4, n5, n6⟩ := id c
  have cn7 : 2 ≤ N ∧ N ≤ 7 := ⟨cn.1, by omega⟩
  have nG := nv r1
  have nL := nv r2
  have nM := nv r3
  have nW := nv r4
  obtain ⟨lx, lx2⟩ := a.lx c
  obtain ⟨l1, l2, l3, l4⟩ := a.lie c
  refine t_L_law_455 ⟨a.x.S.t0, s_lay a.x (by omega) (fun z => by omega) fun _ h' kx => t_L_law_463 ?_⟩
  have a1 := a.k c kx (fun f h1 h2 => up_f (by omega)) (up_ne (by omega)) (up_ne (by omega))
  refine a1.num c (t_L_law_469 ?_)
  rw [(rank_facts cn7 lx).1, lx2]
  obtain ⟨⟨wt, wl⟩, -⟩ := id a1.ar
  refine ⟨by omega, by omega, fun _ => s_Lopen cn7 n3 hl a1.ag wt wl fun h2 f2 ar2 => t_L_law_482 ?_, fun w => absurd rfl w⟩
  have a2 := a1.w c f2 ar2 ⟨l, hl, rfl⟩
  have z := kk h2 (up d 0 1 (l : Nat)) (t + 1) a13 (.int (I (l : Nat))) a16 a17 a18 a19 a20 a21 a22 a23 a24 a25 a26 a27 (by rw [up_at, Int.toNat_natCast]; exact a2) (by rw [up_ne (by omega)]; omega) (by omega) (by simp only [ng, List.all_cons, List.all_nil, Bool.and_eq_true, Bool.and_true] at D ⊢; simp only [D, ngv_i, ngv_0, ngv_5, nG, nL, nM, nW, and_self])
  rw [up_ne (by omega), ← hsh.1] at z
  exact z
/-- how hard, one after the other -/
def hvq (x : Int) (q : Nat) : Int := 1 + smv (shr x (8 + 2 * ((q : Nat) : Int))) 3
theorem hvq_bd (x : Int) (q : Nat) : 1 ≤ hvq x q ∧ hvq x q ≤ 3 := by
  have := smv_bd (shr x (8 + 2 * ((q : Nat) : Int))) (m := 3) (by decide)
  unfold hvq
  omega
theorem MS.put (c : CS M N G L Mr W) (a : MS g M kc ku N G L Mr W d t fo r h) {k i : Nat} {v s : Int} (hk : k < 4) (h9 : d 10 k = s) (hs : cutv s v = v) (hs9 : s ≠ -9) (hi : (i : Int) < d 11 k) (hv : rng v) (kk : ∀ h', MS g M kc ku N G L Mr W (PD d k i v) (t + 1) fo r h' → P (.int (I 1)) h') : R 84 0 [.ref 0, .int (I (k : Nat)), .int (I (i : Nat)), .int (I v), .retAddr 0] [] h P := by
  have dl := a.x.dl hk
  refine s_put a.x (by omega) (by omega) hv fun h' kx => ?_
  have e1 : putV d (k : Nat) (i : Nat) = 1 := by
    unfold putV
    rw [if_neg (by omega), Int.toNat_natCast, h9, if_neg hs9, if_neg (by omega)]
  have e2 : putD d (k : Nat) (i : Nat) v = PD d k i v := by
    unfold putD
    rw [if_neg (by omega), Int.toNat_natCast, h9, if_neg hs9, if_neg (by omega), Int.toNat_natCast, hs]
    rfl
  rw [e1]
  rw [e2] at kx
  have de := PD_de d k i v
  exact kk h' (a.k c kx de.1 (de.2 3 (by decide)) (de.2 4 (by decide)))
theorem act_doing (c : CS M N G L Mr W) {d0 : Nat → Nat → Int} {t0 : Nat} {kN : Nat} (hk : kN < 5) (hl0 : (d0 0 1).toNat < fct N) (hl1 : (((d0 0 1).toNat : Nat) : Int) = d0 0 1) (hsh : sh = d0 0 2 ∧ 0 ≤ sh ∧ sh ≤ 6 * (tn : Nat)) (htn : tn < 12) (hh : rng hd) (hfo : d0 0 4 = (fo : Nat))
    (kk : ∀ (h' : Hp) (d' : Nat → Nat → Int) (t' : Nat) (a13 a15 a16 a17 a18 a19 a20 a21 a22 a23 a24 a25 a26 a27 : Value), MS g M kc ku N G L Mr W d' t' fo (rw_ N (d' 0 1).toNat) h' → (0 ≤ d' 0 2 ∧ d' 0 2 ≤ 6 * ((tn : Nat) + 1)) → t' ≤ t0 + 20 → ng [a3, a7, a13, a15, a16, a17, a18, a19, a20, a21, a22, a23, a24, a25, a26, a27] = true → R 99 603 [.ref 502, .ref 0, .ref G, a3, .int (I (N : Nat)), .ref L, .ref Mr, a7, .int (I (fct N : Nat)), .ref W, .int (I (d' 0 2)), .int (I (tn : Nat)), .int (I x), a13, .int (I hd), a15, a16, a17, a18, a19, a20, a21, a22, a23, a24, a25, a26, a27] [] h' P) : ∀ (j q : Nat) (h : Hp) (d : Nat → Nat → Int) (t : Nat) (a13 a18 a19 a20 a21 a22 a23 a24 a25 a26 a27 : Value) (D : ng [a3, a7, a13, a18, a19, a20, a21, a22, a23, a24, a25, a26, a27] = true), q + j = kN → t ≤ t0 + 1 + q → DE d0 d → d 10 2 = 0 → d 11 2 = 6 → (∀ q', q' < q → d 12 (120 + (1 + q')) = hvq x q') → MS g M kc ku N G L Mr W d t fo (rw_ N (goL d0 N fo (hvq x) (d0 0 1).toNat q)) h →
    R 99 515 [.ref 502, .ref 0, .ref G, a3, .int (I (N : Nat)), .ref L, .ref Mr, a7, .int (I (fct N : Nat)), .ref W, .int (I sh), .int (I (tn : Nat)), .int (I x), a13, .int (I hd), .int (I (kN : Nat)), .int (I (goC d0 N fo (hvq x) (d0 0 1).toNat q)), .int (I (q : Nat)), a18, a19, a20, a21, a22, a23, a24, a25, a26, a27] [] h P := by
  obtain ⟨cn, hM, ⟨r1, r2, r3, r4⟩, -⟩ := id c
  have cn7 : 2 ≤ N ∧ N ≤ 7 := ⟨cn.1, by omega⟩
  have nG := nv r1
  have nL := nv r2
  have nM := nv r3
  have nW := nv r4
  intro j
  induction j with
  | zero =>
    intro q h d t a13 a18 a19 a20 a21 a22 a23 a24 a25 a26 a27 D hq ht de e10 e11 hv a
    obtain rfl : q = kN := by omega
    have gb := goC_bd (d := d0) (n := N) (l := fo) (H := hvq x) (x := (d0 0 1).toNat) q
    have r0 : refV d 2 0 1 (q : Nat) = 0 := by
      unfold refV
      rw [if_neg (by omega), if_neg (by omega), show (2 : Int).toNat = 2 from rfl, e10, e11, if_neg (by omega), if_neg (by omega), if_neg (by omega), if_neg (by omega)]
    have cel : ∀ q', q' < q → celH (up d 0 7 0) 2 1 q' = hvq x q' := fun q' hq' => by
      show up d 0 7 0 12 (60 * 2 + 1 + q') = _
      rw [up_f (by decide), ← hv q' hq']
      congr 1
      omega
    have hQ : hdQ (up d 0 7 0) 2 1 (q : Nat) := fun c' hc' => by
      have := cel c' (by omega)
      have b := hvq_bd x c'
      have this : up d 0 7 0 12 (60 * (2 : Int).toNat + (1 : Int).toNat + c') = hvq x c' := this
      rw [this]
      exact b
    have e4 : (up d 0 7 0 0 4).toNat = fo := by rw [up_ne (by omega), a.2.1.2]; rfl
    have e3 : ¬ (N = 0 ∨ up d 0 7 0 0 3 = 0) := by
      rw [up_ne (by omega), a.2.1.1]
      omega
    have e1 : up d 0 7 0 0 1 = d0 0 1 := by rw [up_ne (by omega)]; exact de.2 1 (by decide)
    have e2 : up d 0 7 0 0 2 = d0 0 2 := by rw [up_ne (by omega)]; exact de.2 2 (by decide)
    have cg := goL_cg (d := d0) (d' := up d 0 7 0) (fun f h1 h2 => by rw [up_f (by omega)]; exact de.1 f h1 h2) (n := N) (l := fo) (x := (d0 0 1).toNat) (H := hvq x) (H' := celH (up d 0 7 0) 2 1) (k := q) cel
    have eV : doV N d 2 0 1 (q : Nat) = goC d0 N fo (hvq x) (d0 0 1).toNat q := by
      unfold doV doW
      rw [r0, if_neg (fun z => z rfl), if_pos hQ, if_neg e3, e4, e1, Int.toNat_natCast, cg.2]
    have eD : doD N d 2 0 1 (q : Nat) = shD (up d 0 7 0) (goL d0 N fo (hvq x) (d0 0 1).toNat q : Nat) (wr (d0 0 2 + (q : Nat))) := by
      unfold doD doE
      rw [r0, if_neg (fun z => z rfl), if_pos hQ, if_neg e3, e4, e1, e2, Int.toNat_natCast, cg.1]
    refine t_L_law_515 ⟨by omega, by omega, fun z => absurd z (by omega), fun _ => ⟨(okg_i rfl rfl rfl rfl (ng_ok rfl (by simp only [ng, List.all_cons, List.all_nil, Bool.and_eq_true, Bool.and_true] at D ⊢; simp only [D, ngv_i, ngv_0, ngv_5, nG, nL, nM, nW, and_self]))), a.x.S.t0, s_doing a.x (by decide) (by decide) (by decide) (by omega) fun h' kx => t_L_law_589 ?_⟩⟩
    rw [eV]
    rw [eD] at kx
    have a1 := a.k c kx (fun f h1 h2 => by rw [shD_f _ _ _ (by omega), up_f (by omega)]) (by rw [shD_i _ _ _ (by decide) (by decide), up_ne (by omega)]) (by rw [shD_i _ _ _ (by decide) (by decide), up_ne (by omega)])
    have w2 : wr (d0 0 2 + (q : Nat)) = d0 0 2 + (q : Nat) := wr_eq (by omega)
    rw [w2] at a1
    have z := kk h' (shD (up d 0 7 0) (goL d0 N fo (hvq x) (d0 0 1).toNat q : Nat) (d0 0 2 + (q : Nat))) (t + 1) a13 (.int (I (q : Nat))) (.int (I (goC d0 N fo (hvq x) (d0 0 1).toNat q))) (.int (I (q : Nat))) a18 a19 a20 a21 a22 a23 a24 a25 a26 a27 (by rw [shD_1, Int.toNat_natCast]; exact a1) (by rw [shD_2]; omega) (by omega) (by simp only [ng, List.all_cons, List.all_nil, Bool.and_eq_true, Bool.and_true] at D ⊢; simp only [D, ngv_i, ngv_0, ngv_5, nG, nL, nM, nW, and_self])
    rw [shD_2, ← hsh.1] at z
    exact ⟨by omega, by omega, fun _ => z, fun w => absurd rfl w⟩
  | succ j ih =>
    intro q h d t a13 a18 a19 a20 a21 a22 a23 a24 a25 a26 a27 D hq ht de e10 e11 hv a
    have hb := hvq_bd x q
    refine t_L_law_515 ⟨by omega, by omega, fun _ => s_some (by decide) (t_L_law_537 ⟨a.x.S.t0, ?_⟩), fun z => absurd (by omega) z⟩
    have e1 : (1 : Int) + (q : Nat) = ((1 + q : Nat) : Int) := by omega
    rw [e1]
    refine a.put c (k := 2) (i := 1 + q) (v := hvq x q) (by decide) e10 (cut0 (by omega)) (by decide) (by omega) (by omega) fun h1 a1 => t_L_law_551 ⟨by decide, fun _ => ?_, fun w => absurd rfl w⟩
    refine a1.shaken c (hard := hvq x q) (by omega) fun h2 a2 => t_L_law_571 ?_
    have lt := goL_lt (d := d0) (n := N) (l := fo) (H := hvq x) cn7 hl0 q
    have pe := PD_de d 2 (1 + q) (hvq x q)
    have cgc : chg (PD d 2 (1 + q) (hvq x q)) fo (hvq x q) (-9) = chg d0 fo (hvq x q) (-9) := chg_cg (fun f h1 h2 => (de.tr pe).1 f h1 (by omega)) _ _ _
    rw [cgc] at a2 ⊢
    rw [← (fh_row cn7 lt).2] at a2
    exact ih (q + 1) h2 _ (t + 1) a13 _ a19 a20 a21 a22 a23 a24 a25 a26 a27 (by simp only [ng, List.all_cons, List.all_nil, Bool.and_eq_true, Bool.and_true] at D ⊢; simp only [D, ngv_i, ngv_0, ngv_5, nG, nL, nM, nW, and_self]) (by omega) (by omega) (de.tr pe) (by rw [PD_f _ _ _ _ (by decide)]; exact e10) (by rw [PD_f _ _ _ _ (by decide)]; exact e11) (fun q' hq' => by
      by_cases z : q' = q
      · rw [z]; exact PD_at _ _ _ _ (by omega)
      · rw [PD_o _ _ _ _ (by omega)]; exact hv q' (by omega)) a2
end ACTS2
