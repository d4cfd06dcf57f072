/-! What the law does in a turn. -/
theorem ngv_i (x : Int32) : ngv (.int x) = true := rfl
theorem ngv_0 : ngv (.ref 0) = true := rfl
theorem ngv_5 : ngv (.ref 502) = true := rfl
theorem prc_bd {c : Nat → Nat → Nat → Bool} {n : Nat} : ∀ (k p r : Nat), prc c n k p r ≤ k
  | 0, _, _ => Nat.le_refl _
  | k + 1, p, r => by
    rw [prc]
    by_cases q : p + 1 < n
    · rw [if_pos q]
      have := prc_bd (c := c) (n := n) k (p + 2) (if c (dg r p) (dg r (p + 1)) p then swp r p else r)
      by_cases q2 : c (dg r p) (dg r (p + 1)) p = true
      · rw [if_pos q2] at this ⊢; rw [if_pos q2]; omega
      · rw [if_neg q2] at this ⊢; rw [if_neg q2]; omega
    · rw [if_neg q]; omega
theorem goC_bd {d : Nat → Nat → Int} {n l : Nat} {H : Nat → Int} {x : Nat} : ∀ k : Nat, 0 ≤ goC d n l H x k ∧ goC d n l H x k ≤ 8 * k
  | 0 => ⟨Int.le_refl _, Int.le_refl _⟩
  | k + 1 => by
    have i := goC_bd (d := d) (n := n) (l := l) (H := H) (x := x) k
    have b1 := prc_bd (c := chg d l (H k) (-9)) (n := n) 4 0 (rw_ n (goL d n l H x k))
    have b2 := prc_bd (c := chg d l (H k) (-9)) (n := n) 4 1 (prs (chg d l (H k) (-9)) n 4 0 (rw_ n (goL d n l H x k)))
    rw [goC]
    unfold shc
    omega
section ACTS
variable {g : Int → Int} {M kc ku N G L Mr W : Nat} {d : Nat → Nat → Int} {t fo r : Nat} {h h1 : Hp} {P : Value → Hp → Prop} {a3 a7 a12 a13 a14 a15 a16 a17 a18 a19 a20 a21 a22 a23 a24 a25 a26 a27 : Value} {x hd sh : Int} {tn : Nat}
theorem MS.shaken (c : CS M N G L Mr W) (a : MS g M kc ku N G L Mr W d t fo r h) {hard : Int} (hh : rng hard) (kk : ∀ h', MS g M kc ku N G L Mr W d t fo (shk (chg d fo hard (-9)) N r) h' → P (.int (I (shc (chg d fo hard (-9)) N r : Nat))) h') : R 94 0 [.ref G, .ref L, .int (I (-9)), .ref W, .int (I hard), .retAddr 0, .retAddr 0, .retAddr 0, .retAddr 0, .retAddr 0] [] h P := by
  obtain ⟨cn, -, -, n1, n2, n3, n4, n5, n6⟩ := id c
  have cn7 : 2 ≤ N ∧ N ≤ 7 := ⟨cn.1, by omega⟩
  exact s_Lshake cn7 a.gb (a.lb a.fo1) n3 n5 hh (by decide) a.ag a.al a.2.2.2.1 a.ar fun h' f ar => kk h' (a.w c f ar (shk_ok cn7 a.2.2.2.1))
theorem MS.num (c : CS M N G L Mr W) (a : MS g M kc ku N G L Mr W d t fo r h) (kk : P (.int (I (cl N r : Nat))) h) : R 95 0 [.ref G, .ref W, .retAddr 0, .retAddr 0, .retAddr 0, .retAddr 0, .retAddr 0] [] h P :=
  s_Lnumber ⟨c.1.1, by have := c.1.2; omega⟩ a.ag a.ar kk
theorem MS.lx (c : CS M N G L Mr W) (a : MS g M kc ku N G L Mr W d t fo r h) : (d 0 1).toNat < fct N ∧ (((d 0 1).toNat : Nat) : Int) = d 0 1 := by
  obtain ⟨l1, l2, l3, l4⟩ := a.lie c
  omega
theorem act_shake (c : CS M N G L Mr W) (hh : 1 ≤ hd ∧ hd ≤ 3) {kN : Nat} (hk : kN < 6) (a0 : MS g M kc ku N G L Mr W d t fo (rw_ N (d 0 1).toNat) h) (hsh : sh = d 0 2 ∧ 0 ≤ sh ∧ sh ≤ 6 * (tn : Nat)) (htn : tn < 12)
    (kk : ∀ (h' : Hp) (d' : Nat → Nat → Int) (t' : Nat) (a13 a15 a16 a17 a18 a19 a20 a21 a22 a23 a24 a25 a26 a27 : Value), MS g M kc ku N G L Mr W d' t' fo (rw_ N (d' 0 1).toNat) h' → (0 ≤ d' 0 2 ∧ d' 0 2 ≤ 6 * ((tn : Nat) + 1)) → t' ≤ t + 20 → ng [a3, a7, a13, a15, a16, a17, a18, a19, a20, a21, a22, a23, a24, a25, a26, a27] = true → R 99 603 [.ref 502, .ref 0, .ref G, a3, .int (I (N : Nat)), .ref L, .ref Mr, a7, .int (I (fct N : Nat)), .ref W, .int (I (d' 0 2)), .int (I (tn : Nat)), .int (I x), a13, .int (I hd), a15, a16, a17, a18, a19, a20, a21, a22, a23, a24, a25, a26, a27] [] h' P) (D : ng [a3, a7, a13, a18, a19, a20, a21, a22, a23, a24, a25, a26, a27] = true) : ∀ (j q : Nat) (h : Hp), q + j = kN → MS g M kc ku N G L Mr W d t fo (rw_ N (goL d N fo (fun _ => hd) (d 0 1).toNat q)) h →
    R 99 249 [.ref 502, .ref 0, .ref G, a3, .int (I (N : Nat)), .ref L, .ref Mr, a7, .int (I (fct N : Nat)), .ref W, .int (I sh), .int (I (tn : Nat)), .int (I x), a13, .int (I hd), .int (I (kN : Nat)), .int (I (goC d N fo (fun _ => hd) (d 0 1).toNat q)), .int (I (q : Nat)), a18, a19, a20, a21, a22, a23, a24, a25, a26, a27] [] h P := by
  obtain ⟨cn, hM, ⟨r1, r2, r3, r4⟩, -⟩ := id c
  have cn7 : 2 ≤ N ∧ N ≤ 7 := ⟨cn.1, by omega⟩
  have nG := nv r1
  have nL := nv r2
  have nM := nv r3
  have nW := nv r4
  obtain ⟨lx, lx2⟩ := a0.lx c
  have fo1 := a0.fo1
  intro j
  induction j with
  | zero =>
    intro q h hq a
    obtain rfl : q = kN := by omega
    have gb := goC_bd (d := d) (n := N) (l := fo) (H := fun _ => hd) (x := (d 0 1).toNat) q
    have e4 : (d 0 4).toNat = fo := by have := a.2.1.2; omega
    have eV : shakeV N d hd (q : Nat) = goC d N fo (fun _ => hd) (d 0 1).toNat q := by
      unfold shakeV
      rw [if_neg (by omega), if_neg (by have := a.2.1.1; omega), e4, Int.toNat_natCast]
    have eD : shakeD N d hd (q : Nat) = shD d (goL d N fo (fun _ => hd) (d 0 1).toNat q : Nat) (wr (d 0 2 + (q : Nat))) := by
      unfold shakeD
      rw [if_neg (by omega), if_neg (by have := a.2.1.1; omega), e4, Int.toNat_natCast]
    refine t_L_law_249 ⟨by omega, by omega, fun z => absurd z (by omega), fun _ => ⟨(okg_i rfl rfl rfl rfl (ng_ok rfl (by simp only [ng, List.all_cons, List.all_nil, Bool.and_eq_true, Bool.and_true] at D ⊢; simp only [D, ngv_i, ngv_0, ngv_5, nG, nL, nM, nW, and_self]))), a.x.S.t0, s_shake a.x (by omega) (by omega) fun h' kx => t_L_law_287 ?_⟩⟩
    rw [eV]
    rw [eD] at kx
    have a1 := a.k c kx (fun f h1 h2 => shD_f d _ _ (by omega)) (shD_i d _ _ (by decide) (by decide)) (shD_i d _ _ (by decide) (by decide))
    have e2 : wr (d 0 2 + (q : Nat)) = d 0 2 + (q : Nat) := wr_eq (by omega)
    rw [e2] at a1
    have z := kk h' (shD d (goL d N fo (fun _ => hd) (d 0 1).toNat q : Nat) (d 0 2 + (q : Nat))) (t + 1) a13 (.int (I (q : Nat))) (.int (I (goC d N fo (fun _ => hd) (d 0 1).toNat q))) (.int (I (q : Nat))) a18 a19 a20 a21 a22 a23 a24 a25 a26 a27 (by rw [shD_1, Int.toNat_natCast]; exact a1) (by rw [shD_2]; omega) (by omega) (by simp only [ng, List.all_cons, List.all_nil, Bool.and_eq_true, Bool.and_true] at D ⊢; simp only [D, ngv_i, ngv_0, ngv_5, nG, nL, nM, nW, and_self])
    rw [shD_2, ← hsh.1] at z
    exact ⟨by omega, by omega, fun _ => z, fun w => absurd rfl w⟩
  | succ j ih =>
    intro q h hq a
    refine t_L_law_249 ⟨by omega, by omega, fun _ => a.shaken c (by omega) fun h' a' => t_L_law_270 ?_, fun z => absurd (by omega) z⟩
    have lt := goL_lt (d := d) (n := N) (l := fo) (H := fun _ => hd) cn7 lx q
    rw [← (fh_row cn7 lt).2] at a'
    exact ih (q + 1) h' (by omega) a'
end ACTS
