/-! From the law's entry: the classes, the tables of the class, the script; the run. -/
theorem insAll : (List.range 12).all (fun ci => newTab.any (fun q => q.2.2.1 == ci)) = true := by decide +kernel
theorem anwAll : (List.range 5).all (fun t => anwTab.any (fun q => q.2.2.1 == t + 21)) = true := by decide +kernel
theorem ins_in {ci : Nat} (h : ci < 12) : (Cond.instantiable (cn ci) (cSz ci)) ∈ lw_tbl := by
  have q := List.all_eq_true.mp insAll ci (List.mem_range.mpr h)
  obtain ⟨r, r1, r2⟩ := List.any_eq_true.mp q
  have e : r.2.2.1 = ci := by simpa using r2
  have o := List.all_eq_true.mp okNew_all r r1
  simp only [okNew, Bool.and_eq_true] at o
  rw [e] at o
  exact List.mem_of_getElem? (wAt_eq o.1.1.2)
theorem anw_in {t : Nat} (h : 21 ≤ t ∧ t ≤ 25) : (Cond.arrayOver (.object (aName t))) ∈ lw_tbl := by
  have q := List.all_eq_true.mp anwAll (t - 21) (List.mem_range.mpr (by omega))
  obtain ⟨r, r1, r2⟩ := List.any_eq_true.mp q
  have e : r.2.2.1 = t := by
    have : r.2.2.1 = t - 21 + 21 := by simpa using r2
    omega
  have o := List.all_eq_true.mp okAnw_all r r1
  simp only [okAnw, Bool.and_eq_true] at o
  rw [e] at o
  exact List.mem_of_getElem? (wAt_eq o.1.2)
theorem kf_start {s : State} {args : Array Value} (hts : ∀ w ∈ lw_tbl, w.before args s = true) : ∃ (D : va_G) (cI : ClassId) (cA : Nat → ClassId), KF D cI cA s := by
  have h1 : ∀ ci, ∃ (q : ClassId × (Nat → Nat)), ci < 12 → u_Kn s (cn ci) (cT ci) (cSz ci) q.1 q.2 := fun ci => by
    by_cases h : ci < 12
    · obtain ⟨a, b, c⟩ := u_known hts (fun w hw => (List.mem_filter.mp (lay_in h w hw)).1) (hts _ (ins_in h))
      exact ⟨(a, b), fun _ => c⟩
    · exact ⟨(0, fun _ => 0), fun z => absurd z h⟩
  have h2 : ∃ cI : ClassId, ArrOfT s cI .int ∧ va_RA s cI .int := by
    obtain ⟨c, k, comp, z1, z2, z3⟩ := Cond.arrayClass_spec (hts _ (List.mem_of_getElem? (wAt_eq okArr)))
    exact ⟨c, fun n z => ⟨fun k h => (by cases h), k, z2, comp, z3⟩, z1⟩
  have h3 : ∀ t, ∃ cA : ClassId, (21 ≤ t ∧ t ≤ 25) → ArrOfT s cA (.object (aName t)) ∧ va_RA s cA (.object (aName t)) := fun t => by
    by_cases h : 21 ≤ t ∧ t ≤ 25
    · obtain ⟨comp, c, k, z1, -, z2, z3, z4⟩ := Cond.arrayOver_spec (hts _ (anw_in h))
      exact ⟨c, fun _ => ⟨fun n z => ⟨fun k h => (by cases h), k, z2, comp, z3⟩, k, comp, z2, z3, z1, z4⟩⟩
    · exact ⟨0, fun z => absurd z h⟩
  obtain ⟨cI, hI⟩ := h2
  refine ⟨(fun ci => (Classical.choose (h1 ci)).1, fun ci => (Classical.choose (h1 ci)).2), cI, fun t => Classical.choose (h3 t), ⟨fun k q hq => ?_, fun k q hq => ?_⟩, fun w hw => ?_⟩
  · have hk : k < 12 := by
      have := (List.getElem?_eq_some_iff.mp hq).1
      simpa using this
    rw [cl_at hk] at hq
    cases hq
    exact Classical.choose_spec (h1 k) hk
  · have hk : k < 6 := (List.getElem?_eq_some_iff.mp hq).1
    have e : k = 0 ∨ k = 1 ∨ k = 2 ∨ k = 3 ∨ k = 4 ∨ k = 5 := by omega
    rcases e with rfl | rfl | rfl | rfl | rfl | rfl <;> cases hq
    · exact hI
    · exact Classical.choose_spec (h3 21) (by decide)
    · exact Classical.choose_spec (h3 22) (by decide)
    · exact Classical.choose_spec (h3 23) (by decide)
    · exact Classical.choose_spec (h3 24) (by decide)
    · exact Classical.choose_spec (h3 25) (by decide)
  · obtain ⟨w1, w2⟩ := List.mem_filter.mp hw
    have hb := hts w w1
    cases w with
    | methodLinkNest a i x hst => exact va_Nw.of rfl hb
    | fieldLinkNest a i b n d hst => exact va_Nw.of rfl hb
    | castable a b => exact va_Nw.of rfl hb
    | arrayOver t =>
      cases t with
      | object C => exact Cond.arrayOver_alike (Vm.Alike.refl _) hb
      | _ => simp [nestW] at w2
    | _ => simp [nestW] at w2
/-- the heap at the law's entry -/
def hE (L : Nat) (xs : Nat → Int32) : Hp := (fun r => if r = 500 then 30 else if r = 501 then 30 else if r = 502 then 30 else 0, fun r => if r = 500 then 8 else if r = 501 then 6 else if r = 502 then L else 0, fun r k => if r = 500 then (fct k.toNat : Nat) else if r = 501 then [102, 104, 114, 116, 110, 97][k.toNat]! else if r = 502 then (xs k.toNat).toInt else 0, fun _ _ => false, 0, 0)
def aE (t0 t1 b : Nat) (r : Nat) : Nat := if r = 500 then t0 else if r = 501 then t1 else b
theorem hE_tg {L : Nat} {xs : Nat → Int32} {r : Nat} (h : tg (hE L xs) r ≠ 0) : r = 500 ∨ r = 501 ∨ r = 502 := by
  by_cases h0 : r = 500
  · exact Or.inl h0
  · by_cases h1 : r = 501
    · exact Or.inr (Or.inl h1)
    · by_cases h2 : r = 502
      · exact Or.inr (Or.inr h2)
      · exact absurd ((if_neg h0).trans ((if_neg h1).trans (if_neg h2))) h
theorem rep_start {D : va_G} {cI : ClassId} {cA : Nat → ClassId} {s : State} {args : Array Value} {b L : Nat} {xs : Nat → Int32} (hL : L ≤ 260) (hts : ∀ w ∈ lw_tbl, w.before args s = true) (hX : va_X b L xs s s.heap) (hbl : b < s.heap.size) (hgv : (Jvm.Cond.and given_1 narrow_1).before args s = true) : ∃ t0 t1 : Nat, Rep D cI cA s.heap.size (aE t0 t1 b) (hE L xs) s s.heap := by
  have hs := flat_of_before _ hgv
  have nA : ∀ a : Nat, a < s.heap.size → ¬ (fun q => s.heap.size ≤ q) a := fun a ha => Nat.not_le.mpr ha
  obtain ⟨t0, e0, T0⟩ := va_Tof (args := args) (s := s) (tm := .static "NutsUp" "FACTORIALS" "[I") (ty := .int) (N := 8) (f := fun j => .int (I (iv (hE L xs) 500 (j : Nat)))) (by decide) (hs _ (by decide +kernel)) (va_eqt (hs (Cond.eq (.length (.static "NutsUp" "FACTORIALS" "[I")) (.int 8)) (by decide +kernel))) (fun j hj => by
    have e : j = 0 ∨ j = 1 ∨ j = 2 ∨ j = 3 ∨ j = 4 ∨ j = 5 ∨ j = 6 ∨ j = 7 := by omega
    rcases e with rfl | rfl | rfl | rfl | rfl | rfl | rfl | rfl
    · exact va_eqt (hs (Cond.eq (.elem (.static "NutsUp" "FACTORIALS" "[I") (.int 0)) (.int 1)) (by decide +kernel))
    · exact va_eqt (hs (Cond.eq (.elem (.static "NutsUp" "FACTORIALS" "[I") (.int 1)) (.int 1)) (by decide +kernel))
    · exact va_eqt (hs (Cond.eq (.elem (.static "NutsUp" "FACTORIALS" "[I") (.int 2)) (.int 2)) (by decide +kernel))
    · exact va_eqt (hs (Cond.eq (.elem (.static "NutsUp" "FACTORIALS" "[I") (.int 3)) (.int 6)) (by decide +kernel))
    · exact va_eqt (hs (Cond.eq (.elem (.static "NutsUp" "FACTORIALS" "[I") (.int 4)) (.int 24)) (by decide +kernel))
    · exact va_eqt (hs (Cond.eq (.elem (.static "NutsUp" "FACTORIALS" "[I") (.int 5)) (.int 120)) (by decide +kernel))
    · exact va_eqt (hs (Cond.eq (.elem (.static "NutsUp" "FACTORIALS" "[I") (.int 6)) (.int 720)) (by decide +kernel))
    · exact va_eqt (hs (Cond.eq (.elem (.static "NutsUp" "FACTORIALS" "[I") (.int 7)) (.int 5040)) (by decide +kernel))) nA
  obtain ⟨t1, e1, T1⟩ := va_Tof (args := args) (s := s) (tm := .static "NutsUp" "LETTERS" "[I") (ty := .int) (N := 6) (f := fun j => .int (I (iv (hE L xs) 501 (j : Nat)))) (by decide) (hs _ (by decide +kernel)) (va_eqt (hs (Cond.eq (.length (.static "NutsUp" "LETTERS" "[I")) (.int 6)) (by decide +kernel))) (fun j hj => by
    have e : j = 0 ∨ j = 1 ∨ j = 2 ∨ j = 3 ∨ j = 4 ∨ j = 5 := by omega
    rcases e with rfl | rfl | rfl | rfl | rfl | rfl
    · exact va_eqt (hs (Cond.eq (.elem (.static "NutsUp" "LETTERS" "[I") (.int 0)) (.int 102)) (by decide +kernel))
    · exact va_eqt (hs (Cond.eq (.elem (.static "NutsUp" "LETTERS" "[I") (.int 1)) (.int 104)) (by decide +kernel))
    · exact va_eqt (hs (Cond.eq (.elem (.static "NutsUp" "LETTERS" "[I") (.int 2)) (.int 114)) (by decide +kernel))
    · exact va_eqt (hs (Cond.eq (.elem (.static "NutsUp" "LETTERS" "[I") (.int 3)) (.int 116)) (by decide +kernel))
    · exact va_eqt (hs (Cond.eq (.elem (.static "NutsUp" "LETTERS" "[I") (.int 4)) (.int 110)) (by decide +kernel))
    · exact va_eqt (hs (Cond.eq (.elem (.static "NutsUp" "LETTERS" "[I") (.int 5)) (.int 97)) (by decide +kernel))) nA
  have z0 : va_Z "NutsUp" "FACTORIALS" "[I" (.ref t0) (fun q => s.heap.size ≤ q) s s.heap := va_Zref (hts (.laysStatic "NutsUp" "FACTORIALS" "[I") (by decide +kernel)) (hts (.initialized "NutsUp") (by decide +kernel)) e0 nA
  have z1 : va_Z "NutsUp" "LETTERS" "[I" (.ref t1) (fun q => s.heap.size ≤ q) s s.heap := va_Zref (hts (.laysStatic "NutsUp" "LETTERS" "[I") (by decide +kernel)) (hts (.initialized "NutsUp") (by decide +kernel)) e1 nA
  have T2 : va_T .int b L (fun j => .int (I (iv (hE L xs) 502 (j : Nat)))) (fun q => s.heap.size ≤ q) s s.heap := by
    obtain ⟨scr, h1, h2, h3, h4, h5⟩ := hX
    refine ⟨scr, h1, h2, h3, Nat.le_of_eq h4.symm, by rw [h4], fun j hj => ?_, nA b hbl⟩
    rw [h5 j hj]
    have : I (iv (hE L xs) 502 (j : Nat)) = xs j := Int32.ofInt_toInt (xs j)
    show some (Value.int (xs j)) = some (Value.int (I (iv (hE L xs) 502 (j : Nat))))
    rw [this]
  have t30 : ∀ r, tg (hE L xs) r ≠ 0 → tg (hE L xs) r = 30 := fun r hr => by
    rcases hE_tg hr with rfl | rfl | rfl <;> rfl
  refine ⟨t0, t1, rfl, fun r hr => ⟨fun ci h1 h2 => ?_, fun h1 => ?_, fun h1 h2 => ?_, fun _ => ?_⟩, fun r h1 h2 => absurd (t30 r h1) h2, fun r q h1 h2 => absurd (t30 r h1) h2, fun r hr => Or.inr (Or.inr (t30 r hr)), fun r k h1 h2 => absurd h2 (by intro z; cases z), fun r hg ht => ?_, z0, z1⟩
  · have := t30 r hr; omega
  · have := t30 r hr; omega
  · have := t30 r hr; omega
  · rcases hE_tg hr with rfl | rfl | rfl
    · exact T0
    · exact T1
    · exact T2
  · have hr : tg (hE L xs) r ≠ 0 := by rw [ht]; decide
    rcases hE_tg hr with rfl | rfl | rfl <;> exact absurd hg (by decide)
theorem SL_bd {n : Nat} {d : Nat → Nat → Int} {h : Hp} (x : RX n d h) (z : TZ d h) : SL h ≤ 100800 := by
  have g : ∀ r ∈ gws, ln h r ≤ 5040 := fun r hr => (x.1.2.2.1 r hr).2.le
  have l3 := x.1.2.2.2.2.2.2.1
  have j : ∀ l j, l < 4 → j < 3 → ln h (64 * (l + 1) + 19 + 4 * j) ≤ 5040 := fun l j hl hj => by
    by_cases c : (l : Int) < d 0 3
    · exact ((x.1.2.2.2.2.2.2.2 l c).2.2.2 j hj).2.le
    · have := (z l (by omega) hl (64 * (l + 1) + 19 + 4 * j) (by omega) (by omega)).2
      omega
  have a3 := g 3 (by decide)
  have a20 := g 20 (by decide)
  have a21 := g 21 (by decide)
  have a22 := g 22 (by decide)
  have a23 := g 23 (by decide)
  have a24 := g 24 (by decide)
  have a25 := g 25 (by decide)
  have a26 := g 26 (by decide)
  have b0 : ln h 83 ≤ 5040 := j 0 0 (by decide) (by decide)
  have b1 : ln h 87 ≤ 5040 := j 0 1 (by decide) (by decide)
  have b2 : ln h 91 ≤ 5040 := j 0 2 (by decide) (by decide)
  have b3 : ln h 147 ≤ 5040 := j 1 0 (by decide) (by decide)
  have b4 : ln h 151 ≤ 5040 := j 1 1 (by decide) (by decide)
  have b5 : ln h 155 ≤ 5040 := j 1 2 (by decide) (by decide)
  have b6 : ln h 211 ≤ 5040 := j 2 0 (by decide) (by decide)
  have b7 : ln h 215 ≤ 5040 := j 2 1 (by decide) (by decide)
  have b8 : ln h 219 ≤ 5040 := j 2 2 (by decide) (by decide)
  have b9 : ln h 275 ≤ 5040 := j 3 0 (by decide) (by decide)
  have c0 : ln h 279 ≤ 5040 := j 3 1 (by decide) (by decide)
  have c1 : ln h 283 ≤ 5040 := j 3 2 (by decide) (by decide)
  unfold SL
  omega
section BEGIN2
variable {g : Int → Int} {M kc ku N G L Mr W : Nat} {d : Nat → Nat → Int} {t : Nat} {h : Hp} {P : Value → Hp → Prop} {a3 : Value}
theorem mk19 (h : Hp) (q : Nat) : tg (mk h q 20 (19 : Int).toNat (19 : Int).toNat) q = 20 ∧ ln (mk h q 20 (19 : Int).toNat (19 : Int).toNat) q = 19 := ⟨by rw [tg_mk, if_pos rfl], by rw [ln_mk, if_pos rfl]; rfl⟩
theorem ng_v : ng [.retAddr 0, .retAddr 0, .retAddr 0, .retAddr 0, .retAddr 0, .retAddr 0, .retAddr 0, .retAddr 0, .retAddr 0, .retAddr 0, .retAddr 0, .retAddr 0, .retAddr 0, .retAddr 0, .retAddr 0, .retAddr 0, .retAddr 0, .retAddr 0, .retAddr 0, .retAddr 0, .retAddr 0] = true := rfl
/-- the first law -/
theorem beg_50 {t0 : Nat} (cn : 2 ≤ N ∧ N ≤ 6) (hM : M ≤ 260) (rg : 10000 ≤ G) (n3 : ngv a3 = true) (kk : ∀ (h' : Hp) (d' : Nat → Nat → Int) (t' : Nat), ZZ g M kc ku N d' t' h' → t' ≤ t0 + 9100 → P (.int (I 1)) h') (ht : t + 100 ≤ t0) (hd : d 0 1 = 0 ∧ d 0 2 = 0 ∧ d 0 3 = 0 ∧ d 0 4 = 0) (z : ZZ g M kc ku N d t h) (b : AG N d G h) (pp : G < 10000 + ck h) :
    R 99 50 [.ref 502, .ref 0, .ref G, a3, .retAddr 0, .retAddr 0, .retAddr 0, .retAddr 0, .retAddr 0, .retAddr 0, .retAddr 0, .retAddr 0, .retAddr 0, .retAddr 0, .retAddr 0, .retAddr 0, .retAddr 0, .retAddr 0, .retAddr 0, .retAddr 0, .retAddr 0, .retAddr 0, .retAddr 0, .retAddr 0, .retAddr 0, .retAddr 0, .retAddr 0, .retAddr 0] [.int (I (-3))] h P := by
  obtain ⟨⟨gt, gl⟩, g24, ga⟩ := id b
  have k1 : ck (mk h (10000 + ck h) 20 (19 : Int).toNat (19 : Int).toNat) = ck h + 1 := rfl
  refine t_L_law_50 ?_
  rw [g24, gl]
  have z1 := z.mk (m := (19 : Int).toNat) (by decide)
  have z2 := z1.mk (m := (19 : Int).toNat) (by decide)
  refine ⟨by decide, fun _ => ⟨Or.inl gt, by omega, by omega, z.fz _ (Nat.le_refl _), z1.fz _ (Nat.le_refl _), ?_⟩, fun w => absurd rfl w⟩
  obtain ⟨l1, l2⟩ := mk19 h (10000 + ck h)
  have k2 : ck (mk (mk h (10000 + ck h) 20 (19 : Int).toNat (19 : Int).toNat) (10000 + ck (mk h (10000 + ck h) 20 (19 : Int).toNat (19 : Int).toNat)) 20 (19 : Int).toNat (19 : Int).toNat) = ck h + 2 := rfl
  obtain ⟨m1, m2⟩ := mk19 (mk h (10000 + ck h) 20 (19 : Int).toNat (19 : Int).toNat) (10000 + ck (mk h (10000 + ck h) 20 (19 : Int).toNat (19 : Int).toNat))
  have gG : Gp h (mk (mk h (10000 + ck h) 20 (19 : Int).toNat (19 : Int).toNat) (10000 + ck (mk h (10000 + ck h) 20 (19 : Int).toNat (19 : Int).toNat)) 20 (19 : Int).toNat (19 : Int).toNat) G := (Gp.mk _ _ _ (by omega)).tr (Gp.mk _ _ _ (by omega))
  have gL : Gp (mk h (10000 + ck h) 20 (19 : Int).toNat (19 : Int).toNat) (mk (mk h (10000 + ck h) 20 (19 : Int).toNat (19 : Int).toNat) (10000 + ck (mk h (10000 + ck h) 20 (19 : Int).toNat (19 : Int).toNat)) 20 (19 : Int).toNat (19 : Int).toNat) (10000 + ck h) := Gp.mk _ _ _ (by omega)
  have tl := gL.1.trans l1
  have ll := gL.2.1.trans l2
  have b2 := b.gp gG
  generalize (mk (mk h (10000 + ck h) 20 (19 : Int).toNat (19 : Int).toNat) (10000 + ck (mk h (10000 + ck h) 20 (19 : Int).toNat (19 : Int).toNat)) 20 (19 : Int).toNat (19 : Int).toNat) = h2 at *
  have em : 10000 + ck (mk h (10000 + ck h) 20 (19 : Int).toNat (19 : Int).toNat) = 10000 + ck h + 1 := rfl
  rw [em] at m1 m2 ⊢
  generalize hL : 10000 + ck h = L at *
  have rL : 10000 ≤ L := by omega
  refine R.up (s_Lcauses hM (f := 4) (by decide) z2 rL tl ll fun h3 d3 t3 z3 ht3 de3 e10 e11 f3 ac3 c3 cm3 => t_L_law_83 ?_)
  have cb := cCn_bd g M 4
  have nG := nv rg
  have nL := nv rL
  have nM := nv (show 10000 ≤ L + 1 by omega)
  obtain ⟨v1, v2⟩ := law_ok e10 e11 c3 (cLt_bd g M 4) (cNm_bd g M 4) (cHd_bd g M 4) cb.1 (by rw [de3.2 3 (by decide)]; omega)
  refine ⟨by omega, fun q => absurd q (by omega), fun _ => ⟨okg_i rfl rfl rfl rfl (ng_ok rfl (ng_c rfl (ng_c rfl (ng_c nG (ng_c n3 (ng_c rfl (ng_c nL (ng_c nM (ng_c rfl rfl))))))))), z3.rx.S.t0, R.up (s_law z3.rx z3.tz (by decide) (by decide) (by decide) (by omega) fun h4 kl4 cm4 => ?_)⟩⟩
  have e03 : d3 0 3 = 0 := by rw [de3.2 3 (by decide)]; exact hd.2.2.1
  rw [v1, e03]
  rw [v2, e03] at kl4
  have z4 := z3.x kl4 cm4
  have gx : ∀ r, 10000 ≤ r → Gp h3 h4 r := fun r hr => kl4.2.1.p (X4_n (by omega))
  have al := law_al (d' := nlD (up d3 0 7 0) 0 (celH (up d3 0 7 0) 1 0) (cCn g M 4)) c3 (cLt_bd g M 4) rfl (ac3.gp (gx L rL))
  have de7 : ∀ f, 1 ≤ f → f ≤ 9 → up d3 0 7 0 f = d3 f := fun f h1 h2 => up_f (by omega)
  have ag : AG N (nlD (up d3 0 7 0) 0 (celH (up d3 0 7 0) 1 0) (cCn g M 4)) G h4 := by
    have q := ((b2.gp (f3 G rg (by omega))).cg de3.1 |>.gp (gx G rg)).cg de7
    unfold AG at q ⊢
    rw [nlD_f (by decide), nlD_f (by decide), nlD_f (by decide)]
    exact q
  have hd4 : nlD (up d3 0 7 0) 0 (celH (up d3 0 7 0) 1 0) (cCn g M 4) 0 1 = 0 ∧ nlD (up d3 0 7 0) 0 (celH (up d3 0 7 0) 1 0) (cCn g M 4) 0 2 = 0 ∧ nlD (up d3 0 7 0) 0 (celH (up d3 0 7 0) 1 0) (cCn g M 4) 0 3 = 1 ∧ nlD (up d3 0 7 0) 0 (celH (up d3 0 7 0) 1 0) (cCn g M 4) 0 4 = 0 := by
    refine ⟨?_, ?_, ?_, ?_⟩
    · rw [nlD_0 (by decide), up_ne (by omega), de3.2 1 (by decide)]; exact hd.1
    · rw [nlD_0 (by decide), up_ne (by omega), de3.2 2 (by decide)]; exact hd.2.1
    · rw [nlD_03, up_ne (by omega), e03]; rfl
    · rw [nlD_0 (by decide), up_ne (by omega), de3.2 4 (by decide)]; exact hd.2.2.2
  have z4 : ZZ g M kc ku N (nlD (up d3 0 7 0) 0 (celH (up d3 0 7 0) 1 0) (cCn g M 4)) (t3 + 1) h4 := z4
  have tM : tg h4 (L + 1) = 20 ∧ ln h4 (L + 1) = 19 := by
    have q := (f3 (L + 1) (by omega) (by omega)).tr (gx (L + 1) (by omega))
    exact ⟨q.1.trans m1, q.2.1.trans m2⟩
  exact beg_100 (t0 := t0) cn hM ⟨rg, rL, by omega⟩ ⟨by omega, by omega, by omega⟩ n3 kk (ng_c n3 (ng_c rfl rfl)) (by omega) hd4 z4 ⟨ag, al⟩ tM ⟨by omega, by omega, by omega⟩
end BEGIN2
def outP (v : Value) (h : Hp) : Prop := v = .int (I 1) ∧ ck h ≤ 600000 ∧ cu h ≤ 7302250
theorem run_law {L : Nat} {xs : Nat → Int32} (hL : L ≤ 260) : R 99 0 [.ref 502, .retAddr 0, .retAddr 0, .retAddr 0, .retAddr 0, .retAddr 0, .retAddr 0, .retAddr 0, .retAddr 0, .retAddr 0, .retAddr 0, .retAddr 0, .retAddr 0, .retAddr 0, .retAddr 0, .retAddr 0, .retAddr 0, .retAddr 0, .retAddr 0, .retAddr 0, .retAddr 0, .retAddr 0, .retAddr 0, .retAddr 0, .retAddr 0, .retAddr 0, .retAddr 0, .retAddr 0] [] (hE L xs) outP := by
  have hz : ∀ r, r < 500 → tg (hE L xs) r = 0 := fun r hr => (if_neg (by omega)).trans ((if_neg (by omega)).trans (if_neg (by omega)))
  have hzl : ∀ r, r < 500 → ln (hE L xs) r = 0 := fun r hr => (if_neg (by omega)).trans ((if_neg (by omega)).trans (if_neg (by omega)))
  have LT : LTs (hE L xs) := ⟨rfl, rfl, fun k _ => rfl⟩
  have FA : tg (hE L xs) 500 = 30 ∧ ln (hE L xs) 500 = 8 ∧ ∀ k : Nat, k < 8 → iv (hE L xs) 500 k = (fct k : Nat) := ⟨rfl, rfl, fun k _ => rfl⟩
  refine t_L_law ⟨hz 0 (by decide), okg_i rfl rfl rfl rfl rfl, s_xinit (fun r hr => ⟨hz r (by omega), hzl r (by omega)⟩) LT FA fun h1 x1 z1 s1 b1 g1 c1 u1 => ?_⟩
  have k0 : ck (hE L xs) = 0 := rfl
  have u0 : cu (hE L xs) = 0 := rfl
  have q1 := g1 502 rfl
  have fz1 : FZ h1 := fun r hr => by
    rw [(g1 r (X4_n (by omega))).1]
    exact (if_neg (by omega)).trans ((if_neg (by omega)).trans (if_neg (by omega)))
  have zz1 : ZZ (iv (hE L xs) 502) L 200 41000 0 d00 0 h1 := ⟨⟨x1, z1⟩, ⟨by omega, by omega⟩, by rw [b1]; exact Int.le_refl _, ⟨q1.1, q1.2.1, q1.2.2.1⟩, fz1⟩
  have zz2 := zz1.mk (m := (25 : Int).toNat) (by decide)
  have kA : ck (mk h1 (10000 + ck h1) 20 (25 : Int).toNat (25 : Int).toNat) = ck h1 + 1 := rfl
  refine t_L_law_7 ⟨fz1 _ (Nat.le_refl _), ?_⟩
  have tG : tg (mk h1 (10000 + ck h1) 20 (25 : Int).toNat (25 : Int).toNat) (10000 + ck h1) = 20 := by rw [tg_mk, if_pos rfl]
  have lG : ln (mk h1 (10000 + ck h1) 20 (25 : Int).toNat (25 : Int).toNat) (10000 + ck h1) = 25 := by rw [ln_mk, if_pos rfl]; rfl
  generalize (mk h1 (10000 + ck h1) 20 (25 : Int).toNat (25 : Int).toNat) = h2 at *
  generalize hG : 10000 + ck h1 = G at *
  have rG : 10000 ≤ G := by omega
  generalize iv (hE L xs) 502 = g at *
  have nb := gN_bd g L
  refine R.up (s_Lput hL zz2 rG tG lG fun h3 d3 t3 z3 ht3 de3 e10 e11 f3 ah3 bt3 cm3 => t_L_law_22 ?_)
  have pb := ps_bd (gK_bd g L) (gN g L)
  have p2 : ps (gK g L) 2 ≤ ps (gK g L) (gN g L) := ps_le nb.1.1
  rw [ps, ps, ps] at p2
  obtain ⟨v1, v2, v3⟩ := box_ok e10 e11 bt3 (gK_bd g L) (gS_bd g L) (gW_bd g L) nb.1
  have nG := nv rG
  refine ⟨by omega, fun q => absurd q (by omega), fun _ => ⟨okg_i rfl rfl rfl rfl (ng_ok rfl (ng_c rfl (ng_c rfl (ng_c nG rfl)))), z3.rx.S.t0, R.up (s_box z3.rx z3.tz (by have := z3.2.2.1; omega) (by decide) (by decide) (by decide) (by omega) fun h4 kl4 cm4 => t_L_law_37 ?_)⟩⟩
  rw [v1]
  rw [v2, v3] at kl4
  have z4 := z3.x kl4 cm4
  have gx : ∀ r, 10000 ≤ r → Gp h3 h4 r := fun r hr => kl4.2.1.p (X4_n (by omega))
  have ag := box_ag (d' := bxD (up d3 0 7 0) (d3 12) (ps (gK g L) (gN g L) - 1)) bt3 (gK_bd g L) rfl (ah3.gp (gx G rG))
  have hd : bxD (up d3 0 7 0) (d3 12) (ps (gK g L) (gN g L) - 1) 0 1 = 0 ∧ bxD (up d3 0 7 0) (d3 12) (ps (gK g L) (gN g L) - 1) 0 2 = 0 ∧ bxD (up d3 0 7 0) (d3 12) (ps (gK g L) (gN g L) - 1) 0 3 = 0 ∧ bxD (up d3 0 7 0) (d3 12) (ps (gK g L) (gN g L) - 1) 0 4 = 0 := by
    unfold bxD
    refine ⟨if_pos (by omega), if_pos (by omega), ?_, ?_⟩
    · rw [if_neg (by omega), if_neg (by omega), if_neg (by omega), if_neg (by omega), up_ne (by omega), de3.2 3 (by decide)]; rfl
    · rw [if_neg (by omega), if_neg (by omega), if_neg (by omega), if_neg (by omega), up_ne (by omega), de3.2 4 (by decide)]; rfl
  generalize bxD (up d3 0 7 0) (d3 12) (ps (gK g L) (gN g L) - 1) = d4 at *
  obtain ⟨⟨gt, gl⟩, g24, ga⟩ := id ag
  rw [g24, gl]
  refine ⟨Or.inl gt, by omega, by omega, by omega, by omega, fun _ => ⟨okg_i rfl rfl rfl rfl (ng_ok rfl (ng_c rfl (ng_c rfl (ng_c nG (ng_c rfl rfl))))), z4.rx.S.t0, s_shake z4.rx (by decide) (by decide) fun h5 k5 => ?_⟩, fun w => absurd rfl w⟩
  have sV : shakeV (gN g L) d4 1 1 = -3 := by
    unfold shakeV
    rw [if_neg (by omega), if_pos (Or.inr hd.2.2.1)]
  have sD : shakeD (gN g L) d4 1 1 = d4 := by
    unfold shakeD
    rw [if_neg (by omega), if_pos (Or.inr hd.2.2.1)]
  rw [sD] at k5
  rw [sV]
  have cm5 := k5.c
  refine beg_50 (t0 := 200) nb.1 hL rG rfl (fun h' d' t' z' ht' => ⟨rfl, ?_⟩) (by omega) hd (z4.k k5 rfl) (ag.gp (k5.2.1.p (X4_n (by omega)))) (by omega)
  have sb := SL_bd z'.rx z'.tz
  have c := z'.2.1
  exact ⟨by omega, by omega⟩
