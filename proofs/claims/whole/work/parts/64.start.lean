/-! From the law's entry: the classes, the tables of the class, the script; the run. -/
theorem insAll : (List.range 13).all (fun ci => newTab.any (fun q => q.2.2.1 == ci)) = true := by decide +kernel
theorem anwAll : (List.range 5).all (fun t => anwTab.any (fun q => q.2.2.1 == t + 21)) = true := by decide +kernel
theorem ins_in {ci : Nat} (h : ci < 13) : (Cond.instantiable (cn ci) (cSz ci)) ∈ lw_tbl := by
  have q := List.all_eq_true.mp insAll ci (List.mem_range.mpr h)
  obtain ⟨r, r1, r2⟩ := List.any_eq_true.mp q
  have e : r.2.2.1 = ci := by simpa using r2
  have o := List.all_eq_true.mp okNew_all r r1
  simp only [okNew, Bool.and_eq_true] at o
  rw [e] at o
  exact List.mem_of_getElem? (wAt_eq o.1.1.2)
theorem anw_in {t : Nat} (h : 21 ≤ t ∧ t ≤ 25) : (Cond.arrayOver (.object (aName t))) ∈ lw_tbl := by
  have q := List.all_eq_true.mp anwAll (t - 21) (List.mem_range.mpr (by omega))
  obtain ⟨r, r1, r2⟩ := List.any_eq_true.mp q
  have e : r.2.2.1 = t := by
    have : r.2.2.1 = t - 21 + 21 := by simpa using r2
    omega
  have o := List.all_eq_true.mp okAnw_all r r1
  simp only [okAnw, Bool.and_eq_true] at o
  rw [e] at o
  exact List.mem_of_getElem? (wAt_eq o.1.2)
theorem kf_start {s : State} {args : Array Value} (hts : ∀ w ∈ lw_tbl, w.before args s = true) : ∃ (D : va_G) (cI : ClassId) (cA : Nat → ClassId), KF D cI cA s := by
  have h1 : ∀ ci, ∃ (q : ClassId × (Nat → Nat)), ci < 13 → u_Kn s (cn ci) (cT ci) (cSz ci) q.1 q.2 := fun ci => by
    by_cases h : ci < 13
    · obtain ⟨a, b, c⟩ := u_known hts (fun w hw => (List.mem_filter.mp (lay_in h w hw)).1) (hts _ (ins_in h))
      exact ⟨(a, b), fun _ => c⟩
    · exact ⟨(0, fun _ => 0), fun z => absurd z h⟩
  have h2 : ∃ cI : ClassId, ArrOfT s cI .int ∧ va_RA s cI .int := by
    obtain ⟨c, k, comp, z1, z2, z3⟩ := Cond.arrayClass_spec (hts _ (List.mem_of_getElem? (wAt_eq okArr)))
    exact ⟨c, fun n z => ⟨fun k h => (by cases h), k, z2, comp, z3⟩, z1⟩
  have h3 : ∀ t, ∃ cA : ClassId, (21 ≤ t ∧ t ≤ 25) → ArrOfT s cA (.object (aName t)) ∧ va_RA s cA (.object (aName t)) := fun t => by
    by_cases h : 21 ≤ t ∧ t ≤ 25
    · obtain ⟨comp, c, k, z1, -, z2, z3, z4⟩ := Cond.arrayOver_spec (hts _ (anw_in h))
      exact ⟨c, fun _ => ⟨fun n z => ⟨fun k h => (by cases h), k, z2, comp, z3⟩, k, comp, z2, z3, z1, z4⟩⟩
    · exact ⟨0, fun z => absurd z h⟩
  obtain ⟨cI, hI⟩ := h2
  refine ⟨(fun ci => (Classical.choose (h1 ci)).1, fun ci => (Classical.choose (h1 ci)).2), cI, fun t => Classical.choose (h3 t), ⟨fun k q hq => ?_, fun k q hq => ?_⟩, fun w hw => ?_⟩
  · have hk : k < 13 := by
      have := (List.getElem?_eq_some_iff.mp hq).1
      simpa using this
    rw [cl_at hk] at hq
    cases hq
    exact Classical.choose_spec (h1 k) hk
  · have hk : k < 6 := (List.getElem?_eq_some_iff.mp hq).1
    have e : k = 0 ∨ k = 1 ∨ k = 2 ∨ k = 3 ∨ k = 4 ∨ k = 5 := by omega
    rcases e with rfl | rfl | rfl | rfl | rfl | rfl <;> cases hq
    · exact hI
    · exact Classical.choose_spec (h3 21) (by decide)
    · exact Classical.choose_spec (h3 22) (by decide)
    · exact Classical.choose_spec (h3 23) (by decide)
    · exact Classical.choose_spec (h3 24) (by decide)
    · exact Classical.choose_spec (h3 25) (by decide)
  · obtain ⟨w1, w2⟩ := List.mem_filter.mp hw
    have hb := hts w w1
    cases w with
    | methodLinkNest a i x hst => exact va_Nw.of rfl hb
    | fieldLinkNest a i b n d hst => exact va_Nw.of rfl hb
    | castable a b => exact va_Nw.of rfl hb
    | arrayOver t =>
      cases t with
      | object C => exact Cond.arrayOver_alike (Vm.Alike.refl _) hb
      | _ => simp [nestW] at w2
    | _ => simp [nestW] at w2
/-- the heap at the law's entry -/
def hE (L : Nat) (xs : Nat → Int32) : Hp := (fun r => if r = 500 then 30 else if r = 501 then 30 else if r = 502 then 30 else 0, fun r => if r = 500 then 8 else if r = 501 then 6 else if r = 502 then L else 0, fun r k => if r = 500 then (fct k.toNat : Nat) else if r = 501 then [102, 104, 114, 116, 110, 97][k.toNat]! else if r = 502 then (xs k.toNat).toInt else 0, fun _ _ => false, 0, 0)
def aE (t0 t1 b : Nat) (r : Nat) : Nat := if r = 500 then t0 else if r = 501 then t1 else b
theorem hE_tg {L : Nat} {xs : Nat → Int32} {r : Nat} (h : tg (hE L xs) r ≠ 0) : r = 500 ∨ r = 501 ∨ r = 502 := by
  by_cases h0 : r = 500
  · exact Or.inl h0
  · by_cases h1 : r = 501
    · exact Or.inr (Or.inl h1)
    · by_cases h2 : r = 502
      · exact Or.inr (Or.inr h2)
      · exact absurd ((if_neg h0).trans ((if_neg h1).trans (if_neg h2))) h
theorem rep_start {D : va_G} {cI : ClassId} {cA : Nat → ClassId} {s : State} {args : Array Value} {b L : Nat} {xs : Nat → Int32} (hL : L ≤ 3584) (hts : ∀ w ∈ lw_tbl, w.before args s = true) (hX : va_X b L xs s s.heap) (hbl : b < s.heap.size) (hgv : (Jvm.Cond.and given_1 narrow_1).before args s = true) : ∃ t0 t1 : Nat, Rep D cI cA s.heap.size (aE t0 t1 b) (hE L xs) s s.heap := by
  have hs := flat_of_before _ hgv
  have nA : ∀ a : Nat, a < s.heap.size → ¬ (fun q => s.heap.size ≤ q) a := fun a ha => Nat.not_le.mpr ha
  obtain ⟨t0, e0, T0⟩ := va_Tof (args := args) (s := s) (tm := .static "NutsUp" "FACTORIALS" "[I") (ty := .int) (N := 8) (f := fun j => .int (I (iv (hE L xs) 500 (j : Nat)))) (by decide) (hs _ (by decide +kernel)) (va_eqt (hs (Cond.eq (.length (.static "NutsUp" "FACTORIALS" "[I")) (.int 8)) (by decide +kernel))) (fun j hj => by
    have e : j = 0 ∨ j = 1 ∨ j = 2 ∨ j = 3 ∨ j = 4 ∨ j = 5 ∨ j = 6 ∨ j = 7 := by omega
    rcases e with rfl | rfl | rfl | rfl | rfl | rfl | rfl | rfl
    · exact va_eqt (hs (Cond.eq (.elem (.static "NutsUp" "FACTORIALS" "[I") (.int 0)) (.int 1)) (by decide +kernel))
    · exact va_eqt (hs (Cond.eq (.elem (.static "NutsUp" "FACTORIALS" "[I") (.int 1)) (.int 1)) (by decide +kernel))
    · exact va_eqt (hs (Cond.eq (.elem (.static "NutsUp" "FACTORIALS" "[I") (.int 2)) (.int 2)) (by decide +kernel))
    · exact va_eqt (hs (Cond.eq (.elem (.static "NutsUp" "FACTORIALS" "[I") (.int 3)) (.int 6)) (by decide +kernel))
    · exact va_eqt (hs (Cond.eq (.elem (.static "NutsUp" "FACTORIALS" "[I") (.int 4)) (.int 24)) (by decide +kernel))
    · exact va_eqt (hs (Cond.eq (.elem (.static "NutsUp" "FACTORIALS" "[I") (.int 5)) (.int 120)) (by decide +kernel))
    · exact va_eqt (hs (Cond.eq (.elem (.static "NutsUp" "FACTORIALS" "[I") (.int 6)) (.int 720)) (by decide +kernel))
    · exact va_eqt (hs (Cond.eq (.elem (.static "NutsUp" "FACTORIALS" "[I") (.int 7)) (.int 5040)) (by decide +kernel))) nA
  obtain ⟨t1, e1, T1⟩ := va_Tof (args := args) (s := s) (tm := .static "NutsUp" "LETTERS" "[I") (ty := .int) (N := 6) (f := fun j => .int (I (iv (hE L xs) 501 (j : Nat)))) (by decide) (hs _ (by decide +kernel)) (va_eqt (hs (Cond.eq (.length (.static "NutsUp" "LETTERS" "[I")) (.int 6)) (by decide +kernel))) (fun j hj => by
    have e : j = 0 ∨ j = 1 ∨ j = 2 ∨ j = 3 ∨ j = 4 ∨ j = 5 := by omega
    rcases e with rfl | rfl | rfl | rfl | rfl | rfl
    · exact va_eqt (hs (Cond.eq (.elem (.static "NutsUp" "LETTERS" "[I") (.int 0)) (.int 102)) (by decide +kernel))
    · exact va_eqt (hs (Cond.eq (.elem (.static "NutsUp" "LETTERS" "[I") (.int 1)) (.int 104)) (by decide +kernel))
    · exact va_eqt (hs (Cond.eq (.elem (.static "NutsUp" "LETTERS" "[I") (.int 2)) (.int 114)) (by decide +kernel))
    · exact va_eqt (hs (Cond.eq (.elem (.static "NutsUp" "LETTERS" "[I") (.int 3)) (.int 116)) (by decide +kernel))
    · exact va_eqt (hs (Cond.eq (.elem (.static "NutsUp" "LETTERS" "[I") (.int 4)) (.int 110)) (by decide +kernel))
    · exact va_eqt (hs (Cond.eq (.elem (.static "NutsUp" "LETTERS" "[I") (.int 5)) (.int 97)) (by decide +kernel))) nA
  have z0 : va_Z "NutsUp" "FACTORIALS" "[I" (.ref t0) (fun q => s.heap.size ≤ q) s s.heap := va_Zref (hts (.laysStatic "NutsUp" "FACTORIALS" "[I") (by decide +kernel)) (hts (.initialized "NutsUp") (by decide +kernel)) e0 nA
  have z1 : va_Z "NutsUp" "LETTERS" "[I" (.ref t1) (fun q => s.heap.size ≤ q) s s.heap := va_Zref (hts (.laysStatic "NutsUp" "LETTERS" "[I") (by decide +kernel)) (hts (.initialized "NutsUp") (by decide +kernel)) e1 nA
  have T2 : va_T .int b L (fun j => .int (I (iv (hE L xs) 502 (j : Nat)))) (fun q => s.heap.size ≤ q) s s.heap := by
    obtain ⟨scr, h1, h2, h3, h4, h5⟩ := hX
    refine ⟨scr, h1, h2, h3, Nat.le_of_eq h4.symm, by rw [h4], fun j hj => ?_, nA b hbl⟩
    rw [h5 j hj]
    have : I (iv (hE L xs) 502 (j : Nat)) = xs j := Int32.ofInt_toInt (xs j)
    show some (Value.int (xs j)) = some (Value.int (I (iv (hE L xs) 502 (j : Nat))))
    rw [this]
  have t30 : ∀ r, tg (hE L xs) r ≠ 0 → tg (hE L xs) r = 30 := fun r hr => by
    rcases hE_tg hr with rfl | rfl | rfl <;> rfl
  refine ⟨t0, t1, rfl, fun r hr => ⟨fun ci h1 h2 => ?_, fun h1 => ?_, fun h1 h2 => ?_, fun _ => ?_⟩, fun r h1 h2 => absurd (t30 r h1) h2, fun r q h1 h2 => absurd (t30 r h1) h2, fun r hr => Or.inr (Or.inr (t30 r hr)), fun r k h1 h2 => absurd h2 (by intro z; cases z), fun r hg ht => ?_, z0, z1⟩
  · have := t30 r hr; omega
  · have := t30 r hr; omega
  · have := t30 r hr; omega
  · rcases hE_tg hr with rfl | rfl | rfl
    · exact T0
    · exact T1
    · exact T2
  · have hr : tg (hE L xs) r ≠ 0 := by rw [ht]; decide
    rcases hE_tg hr with rfl | rfl | rfl <;> exact absurd hg (by decide)
theorem SL_bd {n : Nat} {d : Nat → Nat → Int} {h : Hp} (x : RX n d h) (z : TZ d h) : SL h ≤ 100800 := by
  have g : ∀ r ∈ gws, ln h r ≤ 5040 := fun r hr => (x.1.2.2.1 r hr).2.le
  have l3 := x.1.2.2.2.2.2.2.1
  have j : ∀ l j, l < 4 → j < 3 → ln h (64 * (l + 1) + 19 + 4 * j) ≤ 5040 := fun l j hl hj => by
    by_cases c : (l : Int) < d 0 3
    · exact ((x.1.2.2.2.2.2.2.2 l c).2.2.2 j hj).2.le
    · have := (z l (by omega) hl (64 * (l + 1) + 19 + 4 * j) (by omega) (by omega)).2
      omega
  have a3 := g 3 (by decide)
  have a20 := g 20 (by decide)
  have a21 := g 21 (by decide)
  have a22 := g 22 (by decide)
  have a23 := g 23 (by decide)
  have a24 := g 24 (by decide)
  have a25 := g 25 (by decide)
  have a26 := g 26 (by decide)
  have b0 : ln h 83 ≤ 5040 := j 0 0 (by decide) (by decide)
  have b1 : ln h 87 ≤ 5040 := j 0 1 (by decide) (by decide)
  have b2 : ln h 91 ≤ 5040 := j 0 2 (by decide) (by decide)
  have b3 : ln h 147 ≤ 5040 := j 1 0 (by decide) (by decide)
  have b4 : ln h 151 ≤ 5040 := j 1 1 (by decide) (by decide)
  have b5 : ln h 155 ≤ 5040 := j 1 2 (by decide) (by decide)
  have b6 : ln h 211 ≤ 5040 := j 2 0 (by decide) (by decide)
  have b7 : ln h 215 ≤ 5040 := j 2 1 (by decide) (by decide)
  have b8 : ln h 219 ≤ 5040 := j 2 2 (by decide) (by decide)
  have b9 : ln h 275 ≤ 5040 := j 3 0 (by decide) (by decide)
  have c0 : ln h 279 ≤ 5040 := j 3 1 (by decide) (by decide)
  have c1 : ln h 283 ≤ 5040 := j 3 2 (by decide) (by decide)
  unfold SL
  omega
def outP (v : Value) (h : Hp) : Prop := v = .int (I 1) ∧ ck h ≤ 600000 ∧ cu h ≤ 7302250
theorem run_law {L : Nat} {xs : Nat → Int32} (hL : L ≤ 3584) : R 208 0 [.ref 502, .retAddr 0, .retAddr 0, .retAddr 0] [] (hE L xs) outP := by
  have hz : ∀ r, r < 440 → tg (hE L xs) r = 0 := fun r hr => (if_neg (by omega)).trans ((if_neg (by omega)).trans (if_neg (by omega)))
  have hzl : ∀ r, r < 440 → ln (hE L xs) r = 0 := fun r hr => (if_neg (by omega)).trans ((if_neg (by omega)).trans (if_neg (by omega)))
  have LT : LTs (hE L xs) := ⟨rfl, rfl, fun k _ => rfl⟩
  have FA : tg (hE L xs) 500 = 30 ∧ ln (hE L xs) 500 = 8 ∧ ∀ k : Nat, k < 8 → iv (hE L xs) 500 k = (fct k : Nat) := ⟨rfl, rfl, fun k _ => rfl⟩
  refine t_L_law ⟨hz 0 (by decide), okg_i rfl rfl rfl rfl rfl, s_xinit (fun r hr => ⟨hz r (by omega), hzl r (by omega)⟩) LT FA fun h1 x1 z1 s1 b1 g1 c1 u1 => ?_⟩
  refine t_L_law_7 ⟨?_, okg_i rfl rfl rfl rfl rfl, y_init (fun r h2 h3 => ?_) fun h2 y2 g2 c2 u2 => ?_⟩
  · rw [(g1 400 rfl).1]; exact hz 400 (by decide)
  · rw [(g1 r (by
      cases hx : X4 r with
      | false => rfl
      | true => have := Nat.blt_eq.mp hx; omega)).1]
    exact hz r (by omega)
  · refine t_L_law_15 ?_
    have e : (.int (I 0) : Value) = .int (I (7 * ((0 : Nat) : Int))) := rfl
    have q1 := g1 502 rfl
    have q2 := g2 502 rfl
    have k0 : ck (hE L xs) = 0 := rfl
    have u0 : cu (hE L xs) = 0 := rfl
    have sl := SL.gy g2
    have m : LM (iv (hE L xs) 502) L 200 41000 0 d00 0 d00 0 h2 := ⟨⟨x1.gy g2, y2, z1.gy g2⟩, ⟨by omega, by omega⟩, by rw [(g2 1 rfl).2.2.1, b1]; exact Int.le_refl _, q2.1.trans q1.1, q2.2.1.trans q1.2.1, fun z => (q2.2.2.1 z).trans (q1.2.2.1 z)⟩
    refine law_loop (g := iv (hE L xs) 502) (M := L) (kc := 200) (ku := 41000) (fun k => ⟨Int32.le_toInt _, Int32.toInt_lt _⟩) hL (fun t n d h ht a => ⟨rfl, ?_⟩) (L + 1) 0 0 d00 h2 (by omega) (by omega) m
    have sb := SL_bd a.rx a.tz
    have c := a.2.1
    exact ⟨by omega, by omega⟩
