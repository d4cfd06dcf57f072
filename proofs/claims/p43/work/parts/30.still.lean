/-! Rows, with what stays; how soon it is still; boss; what a mixture bears. -/
section FRAMES
variable {n : Nat} {d : Nat → Nat → Int} {h : Hp} {P : Value → Hp → Prop}
theorem bb_no {a b r : Nat} (h : ¬ (a ≤ r ∧ r ≤ b)) : (Nat.ble a r && Nat.ble r b) = false := by
  cases hc : (Nat.ble a r && Nat.ble r b) with
  | false => rfl
  | true =>
    simp only [Bool.and_eq_true, Nat.ble_eq] at hc
    exact absurd hc h
/-- rows and what is kept for a while change -/
theorem RX.k3 (x : RX n d h) (hn : 2 ≤ n) {S : Nat → Bool} {h1 : Hp} (f : Fr S h h1) (s : ∀ r, S r = true → r = 3 ∨ (17 ≤ r ∧ r ≤ 26)) (b : BX n h1) : KX n d h h1 := by
  obtain ⟨fn, rfl, hf⟩ := id f
  have fA : Fr (fun q => q == 3) h (h.1, h.2.1, (fun r => if r = 3 then fn 3 else h.2.2.1 r), h.2.2.2) := ⟨_, rfl, fun r hr => if_neg (by simpa using hr)⟩
  have fB : Fr (fun q => Nat.ble 17 q && Nat.ble q 26) (h.1, h.2.1, (fun r => if r = 3 then fn 3 else h.2.2.1 r), h.2.2.2) (h.1, h.2.1, fn, h.2.2.2) := ⟨_, rfl, fun r hr => by
    show fn r = if r = 3 then fn 3 else h.2.2.1 r
    by_cases e : r = 3
    · rw [if_pos e, e]
    · rw [if_neg e]
      refine hf r ?_
      cases hS : S r with
      | false => rfl
      | true =>
        have h2 := s r hS
        have hr2 : (Nat.ble 17 r && Nat.ble r 26) = false := hr
        rw [Nat.ble_eq_true_of_le (by omega), Nat.ble_eq_true_of_le (by omega)] at hr2
        cases hr2⟩
  have bA : BX n (h.1, h.2.1, (fun r => if r = 3 then fn 3 else h.2.2.1 r), h.2.2.2) := by
    obtain ⟨b1, b2, b3, b4, b5, b6, b7⟩ := x.1.bx hn
    exact ⟨b1, b2, b3, b4, b5, b6, fun i hi => b.2.2.2.2.2.2 i hi⟩
  have r1 := x.1.rows hn fA bA
  have r2 : RB n d (h.1, h.2.1, fn, h.2.2.2) := r1.fr fB fun r hr => bb_no (by omega)
  exact x.sc r2 f.g (fun r hr => by have := s r hr; omega) f.co
theorem b3_eq {r : Nat} (h : (fun r : Nat => r == 3) r = true) : r = 3 := by simpa using h
theorem s_row3 (x : RX n d h) (hn : 2 ≤ n) {lie : Nat} (hl : lie < fct n) (k : ∀ h', KX n d h h' → Fr (fun r => r == 3) h h' → BX n h' → okRow n (rw_ n lie) → P (.int (I (rw_ n lie : Nat))) h') : R 29 0 [.ref 1, .int (I (lie : Nat))] [] h P :=
  s_rowOf (x.1.bx hn) hl fun h1 f1 b1 => k h1 (x.k3 hn f1 (fun _ hr => Or.inl (b3_eq hr)) b1) f1 b1 ⟨_, hl, rfl⟩
theorem s_turned3 (x : RX n d h) (hn2 : 2 ≤ n) {l : Nat} (hl : l < fct n) (k : ∀ h', KX n d h h' → Fr (fun r => r == 3) h h' → trl n l < fct n → P (.int (I (trl n l : Nat))) h') : R 68 0 [.ref 0, .int (I (l : Nat))] [] h P := by
  refine t_X_turned x.S (s_row3 x hn2 hl fun h1 k1 f1 b1 r1 => ?_)
  have hn := b1.2.1
  have o := (r1.step hn).2.1
  exact t_X_turned_16 b1.1 (s_turnedRow b1 (r1.lt hn) (t_X_turned_19 b1.1 (s_lieOf b1 o (t_X_turned_22 b1.1 (k h1 k1 f1 (o.cl hn).1)))))
theorem s_spooned3 (x : RX n d h) (hn2 : 2 ≤ n) {l : Nat} (hl : l < fct n) (k : ∀ h', KX n d h h' → Fr (fun r => r == 3) h h' → spl n l < fct n → P (.int (I (spl n l : Nat))) h') : R 71 0 [.ref 0, .int (I (l : Nat))] [] h P := by
  refine t_X_spooned x.S (s_row3 x hn2 hl fun h1 k1 f1 b1 r1 => ?_)
  have hn := b1.2.1
  have o := (r1.step hn).2.2
  exact t_X_spooned_16 b1.1 (s_spoonedRow b1 (r1.lt hn) (t_X_spooned_19 b1.1 (s_lieOf b1 o (t_X_spooned_22 b1.1 (k h1 k1 f1 (o.cl hn).1)))))
theorem RX.m26 (x : RX n d h) (hn : 2 ≤ n) {q : Nat} (hq : q ∈ gws) : fct n ≤ ln h q ∧ ln h q ≤ 5040 := by
  obtain ⟨g1, g2⟩ := x.1.2.2.1 q hq
  rw [lies_pos hn] at g1
  exact ⟨g1, g2.le⟩
theorem nL (l : Nat) (hl4 : l < 4) : ngv (.ref (64 * (l + 1))) = true := by
  simp only [ngv, gwl hl4, Bool.not_false]
end FRAMES
def StV (f : Nat → Nat) (x : Nat) (w v : Int) : Prop := ∃ t s : Nat, Rho f x t s ∧ v = if w = 0 then (t : Int) else (s : Int) - (t : Int)
theorem StV.un {f : Nat → Nat} {x : Nat} {w v v' : Int} (a : StV f x w v) (b : StV f x w v') : v = v' := by
  obtain ⟨t, s, a1, a2⟩ := a
  obtain ⟨t', s', b1, b2⟩ := b
  obtain ⟨e1, e2⟩ := a1.un b1
  rw [a2, b2, e1, e2]
noncomputable def stV (f : Nat → Nat) (x : Nat) (w : Int) : Int := @dite Int (∃ v, StV f x w v) (Classical.propDecidable _) (fun h => Classical.choose h) (fun _ => 0)
theorem stV_eq {f : Nat → Nat} {x : Nat} {w v : Int} (h : StV f x w v) : v = stV f x w := by
  have hx : ∃ v, StV f x w v := ⟨v, h⟩
  unfold stV
  rw [dif_pos hx]
  exact h.un (Classical.choose_spec hx)
noncomputable def stillA (n : Nat) (d : Nat → Nat → Int) (l hd w : Int) : Int := if l < 0 ∨ (lies n : Int) ≤ l then -1 else if hd < 1 ∨ 3 < hd ∨ w < 0 ∨ 1 < w then -2 else if d 0 3 = 0 then -3 else stV (fh d n (d 0 4).toNat hd (-9)) l.toNat w
section STILL
variable {n : Nat} {d : Nat → Nat → Int} {h : Hp} {P : Value → Hp → Prop} {l j : Nat}
def MK (f : Nat → Nat) (x m s : Nat) (g : Int → Int) : Prop := ∀ y, y < m → (∃ t, t < s ∧ itr f t x = y ∧ g (y : Nat) = (t : Int) + 1) ∨ ((∀ t, t < s → itr f t x ≠ y) ∧ g (y : Nat) = 0)
theorem nxt_lt {lie : Nat} (hn : 2 ≤ n ∧ n ≤ 7) (hl : lie < fct n) : nxt d n l j lie < fct n := (nxt_row hn hl).1
theorem still_loop (hn2 : 2 ≤ n) (hl : (l : Int) < d 0 3) (hj : j < 3) {x : Nat} (hx : x < fct n) {w : Int} (hw : rng w) {a1 a2 a4 : Value} : ∀ (k s : Nat) (h : Hp), RX n d h → MF l j h → s + k = fct n → (∀ a b, a < b → b < s → itr (nxt d n l j) a x ≠ itr (nxt d n l j) b x) → MK (nxt d n l j) x (fct n) s (iv h 26) →
    (∀ h' v, KX n d h h' → StV (nxt d n l j) x w v → P (.int (I v)) h') → R 75 74 [.ref 0, a1, a2, .int (I w), a4, .ref (64 * (l + 1) + 16 + 4 * j), .int (I (itr (nxt d n l j) s x : Nat)), .int (I ((s : Nat) + 1))] [] h P := by
  intro k
  induction k with
  | zero =>
    intro s h X mf hs dis mk kk
    have bx := X.1.bx hn2
    have hn := bx.2.1
    have f5 := fct_le hn.2
    have hy := itr_lt (f := nxt d n l j) (fun y hy => nxt_lt (d := d) (l := l) (j := j) hn hy) hx s
    obtain ⟨m1, m2⟩ := X.m26 hn2 (q := 26) (by decide)
    have ex : ∃ t, t < s ∧ itr (nxt d n l j) t x = itr (nxt d n l j) s x ∧ iv h 26 (itr (nxt d n l j) s x : Nat) = (t : Int) + 1 := by
      rcases mk _ hy with q | ⟨q, -⟩
      · exact q
      · exfalso
        obtain ⟨t, N, r1, r2, r3, r4⟩ := rho_ex (f := nxt d n l j) (fun y hy => nxt_lt (d := d) (l := l) (j := j) hn hy) hx
        by_cases e : N = s
        · rw [e] at r3 r2; exact q t r2 r3
        · exact dis t N r2 (by omega) r3
    obtain ⟨t, t1, t2, t3⟩ := ex
    have st : StV (nxt d n l j) x w (if w = 0 then (t : Int) else (s : Int) - (t : Int)) := ⟨t, s, ⟨t1, t2, dis⟩, rfl⟩
    refine t_X_still_74 bx.1 ?_
    rw [bx.2.2.2.1, t3]
    refine ⟨by omega, by omega, fun _ => ⟨hw, fun e => ⟨by omega, by omega, by omega, ?_⟩, fun e => ⟨by omega, by omega, by omega, ?_⟩⟩, fun c => absurd (by omega) c⟩
    · rw [if_pos e] at st
      rw [Int.add_sub_cancel]
      exact kk h _ (KX.rf X) st
    · rw [if_neg e] at st
      rw [show (s : Int) + 1 - ((t : Int) + 1) = (s : Int) - (t : Int) by omega]
      exact kk h _ (KX.rf X) st
  | succ k ih =>
    intro s h X mf hs dis mk kk
    have bx := X.1.bx hn2
    have hn := bx.2.1
    have f5 := fct_le hn.2
    have hy := itr_lt (f := nxt d n l j) (fun y hy => nxt_lt (d := d) (l := l) (j := j) hn hy) hx s
    obtain ⟨m1, m2⟩ := X.m26 hn2 (q := 26) (by decide)
    refine t_X_still_74 bx.1 ?_
    rw [bx.2.2.2.1]
    refine ⟨by omega, by omega, fun c => absurd c (by omega), fun _ => ⟨by omega, by omega, by omega, ?_, fun e => ⟨by omega, by omega, by omega, (X.wm hl hj).2.1, ?_⟩, fun e => ?_⟩⟩
    · rcases mk _ hy with ⟨t, t1, -, t3⟩ | ⟨-, q⟩
      · rw [t3]; omega
      · rw [q]; decide
    · rw [wr_eq (show rng ((s : Int) + 1) by omega)]
      have fr : Fr (fun r => r == 26) h (setI h 26 (itr (nxt d n l j) s x : Nat) ((s : Int) + 1)) := Fr.set h _ _ rfl
      have s26 : ∀ r, r ≠ 26 → (fun r : Nat => r == 26) r = false := fun r hr => by simpa using hr
      have k1 : KX n d h (setI h 26 (itr (nxt d n l j) s x : Nat) ((s : Int) + 1)) := X.k3 hn2 fr (fun r hr => Or.inr (by
        have : r = 26 := by simpa using hr
        omega)) (bx.fr fr (s26 _ (by omega)) (s26 _ (by omega)) (s26 _ (by omega)))
      have mf1 : MF l j (setI h 26 (itr (nxt d n l j) s x : Nat) ((s : Int) + 1)) := by
        unfold MF
        rw [iv_ne (by omega), iv_ne (by omega)]; exact mf
      have q0 : ∀ t, t < s → itr (nxt d n l j) t x ≠ itr (nxt d n l j) s x := by
        rcases mk _ hy with ⟨t, -, -, t3⟩ | ⟨q, -⟩
        · omega
        · exact q
      refine s_go k1.1 hn2 hl hj mf1 hy fun h2 k2 mf2 f2 => t_X_still_116 k2.1.S ?_
      refine ih (s + 1) h2 k2.1 mf2 (by omega) (fun a b h1 h2 => ?_) (fun y hy2 => ?_) fun h' v k3 sv => kk h' v ((k1.tr k2).tr k3) sv
      · by_cases z : b = s
        · rw [z]; exact q0 a (by omega)
        · exact dis a b h1 (by omega)
      · rw [f2.i (SA_no (by omega) (by omega) (by omega)), iv_setI]
        by_cases z : y = itr (nxt d n l j) s x
        · rw [if_pos ⟨rfl, by rw [z]⟩]
          exact Or.inl ⟨s, by omega, z.symm, rfl⟩
        · rw [if_neg (fun q => z (Int.ofNat.inj q.2))]
          rcases mk y hy2 with ⟨t, t1, t2, t3⟩ | ⟨q, q2⟩
          · exact Or.inl ⟨t, by omega, t2, t3⟩
          · refine Or.inr ⟨fun t ht => ?_, q2⟩
            by_cases e3 : t = s
            · rw [e3]; exact fun e4 => z e4.symm
            · exact q t (by omega)
    · obtain ⟨t, t1, t2, t3⟩ : ∃ t, t < s ∧ itr (nxt d n l j) t x = itr (nxt d n l j) s x ∧ iv h 26 (itr (nxt d n l j) s x : Nat) = (t : Int) + 1 := by
        rcases mk _ hy with q | ⟨-, q⟩
        · exact q
        · exact absurd q e
      have st : StV (nxt d n l j) x w (if w = 0 then (t : Int) else (s : Int) - (t : Int)) := ⟨t, s, ⟨t1, t2, dis⟩, rfl⟩
      rw [t3]
      refine ⟨hw, fun e => ⟨by omega, by omega, by omega, ?_⟩, fun e => ⟨by omega, by omega, by omega, ?_⟩⟩
      · rw [if_pos e] at st
        rw [Int.add_sub_cancel]
        exact kk h _ (KX.rf X) st
      · rw [if_neg e] at st
        rw [show (s : Int) + 1 - ((t : Int) + 1) = (s : Int) - (t : Int) by omega]
        exact kk h _ (KX.rf X) st
theorem s_still (x : RX n d h) {l hd w : Int} (hl : rng l) (hh : rng hd) (hw : rng w) (k : ∀ h', KX n d h h' → P (.int (I (stillA n d l hd w))) h') : R 75 0 [.ref 0, .int (I l), .int (I hd), .int (I w), .retAddr 0, .retAddr 0, .retAddr 0, .retAddr 0] [] h P := by
  unfold stillA at k
  refine t_X_still x.S (s_noLie x hl (fun c => ?_) (fun c => ?_))
  · rw [if_pos c] at k
    exact t_X_still_5 x.S ⟨by decide, fun q => absurd q (by decide), fun _ => k h (KX.rf x)⟩
  rw [if_neg (by omega)] at k
  refine t_X_still_5 x.S ⟨by decide, fun _ => s_noHard hh (fun c2 => ?_) (fun c2 => ?_), fun q => absurd rfl q⟩
  · rw [if_pos (by omega)] at k
    exact t_X_still_14 x.S ⟨by decide, fun q => absurd q (by decide), fun _ => k h (KX.rf x)⟩
  refine t_X_still_14 x.S ⟨by decide, fun _ => ⟨hw, fun c3 => ?_, fun c3 => ⟨hw, fun c4 => ?_, fun c4 => s_lawInForce x (fun c5 => ?_) (fun l2 c5 c6 => ?_)⟩⟩, fun q => absurd rfl q⟩
  · rw [if_pos (by omega)] at k; exact k h (KX.rf x)
  · rw [if_pos (by omega)] at k; exact k h (KX.rf x)
  · rw [if_neg (by omega), if_pos c5] at k
    exact t_X_still_33b x.S (k h (KX.rf x))
  rw [if_neg (by omega), if_neg (by omega)] at k
  have hn := lie_n x.n7 c
  have l4 := x.l4 c6
  have el : (d 0 4).toNat = l2 := by omega
  rw [el] at k
  refine t_X_still_33 x.S ⟨okg_i rfl rfl rfl rfl ?_, s_motion x hn c6 c2 fun h1 k1 mf _ => ?_⟩
  · simp only [ng, List.all_cons, List.all_nil, ngv, gwl l4, Bool.not_false, Bool.and_true]
    rfl
  refine t_X_still_50 k1.1.S ?_
  have bx := k1.1.1.bx hn
  have hn7 := bx.2.1
  have f5 := fct_le hn7.2
  rw [bx.2.2.2.1]
  obtain ⟨m1, m2⟩ := k1.1.m26 hn (q := 26) (by decide)
  have s26 : ∀ r, r ≠ 26 → (fun r : Nat => r == 26) r = false := fun r hr => by simpa using hr
  refine s_fill4 (a := 26) (by decide) bx.1.t26 m1 m2 fun h2 f2 g2 g3 => t_X_still_68 (f2.x bx.1) ?_
  have k2 := k1.1.k3 hn f2 (fun r hr => Or.inr (by
        have : r = 26 := by simpa using hr
        omega)) (bx.fr f2 (s26 _ (by omega)) (s26 _ (by omega)) (s26 _ (by omega)))
  have mf2 : MF l2 (hd.toNat - 1) h2 := by
    unfold MF
    rw [f2.i (s26 _ (by omega)), f2.i (s26 _ (by omega))]; exact mf
  rw [lies_pos hn] at c
  have e : l = (l.toNat : Nat) := by omega
  have z := still_loop (P := P) (a1 := .int (I l)) (a2 := .int (I hd)) (a4 := .ref (64 * (l2 + 1))) hn c6 (j := hd.toNat - 1) (by omega) (x := l.toNat) (by omega) hw (fct n) 0 h2 k2.1 mf2 (by omega) (fun a b h1 h2 => by omega) (fun y hy => Or.inr ⟨fun t ht => by omega, g2 y (by omega)⟩) fun h' v k3 sv => by
    rw [stV_eq sv, nxt_fh c2]
    exact k h' ((k1.tr k2).tr k3)
  have e2 : I l = I ((itr (nxt d n l2 (hd.toNat - 1)) 0 l.toNat : Nat) : Int) := congrArg I e
  rw [← e2] at z
  exact z
end STILL
