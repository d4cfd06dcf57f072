/-! The calls of the class: the plain ones. -/
/-- numbers of the rest change -/
theorem RX.st {n : Nat} {d d' : Nat → Nat → Int} {h : Hp} {S : Nat → Bool} {h' : Hp} (x : RX n d h) (a : Fr S h h') (s : ∀ r, S r = true → r = 5 ∨ r = 6 ∨ (8 ≤ r ∧ r ≤ 16)) (he : ∀ f, 1 ≤ f → f ≤ 7 → d' f = d f) (h3 : d' 0 3 = d 0 3) (h4 : d' 0 4 = d 0 4) (o : RO n d' h') : KX n d' h h' := by
  have s2 : ∀ r, ¬ (r = 5 ∨ r = 6 ∨ (8 ≤ r ∧ r ≤ 16)) → S r = false := fun r hr => by
    cases e : S r with
    | false => rfl
    | true => exact absurd (s r e) hr
  exact ⟨⟨(x.1.fr a fun r hr => s2 r (by omega)).cg he h3 h4, o⟩, a.g.x4 fun r hr => s2 r (by omega), a.co, a.i (s2 1 (by omega)) 3⟩
/-- a number of the class itself changes, not those of its laws -/
theorem RB.s0 {n : Nat} {d : Nat → Nat → Int} {h : Hp} {k : Nat} {v : Int} (x : RB n d h) (hk : k ≠ 2 ∧ k ≠ 3) : RB n d (setI h 0 k v) := by
  obtain ⟨⟨b1, b2, b3, b4, b5, b6, b7, b8⟩, c, g, gg, gb, nb, ls, lw⟩ := x
  have a : Fr (fun r => r == 0) h (setI h 0 k v) := Fr.set h _ _ rfl
  have s : ∀ r, r ≠ 0 → (fun r : Nat => r == 0) r = false := fun r hr => by simpa using hr
  refine ⟨⟨a.x b1, b2, ?_, ?_, fun k hk => ?_, fun k hk => ?_, b7, b8⟩, fun i hi => ?_, fun r hr => g r hr, gg.fr a fun g hg => s _ (by omega), gb, ?_, ?_, fun l hl => ?_⟩
  · rw [a.i (s 1 (by omega))]; exact b3
  · rw [a.i (s 1 (by omega))]; exact b4
  · rw [a.i (s 500 (by omega))]; exact b5 k hk
  · rw [a.i (s 501 (by omega))]; exact b6 k hk
  · rw [a.i (s 3 (by omega))]; exact c i hi
  · rw [a.i (s 1 (by omega))]; exact nb
  · rw [iv_setI, if_neg (by omega), iv_setI, if_neg (by omega)]; exact ls
  · obtain ⟨l1, l2, l3, l4⟩ := lw l hl
    have h4 : l < 4 := by omega
    exact ⟨l1, l2.fr a fun c hc => s _ (by omega), l3, fun j hj => ⟨(l4 j hj).1.gr h4 hj a.g (s 1 (by omega)) fun k hk => s _ (by omega), (l4 j hj).2⟩⟩
theorem RX.s0 {n : Nat} {d d' : Nat → Nat → Int} {h : Hp} {k : Nat} {v : Int} (x : RX n d h) (hk : k ≠ 2 ∧ k ≠ 3) (he : ∀ f, 1 ≤ f → f ≤ 7 → d' f = d f) (h3 : d' 0 3 = d 0 3) (h4 : d' 0 4 = d 0 4) (o : RO n d' (setI h 0 k v)) : KX n d' h (setI h 0 k v) :=
  ⟨⟨(x.1.s0 hk).cg he h3 h4, o⟩, (Fr.set (S := fun r => r == 0) h (k : Nat) v rfl).g.x4 fun r hr => by simp; omega, (Fr.set (S := fun r => r == 0) h (k : Nat) v rfl).co, by rw [iv_setI, if_neg (by omega)]⟩
theorem iv_ne {h : Hp} {r q : Nat} {k v z : Int} (e : q ≠ r) : iv (setI h r k v) q z = iv h q z := by rw [iv_setI, if_neg (fun w => e w.1)]
theorem iv_nk {h : Hp} {r : Nat} {k v z : Int} (e : z ≠ k) : iv (setI h r k v) r z = iv h r z := by rw [iv_setI, if_neg (fun w => e w.2)]
theorem iv_eq (h : Hp) (r : Nat) (k v : Int) : iv (setI h r k v) r k = v := by rw [iv_setI, if_pos ⟨rfl, rfl⟩]
def ofG (n : Nat) (d : Nat → Nat → Int) (g what : Int) : Int :=
  if g < 0 ∨ (n : Int) ≤ g then -1 else if what = 0 then d 3 g.toNat else if what = 1 then d 1 g.toNat else if what = 2 then d 2 g.toNat else if what = 3 then blk d g.toNat else if what = 4 then hft d g.toNat else if what = 5 then plg (rw_ n (d 0 1).toNat) g.toNat n 0 else -2
section PUB1
variable {n : Nat} {d : Nat → Nat → Int} {h : Hp} {P : Value → Hp → Prop}
theorem RX.ln_ (x : RX n d h) (hn : 2 ≤ n) : 0 ≤ d 0 1 ∧ d 0 1 < lies n := by
  have := x.2.1.2
  rw [lies_pos hn] at this ⊢
  omega
theorem s_ofGrain (x : RX n d h) {g what : Int} (hg : rng g) (hw : rng what) (k : ∀ h', KX n d h h' → P (.int (I (ofG n d g what))) h') : R 27 0 [.ref 0, .int (I g), .int (I what), .retAddr 0] [] h P := by
  have hn := x.n7
  unfold ofG at k
  refine t_X_ofGrain x.S (s_noGrain x hg (fun c => ?_) (fun c => ?_))
  · refine t_X_ofGrain_5 x.S ⟨by decide, fun q => absurd q (by decide), fun _ => ?_⟩
    rw [if_pos c] at k
    exact k h (KX.rf x)
  · rw [if_neg (by omega)] at k
    obtain ⟨g1, g2, g3, g4, g5, g6, g7, g8⟩ := x.1.2.2.2.1 g.toNat (by omega)
    have k' := k h (KX.rf x)
    refine t_X_ofGrain_5 x.S ?_
    rw [child2 (by omega), g4, g5, g6, g7, g8]
    have tk : tagok 2 (tg h (30 + g.toNat)) = true := tok2 (by omega)
    refine ⟨by decide, fun _ => ⟨by omega, by omega, g1, by omega, hw, ⟨fun e => ⟨tk, ?_⟩, fun e => ⟨tk, ?_⟩, fun e => ⟨tk, ?_⟩, fun e => ⟨tk, ?_⟩, fun e => ⟨tk, ?_⟩, fun e => ?_⟩, fun e => ?_⟩, fun q => absurd rfl q⟩
    · rw [if_pos e] at k'; exact k'
    · rw [if_neg (by omega), if_pos e] at k'; exact k'
    · rw [if_neg (by omega), if_neg (by omega), if_pos e] at k'; exact k'
    · rw [if_neg (by omega), if_neg (by omega), if_neg (by omega), if_pos e] at k'; exact k'
    · rw [if_neg (by omega), if_neg (by omega), if_neg (by omega), if_neg (by omega), if_pos e] at k'; exact k'
    · rw [if_neg (by omega), if_neg (by omega), if_neg (by omega), if_neg (by omega), if_neg (by omega), if_pos e] at k
      rw [x.2.1.1]
      refine s_row x (x.ln_ (by omega)) fun h1 k1 b1 r1 => ?_
      refine t_X_ofGrain_101 b1.1 ?_
      have eg : g = (g.toNat : Nat) := by omega
      rw [eg]
      exact s_placeOf b1 (r1.lt b1.2.1) (by omega) (t_X_ofGrain_104 b1.1 (k h1 k1))
    · rw [if_neg (by omega), if_neg (by omega), if_neg (by omega), if_neg (by omega), if_neg (by omega), if_neg (by omega)] at k'; exact k'
def atA (n : Nat) (lie place : Int) : Int := if place < 0 ∨ (n : Int) ≤ place then -1 else (dg (rw_ n lie.toNat) place.toNat : Nat)
theorem s_at (x : RX n d h) {p : Int} (hp : rng p) (k : ∀ h', KX n d h h' → P (.int (I (atA n (d 0 1) p))) h') : R 33 0 [.ref 0, .int (I p)] [] h P := by
  have hn := x.n7
  unfold atA at k
  refine t_X_at x.S (s_noPlace x hp (fun c => ?_) (fun c => ?_))
  · refine t_X_at_5 x.S ⟨by decide, fun q => absurd q (by decide), fun _ => ?_⟩
    rw [if_pos c] at k
    exact k h (KX.rf x)
  · rw [if_neg (by omega)] at k
    refine t_X_at_5 x.S ⟨by decide, fun _ => ?_, fun q => absurd rfl q⟩
    rw [x.2.1.1]
    refine s_row x (x.ln_ (by omega)) fun h1 k1 b1 r1 => ?_
    refine t_X_at_23 b1.1 ?_
    have eg : p = (p.toNat : Nat) := by omega
    rw [eg]
    exact s_grainIn (r1.lt b1.2.1) (by omega) (t_X_at_27 b1.1 (k h1 k1))
theorem s_lie (x : RX n d h) (k : P (.int (I (if n = 0 then -3 else d 0 1))) h) : R 35 0 [.ref 0] [] h P := by
  refine t_X_lie x.S (s_noBox x (fun c => ?_) (fun c => ?_))
  · rw [if_pos c] at k
    exact t_X_lie_4 x.S ⟨by decide, fun q => absurd q (by decide), fun _ => k⟩
  · rw [if_neg (by omega)] at k
    refine t_X_lie_4 x.S ⟨by decide, fun _ => ?_, fun q => absurd rfl q⟩
    rw [x.2.1.1]; exact k
theorem RO.lay (o : RO n d h) {l : Int} (hl : 0 ≤ l ∧ l < lies n) : RO n (up d 0 1 l) (setI h 0 4 l) := by
  obtain ⟨o1, o2, o3, o4, o5, o6, o7⟩ := o
  refine ⟨?_, ?_, ?_, ?_, ?_, fun r hr h8 => ?_, fun k hk => ?_⟩
  · rw [up_at, iv_eq]; exact ⟨rfl, hl.1, Or.inl hl.2⟩
  · rw [up_ne (by omega), iv_nk (by decide)]; exact o2
  · rw [up_ne (by omega), iv_nk (by decide)]; exact o3
  · rw [up_ne (by omega), iv_ne (by decide)]; exact o4
  · rw [up_ne (by omega), iv_nk (by decide)]; exact o5
  · rw [up_ne (by omega)] at hr
    rw [up_ne (by omega), up_ne (by omega), iv_ne (by omega), iv_ne (by omega)]
    exact o6 r hr h8
  · rw [up_ne (by omega), up_ne (by omega), iv_ne (by omega), iv_ne (by omega), iv_ne (by omega)]
    obtain ⟨c1, c2, c3, c4, c5, c6⟩ := o7 k hk
    refine ⟨c1, c2, c3, c4, c5, fun i hi => ?_⟩
    rw [up_ne (by omega), iv_ne (by omega)]
    exact c6 i hi
theorem RO.flt (o : RO n d h) {v : Int} (hv : rng v) : RO n (up d 0 7 v) (setI h 0 11 v) := by
  obtain ⟨o1, o2, o3, o4, o5, o6, o7⟩ := o
  refine ⟨?_, ?_, ?_, ?_, ?_, fun r hr h8 => ?_, fun k hk => ?_⟩
  · rw [up_ne (by omega), iv_nk (by decide)]; exact o1
  · rw [up_ne (by omega), iv_nk (by decide)]; exact o2
  · rw [up_ne (by omega), iv_nk (by decide)]; exact o3
  · rw [up_ne (by omega), iv_ne (by decide)]; exact o4
  · rw [up_at, iv_eq]; exact ⟨rfl, hv⟩
  · rw [up_ne (by omega)] at hr
    rw [up_ne (by omega), up_ne (by omega), iv_ne (by omega), iv_ne (by omega)]
    exact o6 r hr h8
  · rw [up_ne (by omega), up_ne (by omega), iv_ne (by omega), iv_ne (by omega), iv_ne (by omega)]
    obtain ⟨c1, c2, c3, c4, c5, c6⟩ := o7 k hk
    refine ⟨c1, c2, c3, c4, c5, fun i hi => ?_⟩
    rw [up_ne (by omega), iv_ne (by omega)]
    exact c6 i hi
theorem RO.shk (o : RO n d h) {v : Int} (hv : rng v) : RO n (up d 0 2 v) (setI h 0 5 v) := by
  obtain ⟨o1, o2, o3, o4, o5, o6, o7⟩ := o
  refine ⟨?_, ?_, ?_, ?_, ?_, fun r hr h8 => ?_, fun k hk => ?_⟩
  · rw [up_ne (by omega), iv_nk (by decide)]; exact o1
  · rw [up_at, iv_eq]; exact ⟨rfl, hv⟩
  · rw [up_ne (by omega), iv_nk (by decide)]; exact o3
  · rw [up_ne (by omega), iv_ne (by decide)]; exact o4
  · rw [up_ne (by omega), iv_nk (by decide)]; exact o5
  · rw [up_ne (by omega)] at hr
    rw [up_ne (by omega), up_ne (by omega), iv_ne (by omega), iv_ne (by omega)]
    exact o6 r hr h8
  · rw [up_ne (by omega), up_ne (by omega), iv_ne (by omega), iv_ne (by omega), iv_ne (by omega)]
    obtain ⟨c1, c2, c3, c4, c5, c6⟩ := o7 k hk
    refine ⟨c1, c2, c3, c4, c5, fun i hi => ?_⟩
    rw [up_ne (by omega), iv_ne (by omega)]
    exact c6 i hi
theorem RO.rds (o : RO n d h) {v : Int} (hv : 0 ≤ v ∧ v ≤ d 0 5) : RO n (up d 0 5 v) (setI h 0 8 v) := by
  obtain ⟨o1, o2, o3, o4, o5, o6, o7⟩ := o
  refine ⟨?_, ?_, ?_, ?_, ?_, fun r hr h8 => ?_, fun k hk => ?_⟩
  · rw [up_ne (by omega), iv_nk (by decide)]; exact o1
  · rw [up_ne (by omega), iv_nk (by decide)]; exact o2
  · rw [up_at, iv_eq]; exact ⟨rfl, hv.1, by omega⟩
  · rw [up_ne (by omega), iv_ne (by decide)]; exact o4
  · rw [up_ne (by omega), iv_nk (by decide)]; exact o5
  · rw [up_at] at hr
    rw [up_ne (by omega), up_ne (by omega), iv_ne (by omega), iv_ne (by omega)]
    exact o6 r (by omega) h8
  · rw [up_ne (by omega), up_ne (by omega), iv_ne (by omega), iv_ne (by omega), iv_ne (by omega)]
    obtain ⟨c1, c2, c3, c4, c5, c6⟩ := o7 k hk
    refine ⟨c1, c2, c3, c4, c5, fun i hi => ?_⟩
    rw [up_ne (by omega), iv_ne (by omega)]
    exact c6 i hi
theorem RO.trc (o : RO n d h) {v : Int} (hv : rng v) : RO n (up d 0 6 v) (setI h 16 0 v) := by
  obtain ⟨o1, o2, o3, o4, o5, o6, o7⟩ := o
  refine ⟨?_, ?_, ?_, ?_, ?_, fun r hr h8 => ?_, fun k hk => ?_⟩
  · rw [up_ne (by omega), iv_ne (by decide)]; exact o1
  · rw [up_ne (by omega), iv_ne (by decide)]; exact o2
  · rw [up_ne (by omega), iv_ne (by decide)]; exact o3
  · rw [up_at, iv_eq]; exact ⟨rfl, hv⟩
  · rw [up_ne (by omega), iv_ne (by decide)]; exact o5
  · rw [up_ne (by omega)] at hr
    rw [up_ne (by omega), up_ne (by omega), iv_ne (by omega), iv_ne (by omega)]
    exact o6 r hr h8
  · rw [up_ne (by omega), up_ne (by omega), iv_ne (by omega), iv_ne (by omega), iv_ne (by omega)]
    obtain ⟨c1, c2, c3, c4, c5, c6⟩ := o7 k hk
    refine ⟨c1, c2, c3, c4, c5, fun i hi => ?_⟩
    rw [up_ne (by omega), iv_ne (by omega)]
    exact c6 i hi
theorem RX.lay (x : RX n d h) {l : Int} (hl : 0 ≤ l ∧ l < lies n) : KX n (up d 0 1 l) h (setI h 0 4 l) :=
  x.s0 (k := 4) (by decide) (fun f h1 _ => up_f (by omega)) (up_ne (by omega)) (up_ne (by omega)) (x.2.lay hl)
theorem s_lay (x : RX n d h) {l : Int} (hl : rng l) (k1 : (l < 0 ∨ (lies n : Int) ≤ l) → P (.int (I (-1))) h) (k0 : (0 ≤ l ∧ l < lies n) → ∀ h', KX n (up d 0 1 l) h h' → P (.int (I (d 0 1))) h') : R 37 0 [.ref 0, .int (I l), .retAddr 0] [] h P := by
  refine t_X_lay x.S (s_noLie x hl (fun c => ?_) (fun c => ?_))
  · exact t_X_lay_5 x.S ⟨by decide, fun q => absurd q (by decide), fun _ => k1 c⟩
  · refine t_X_lay_5 x.S ⟨by decide, fun _ => ?_, fun q => absurd rfl q⟩
    rw [wr_eq hl, x.2.1.1]
    exact k0 c _ (x.lay c)
def ofA (n : Nat) (lie place : Int) : Int := if lie < 0 ∨ (lies n : Int) ≤ lie then -1 else atA n lie place
theorem s_of (x : RX n d h) {l p : Int} (hl : rng l) (hp : rng p) (k : ∀ h', KX n d h h' → P (.int (I (ofA n l p))) h') : R 39 0 [.ref 0, .int (I l), .int (I p)] [] h P := by
  have hn := x.n7
  unfold ofA atA at k
  refine t_X_of x.S (s_noLie x hl (fun c => ?_) (fun c => ?_))
  · rw [if_pos c] at k
    exact t_X_of_5 x.S ⟨by decide, fun q => absurd q (by decide), fun _ => k h (KX.rf x)⟩
  · rw [if_neg (by omega)] at k
    refine t_X_of_5 x.S ⟨by decide, fun _ => s_noPlace x hp (fun c2 => ?_) (fun c2 => ?_), fun q => absurd rfl q⟩
    · rw [if_pos c2] at k
      exact t_X_of_13 x.S ⟨by decide, fun q => absurd q (by decide), fun _ => k h (KX.rf x)⟩
    · rw [if_neg (by omega)] at k
      refine t_X_of_13 x.S ⟨by decide, fun _ => ?_, fun q => absurd rfl q⟩
      refine s_row x c fun h1 k1 b1 r1 => ?_
      refine t_X_of_28 b1.1 ?_
      have eg : p = (p.toNat : Nat) := by omega
      rw [eg]
      exact s_grainIn (r1.lt b1.2.1) (by omega) (t_X_of_32 b1.1 (k h1 k1))
end PUB1
