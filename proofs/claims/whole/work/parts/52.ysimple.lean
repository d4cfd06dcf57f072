/-! The reference: what is asked in one step. -/
section YSIMPLE
variable {n : Nat} {d : Nat → Nat → Int} {P : Value → Hp → Prop} {h : Hp}
theorem y_mix (x : RY n d h) {l w : Int} (hl : rng l) (hw : rng w) (k : ∀ h', KY n d h h' → P (.int (I (if l < 0 ∨ (lies n : Int) ≤ l then -1 else if w < 0 ∨ 1 < w then -2 else valA n d l.toNat w))) h') : R 177 0 [.ref 400, .int (I l), .int (I w)] [] h P := by
  refine t_Y_mix x.S (y_isLie x hl (fun c => ?_) (fun c => ?_))
  · rw [if_neg (by omega)] at k
    refine t_Y_mix_5 x.S ⟨by decide, fun q => absurd q (by decide), fun _ => y_within hw (by decide) (by decide) (fun c2 => ?_) (fun c2 => ?_)⟩
    · rw [if_neg (by omega)] at k
      refine t_Y_mix_16 x.S ⟨by decide, fun q => absurd q (by decide), fun _ => ?_⟩
      have hn2 := lie_n x.n7 c
      rw [lies_pos hn2] at c
      obtain ⟨m, rfl⟩ : ∃ m : Nat, l = m := ⟨l.toNat, by omega⟩
      exact y_valueOf x hn2 (by omega) (by omega) fun h1 f1 => t_Y_mix_25 (x.ks f1.ks).S (k h1 (x.k f1.ks))
    · rw [if_pos (by omega)] at k
      exact t_Y_mix_16 x.S ⟨by decide, fun _ => k h (KY.rf x), fun q => absurd rfl q⟩
  · rw [if_pos (by omega)] at k
    exact t_Y_mix_5 x.S ⟨by decide, fun _ => k h (KY.rf x), fun q => absurd rfl q⟩
theorem y_next (x : RY n d h) {l hd : Int} (hl : rng l) (hh : rng hd) (k : ∀ h', KY n d h h' → P (.int (I (nextA n d l hd))) h') : R 168 0 [.ref 400, .int (I l), .int (I hd)] [] h P := by
  unfold nextA at k
  have l3 := x.l3
  refine t_Y_next x.S (y_isLie x hl (fun c => ?_) (fun c => ?_))
  · rw [if_neg (by omega)] at k
    refine t_Y_next_5 x.S ⟨by decide, fun q => absurd q (by decide), fun _ => y_isHard hh (fun c2 => ?_) (fun c2 => ?_)⟩
    · rw [if_neg (by omega)] at k
      refine t_Y_next_14 x.S ?_
      rw [l3.1, x.l4.1]
      refine ⟨by decide, fun q => absurd q (by decide), fun _ => ⟨by omega, fun c3 => ?_, fun c3 => ?_⟩⟩
      · rw [if_pos c3] at k; exact k h (KY.rf x)
      · rw [if_neg c3, nxt_fh c2] at k
        have hn2 := lie_n x.n7 c
        obtain ⟨l2, el, hl2, e2⟩ := x.inF c3
        rw [lies_pos hn2] at c
        rw [e2] at k
        rw [← el]
        obtain ⟨m, rfl⟩ : ∃ m : Nat, l = m := ⟨l.toNat, by omega⟩
        exact y_nextOf x (by decide) hn2 hl2 hh (by omega) fun h1 f1 => t_Y_next_42 (x.ks f1.ks).S (k h1 (x.k f1.ks))
    · rw [if_pos (by omega)] at k
      exact t_Y_next_14 x.S ⟨by decide, fun _ => k h (KY.rf x), fun q => absurd rfl q⟩
  · rw [if_pos (by omega)] at k
    exact t_Y_next_5 x.S ⟨by decide, fun _ => k h (KY.rf x), fun q => absurd rfl q⟩
theorem y_cause (x : RY n d h) {a b p hd : Int} (hx : rng a) (hy : rng b) (hp : rng p) (hh : rng hd) (k : P (.int (I (causeA n d a b p hd))) h) : R 154 0 [.ref 400, .int (I a), .int (I b), .int (I p), .int (I hd)] [] h P := by
  unfold causeA at k
  have hn := x.n7
  have l3 := x.l3
  refine t_Y_cause x.S (y_isGrain x hx (fun c => ?_) (fun c => ?_))
  · refine t_Y_cause_5 x.S ⟨by decide, fun q => absurd q (by decide), fun _ => y_isGrain x hy (fun c2 => ?_) (fun c2 => ?_)⟩
    · rw [if_neg (by omega)] at k
      refine t_Y_cause_13 x.S ?_
      rw [x.g]
      refine ⟨by decide, fun q => absurd q (by decide), fun _ => ⟨hx, hy, fun e => ?_, fun e => y_within hp (by decide) (by omega) (fun c3 => ?_) (fun c3 => ?_)⟩⟩
      · rw [if_pos (by omega)] at k; exact k
      · refine t_Y_cause_34 x.S ⟨by decide, fun q => absurd q (by decide), fun _ => y_isHard hh (fun c4 => ?_) (fun c4 => ?_)⟩
        · rw [if_neg (by omega)] at k
          refine t_Y_cause_42 x.S ?_
          rw [l3.1, x.l4.1]
          refine ⟨by decide, fun q => absurd q (by decide), fun _ => ⟨by omega, fun c5 => ?_, fun c5 => ?_⟩⟩
          · rw [if_pos c5] at k; exact k
          · rw [if_neg c5] at k
            obtain ⟨l2, el, hl2, e2⟩ := x.inF c5
            rw [e2] at k
            rw [← el]
            obtain ⟨m1, rfl⟩ : ∃ m : Nat, a = m := ⟨a.toNat, by omega⟩
            obtain ⟨m2, rfl⟩ : ∃ m : Nat, b = m := ⟨b.toNat, by omega⟩
            exact y_ruling x (by decide) hl2 (by omega) (by omega) hp hh (t_Y_cause_73 x.S k)
        · rw [if_pos (by omega)] at k
          exact t_Y_cause_42 x.S ⟨by decide, fun _ => k, fun q => absurd rfl q⟩
      · rw [if_pos (by omega)] at k
        exact t_Y_cause_34 x.S ⟨by decide, fun _ => k, fun q => absurd rfl q⟩
    · rw [if_pos (by omega)] at k
      exact t_Y_cause_13 x.S ⟨by decide, fun _ => k, fun q => absurd rfl q⟩
  · rw [if_pos (by omega)] at k
    exact t_Y_cause_5 x.S ⟨by decide, fun _ => k, fun q => absurd rfl q⟩
theorem place_loop (x : RY n d h) {r : Nat} (w : RW n r h) {g : Nat} (hg : g < n) {a2 : Value} : ∀ (k p : Nat), p + k = n → fnd r g k p = true → P (.int (I (plg r g k p))) h → R 140 7 [.ref 400, .int (I (g : Nat)), a2, .int (I (p : Nat))] [] h P := by
  have hn := x.n7
  intro k
  induction k with
  | zero => intro p hp hf; exact absurd hf (by rw [fnd]; decide)
  | succ k ih =>
    intro p hp hf kk
    have q := w p (by omega)
    have d8 := dg_lt r p
    rw [fnd] at hf
    rw [plg] at kk
    refine t_Y_placeOf_7 x.S ?_
    rw [q]
    refine ⟨by omega, by omega, by omega, by omega, fun c => ?_, fun c => ?_⟩
    · rw [if_pos (by omega)] at kk; exact kk
    · have hb : Nat.beq (dg r p) g = false := by
        cases hq : Nat.beq (dg r p) g with
        | false => rfl
        | true => exact absurd (congrArg Nat.cast (Nat.eq_of_beq_eq_true hq)) c
      rw [hb] at hf
      rw [if_neg (by omega)] at kk
      exact ih (p + 1) (by omega) hf kk
theorem y_ofGrain (x : RY n d h) {g what : Int} (hg : rng g) (hw : rng what) (k : ∀ h', KY n d h h' → P (.int (I (ofG n d g what))) h') : R 136 0 [.ref 400, .int (I g), .int (I what)] [] h P := by
  have hn := x.n7
  unfold ofG at k
  refine t_Y_ofGrain x.S (y_isGrain x hg (fun c => ?_) (fun c => ?_))
  · rw [if_neg (by omega)] at k
    obtain ⟨m, rfl⟩ : ∃ m : Nat, g = m := ⟨g.toNat, by omega⟩
    obtain ⟨g1, g2, g3⟩ := x.gr (g := m) (by omega)
    have em : ((m : Nat) : Int).toNat = m := rfl
    rw [em] at k
    have k' := k h (KY.rf x)
    refine t_Y_ofGrain_5 x.S ?_
    rw [g1, g2, g3]
    refine ⟨by decide, fun q => absurd q (by decide), fun _ => ⟨hw, ⟨fun e => ⟨by omega, by omega, ?_⟩, fun e => ⟨by omega, by omega, ?_⟩, fun e => ⟨by omega, by omega, ?_⟩, fun e => ?_, fun e => ?_, fun e => ?_⟩, fun e => ?_⟩⟩
    · rw [if_pos e] at k'; exact k'
    · rw [if_neg (by omega), if_pos e] at k'; exact k'
    · rw [if_neg (by omega), if_neg (by omega), if_pos e] at k'; exact k'
    · rw [if_neg (by omega), if_neg (by omega), if_neg (by omega), if_pos e] at k'
      exact y_bulk x (by omega) (t_Y_ofGrain_74 x.S k')
    · rw [if_neg (by omega), if_neg (by omega), if_neg (by omega), if_neg (by omega), if_pos e] at k'
      exact y_heft x (by omega) (t_Y_ofGrain_80 x.S k')
    · rw [if_neg (by omega), if_neg (by omega), if_neg (by omega), if_neg (by omega), if_neg (by omega), if_pos e] at k
      obtain ⟨l, l1, l2, l3⟩ := x.l1 (by omega)
      have el : ((l : Nat) : Int).toNat = l := rfl
      rw [l1, el] at k
      rw [l3]
      refine t_Y_placeOf x.S (y_open x (by omega) l2 fun h1 f1 w1 => ?_)
      have x1 := x.ks f1.ks
      refine t_Y_placeOf_5 x1.S (place_loop x1 w1 (by omega) n 0 (by omega) (okRow.fnd (by omega) ⟨l, l2, rfl⟩ (by omega)) ?_)
      exact t_Y_ofGrain_90 x1.S (k h1 (x.k f1.ks))
    · rw [if_neg (by omega), if_neg (by omega), if_neg (by omega), if_neg (by omega), if_neg (by omega), if_neg (by omega)] at k'; exact k'
  · rw [if_pos (by omega)] at k
    exact t_Y_ofGrain_5 x.S ⟨by decide, fun _ => k h (KY.rf x), fun q => absurd rfl q⟩
theorem y_at (x : RY n d h) {p : Int} (hp : rng p) (k : ∀ h', KY n d h h' → P (.int (I (atA n (d 0 1) p))) h') : R 143 0 [.ref 400, .int (I p)] [] h P := by
  have hn := x.n7
  unfold atA at k
  refine t_Y_at x.S ?_
  rw [x.g]
  refine ⟨hp, fun c => ?_, fun c => ⟨hp, by omega, fun c2 => ?_, fun c2 => ?_⟩⟩
  · rw [if_pos (by omega)] at k; exact k h (KY.rf x)
  · rw [if_neg (by omega)] at k
    obtain ⟨l, l1, l2, l3⟩ := x.l1 (by omega)
    have el : ((l : Nat) : Int).toNat = l := rfl
    rw [l1, el] at k
    rw [l3]
    obtain ⟨m, rfl⟩ : ∃ m : Nat, p = m := ⟨p.toNat, by omega⟩
    refine y_open x (by omega) l2 fun h1 f1 w1 => t_Y_at_22 (x.ks f1.ks).S ⟨by omega, by omega, ?_⟩
    rw [w1 m (by omega)]
    exact k h1 (x.k f1.ks)
  · rw [if_pos (by omega)] at k; exact k h (KY.rf x)
theorem y_of (x : RY n d h) {l p : Int} (hl : rng l) (hp : rng p) (k : ∀ h', KY n d h h' → P (.int (I (ofA n l p))) h') : R 147 0 [.ref 400, .int (I l), .int (I p)] [] h P := by
  have hn := x.n7
  unfold ofA atA at k
  refine t_Y_of x.S (y_isLie x hl (fun c => ?_) (fun c => ?_))
  · rw [if_neg (by omega)] at k
    refine t_Y_of_5 x.S ?_
    rw [x.g]
    refine ⟨by decide, fun q => absurd q (by decide), fun _ => ⟨hp, fun c1 => ?_, fun c1 => ⟨hp, by omega, fun c2 => ?_, fun c2 => ?_⟩⟩⟩
    · rw [if_pos (by omega)] at k; exact k h (KY.rf x)
    · rw [if_neg (by omega)] at k
      have hn2 := lie_n x.n7 c
      rw [lies_pos hn2] at c
      obtain ⟨m, rfl⟩ : ∃ m : Nat, p = m := ⟨p.toNat, by omega⟩
      obtain ⟨l, rfl⟩ : ∃ m : Nat, l = m := ⟨l.toNat, by omega⟩
      refine y_open x (by omega) (by omega) fun h1 f1 w1 => t_Y_of_27 (x.ks f1.ks).S ⟨by omega, by omega, ?_⟩
      rw [w1 m (by omega)]
      exact k h1 (x.k f1.ks)
    · rw [if_pos (by omega)] at k; exact k h (KY.rf x)
  · rw [if_pos (by omega)] at k
    exact t_Y_of_5 x.S ⟨by decide, fun _ => k h (KY.rf x), fun q => absurd rfl q⟩
theorem y_lie (x : RY n d h) (k : P (.int (I (if n = 0 then -3 else d 0 1))) h) : R 144 0 [.ref 400] [] h P := by
  have hn := x.n7
  have c7 := x.2.2.2.1
  refine t_Y_lie x.S ?_
  rw [x.g, c7.1]
  refine ⟨by omega, fun c => ?_, fun c => ?_⟩
  · rw [if_pos (by omega)] at k; exact k
  · rw [if_neg (by omega)] at k; exact k
def layV (n : Nat) (d : Nat → Nat → Int) (l : Int) : Int := if l < 0 ∨ (lies n : Int) ≤ l then -1 else d 0 1
def layD (n : Nat) (d : Nat → Nat → Int) (l : Int) : Nat → Nat → Int := if l < 0 ∨ (lies n : Int) ≤ l then d else up d 0 1 l
theorem s_lay' (x : RX n d h) {l : Int} (hl : rng l) (k : ∀ h', KX n (layD n d l) h h' → P (.int (I (layV n d l))) h') : R 37 0 [.ref 0, .int (I l), .retAddr 0] [] h P := by
  unfold layV layD at k
  refine s_lay x hl (fun c => ?_) (fun c h' k1 => ?_)
  · rw [if_pos c, if_pos c] at k; exact k h (KX.rf x)
  · have c0 : ¬ (l < 0 ∨ (lies n : Int) ≤ l) := by omega
    rw [if_neg c0, if_neg c0] at k; exact k h' k1
theorem y_lay (x : RY n d h) {l : Int} (hl : rng l) (k : ∀ h', KY n (layD n d l) h h' → P (.int (I (layV n d l))) h') : R 145 0 [.ref 400, .int (I l), .retAddr 0] [] h P := by
  unfold layV layD at k
  refine t_Y_lay x.S (y_isLie x hl (fun c => ?_) (fun c => ?_))
  · have c0 : ¬ (l < 0 ∨ (lies n : Int) ≤ l) := by omega
    rw [if_neg c0, if_neg c0] at k
    refine t_Y_lay_5 x.S ⟨by decide, fun q => absurd q (by decide), fun _ => ?_⟩
    rw [x.2.2.2.1.1, wr_eq hl]
    exact k _ (x.up1_ ⟨c.1, Or.inl c.2⟩)
  · have c0 : l < 0 ∨ (lies n : Int) ≤ l := by omega
    rw [if_pos c0, if_pos c0] at k
    exact t_Y_lay_5 x.S ⟨by decide, fun _ => k h (KY.rf x), fun q => absurd rfl q⟩
theorem y_ofCause (x : RY n d h) {l c w : Int} (hl : rng l) (hc : rng c) (hw : rng w) (k : P (.int (I (ofCA d l c w))) h) : R 151 0 [.ref 400, .int (I l), .int (I c), .int (I w)] [] h P := by
  unfold ofCA at k
  have l3 := x.l3
  refine t_Y_ofCause x.S (y_isLaw x hl (fun q => ?_) (fun q => ?_))
  · obtain ⟨m, rfl⟩ : ∃ m : Nat, l = m := ⟨l.toNat, by omega⟩
    have em : ((m : Nat) : Int).toNat = m := rfl
    rw [em] at k
    obtain ⟨w1, lb, wc⟩ := x.lw (l := m) q.2
    have lb1 := lb.1
    refine t_Y_ofCause_5 x.S ?_
    rw [w1]
    refine ⟨by decide, fun q => absurd q (by decide), fun _ => ⟨hc, fun q1 => ?_, fun q1 => ⟨by omega, by omega, hc, by omega, fun q2 => ?_, fun q2 => ?_⟩⟩⟩
    · rw [if_pos (by omega)] at k; exact k
    · rw [if_neg (by omega)] at k
      obtain ⟨c, rfl⟩ : ∃ m : Nat, c = m := ⟨c.toNat, by omega⟩
      have ec : ((c : Nat) : Int).toNat = c := rfl
      rw [ec] at k
      obtain ⟨c1, c2, c3⟩ := wc c (by omega) q2
      rw [show (6 * (m : Int)) + (c : Int) = ((6 * m + c : Nat) : Int) by omega, c1, c2, c3]
      refine ⟨hw, ⟨fun e => ⟨by omega, by omega, ?_⟩, fun e => ⟨by omega, by omega, ?_⟩, fun e => ⟨by omega, by omega, ?_⟩⟩, fun e => ?_⟩
      · rw [if_pos e] at k; exact k
      · rw [if_neg (by omega), if_pos e] at k; exact k
      · rw [if_neg (by omega), if_neg (by omega), if_pos e] at k; exact k
      · rw [if_neg (by omega), if_neg (by omega), if_neg (by omega)] at k; exact k
    · rw [if_pos (by omega)] at k; exact k
  · rw [if_pos (by omega)] at k
    exact t_Y_ofCause_5 x.S ⟨by decide, fun _ => k, fun q => absurd rfl q⟩
def useV (d : Nat → Nat → Int) (l : Int) : Int := if l < 0 ∨ d 0 3 ≤ l then -1 else d 0 4
def useD (d : Nat → Nat → Int) (l : Int) : Nat → Nat → Int := if l < 0 ∨ d 0 3 ≤ l then d else up d 0 4 l
theorem s_use' (x : RX n d h) {l : Int} (hl : rng l) (k : ∀ h', KX n (useD d l) h h' → P (.int (I (useV d l))) h') : R 48 0 [.ref 0, .int (I l), .retAddr 0] [] h P := by
  unfold useV useD at k
  refine s_use x hl (fun c => ?_) (fun c h' k1 => ?_)
  · rw [if_pos c, if_pos c] at k; exact k h (KX.rf x)
  · have c0 : ¬ (l < 0 ∨ d 0 3 ≤ l) := by omega
    rw [if_neg c0, if_neg c0] at k; exact k h' k1
theorem y_use (x : RY n d h) {l : Int} (hl : rng l) (k : ∀ h', KY n (useD d l) h h' → P (.int (I (useV d l))) h') : R 153 0 [.ref 400, .int (I l), .retAddr 0] [] h P := by
  unfold useV useD at k
  refine t_Y_use x.S (y_isLaw x hl (fun c => ?_) (fun c => ?_))
  · have c0 : ¬ (l < 0 ∨ d 0 3 ≤ l) := by omega
    rw [if_neg c0, if_neg c0] at k
    refine t_Y_use_5 x.S ⟨by decide, fun q => absurd q (by decide), fun _ => ?_⟩
    rw [x.l4.1, wr_eq hl]
    exact k _ (x.up4_ c)
  · have c0 : l < 0 ∨ d 0 3 ≤ l := by omega
    rw [if_pos c0, if_pos c0] at k
    exact t_Y_use_5 x.S ⟨by decide, fun _ => k h (KY.rf x), fun q => absurd rfl q⟩
def turnV (n : Nat) (d : Nat → Nat → Int) : Int := if n = 0 then -3 else (trl n (d 0 1).toNat : Nat)
def turnD (n : Nat) (d : Nat → Nat → Int) : Nat → Nat → Int := if n = 0 then d else up d 0 1 (trl n (d 0 1).toNat : Nat)
theorem s_turn' (x : RX n d h) (k : ∀ h', KX n (turnD n d) h h' → P (.int (I (turnV n d))) h') : R 68 0 [.ref 0] [] h P := by
  unfold turnV turnD at k
  refine s_turn x (fun c => ?_) (fun c h' k1 => ?_)
  · rw [if_pos c, if_pos c] at k; exact k h (KX.rf x)
  · rw [if_neg (by omega), if_neg (by omega)] at k; exact k h' k1
theorem y_turn (x : RY n d h) (k : ∀ h', KY n (turnD n d) h h' → P (.int (I (turnV n d))) h') : R 164 0 [.ref 400] [] h P := by
  unfold turnV turnD at k
  have hn := x.n7
  refine t_Y_turn x.S ?_
  rw [x.g]
  refine ⟨by omega, fun c => ?_, fun c => ?_⟩
  · rw [if_pos (by omega), if_pos (by omega)] at k; exact k h (KY.rf x)
  · rw [if_neg (by omega), if_neg (by omega)] at k
    have hn2 : 2 ≤ n := by omega
    have e := lies_pos hn2
    have f5 := fct_le (k := n) (by omega)
    obtain ⟨l, l1, l2, l3⟩ := x.l1 hn2
    have el : ((l : Nat) : Int).toNat = l := rfl
    rw [l1, el] at k
    rw [l3]
    have tl := trl_lt (n := n) (by omega) l2
    refine y_turned x hn2 l2 fun h1 f1 => ?_
    have x1 := x.ks f1.ks
    refine t_Y_turn_19 x1.S ?_
    rw [iv_eq, wr_eq (show rng (trl n l : Nat) by omega)]
    exact k _ ((x.k f1.ks).tr (x1.up1_ ⟨by omega, Or.inl (by omega)⟩))
def spoonV (n : Nat) (d : Nat → Nat → Int) : Int := if n = 0 then -3 else (dg (rw_ n (d 0 1).toNat) 0 : Nat)
def spoonD (n : Nat) (d : Nat → Nat → Int) : Nat → Nat → Int := if n = 0 then d else up d 0 1 (spl n (d 0 1).toNat : Nat)
theorem s_spoon' (x : RX n d h) (k : ∀ h', KX n (spoonD n d) h h' → P (.int (I (spoonV n d))) h') : R 71 0 [.ref 0, .retAddr 0] [] h P := by
  unfold spoonV spoonD at k
  refine s_spoon x (fun c => ?_) (fun c h' k1 => ?_)
  · rw [if_pos c, if_pos c] at k; exact k h (KX.rf x)
  · rw [if_neg (by omega), if_neg (by omega)] at k; exact k h' k1
theorem y_spoon (x : RY n d h) (k : ∀ h', KY n (spoonD n d) h h' → P (.int (I (spoonV n d))) h') : R 166 0 [.ref 400] [] h P := by
  unfold spoonV spoonD at k
  have hn := x.n7
  refine t_Y_spoon x.S ?_
  rw [x.g]
  refine ⟨by omega, fun c => ?_, fun c => ?_⟩
  · rw [if_pos (by omega), if_pos (by omega)] at k; exact k h (KY.rf x)
  · rw [if_neg (by omega), if_neg (by omega)] at k
    have hn2 : 2 ≤ n := by omega
    have e := lies_pos hn2
    have f5 := fct_le (k := n) (by omega)
    obtain ⟨l, l1, l2, l3⟩ := x.l1 hn2
    have el : ((l : Nat) : Int).toNat = l := rfl
    rw [l1, el] at k
    rw [l3]
    have tl := spl_lt (n := n) (by omega) l2
    refine y_spooned x hn2 l2 fun h1 f1 w1 => ?_
    have x1 := x.ks f1.ks
    have ds := (okRow.dgs (n := n) (by omega) ⟨l, l2, rfl⟩).2.2.1
    refine t_Y_spoon_19 x1.S ?_
    rw [wr_eq (show rng (spl n l : Nat) by omega), iv_nk (by decide), x1.g, iv_ne (by decide), show (n : Int) - 1 = ((n - 1 : Nat) : Int) by omega, w1 (n - 1) (by omega), ds]
    exact ⟨by omega, by omega, k _ ((x.k f1.ks).tr (x1.up1_ ⟨by omega, Or.inl (by omega)⟩))⟩
theorem y_trace (x : RY n d h) (k : P (.int (I (d 0 6))) h) : R 205 0 [.ref 400] [] h P := by
  refine t_Y_trace x.S ?_
  rw [x.2.2.1.1]
  exact k
theorem y_fault (x : RY n d h) (k : P (.int (I (d 0 7))) h) : R 206 0 [.ref 400] [] h P := by
  refine t_Y_fault x.S ?_
  rw [x.2.1.1]
  exact k
theorem y_many (x : RY n d h) {w : Int} (hw : rng w) (k : P (.int (I (manyA n d w))) h) : R 207 0 [.ref 400, .int (I w)] [] h P := by
  unfold manyA at k
  have l3 := x.l3
  obtain ⟨-, c0, c1, c7, c8, c18, c19, c34, -⟩ := id x
  refine t_Y_many x.S ?_
  rw [x.g, x.ls, c18.1, c34.1, c8.1, c19.1]
  refine ⟨hw, ⟨fun e => ?_, fun e => ?_, fun e => ?_, fun e => ?_, fun e => ?_, fun e => ⟨by omega, fun e2 => ?_, fun e2 => ?_⟩⟩, fun e => ?_⟩
  · rw [if_pos e] at k; exact k
  · rw [if_neg (by omega), if_pos e] at k; exact k
  · rw [if_neg (by omega), if_neg (by omega), if_pos e] at k; exact k
  · rw [if_neg (by omega), if_neg (by omega), if_neg (by omega), if_pos e] at k; exact k
  · rw [if_neg (by omega), if_neg (by omega), if_neg (by omega), if_neg (by omega), if_pos e] at k; exact k
  · rw [if_neg (by omega), if_neg (by omega), if_neg (by omega), if_neg (by omega), if_neg (by omega), if_pos e, if_pos e2] at k; exact k
  · rw [if_neg (by omega), if_neg (by omega), if_neg (by omega), if_neg (by omega), if_neg (by omega), if_pos e, if_neg e2] at k; exact k
  · rw [if_neg (by omega), if_neg (by omega), if_neg (by omega), if_neg (by omega), if_neg (by omega), if_neg (by omega)] at k; exact k
def backV (d : Nat → Nat → Int) (v : Int) : Int := if v < 0 ∨ d 0 5 < v then -2 else d 0 5 - v
def backD (d : Nat → Nat → Int) (v : Int) : Nat → Nat → Int := if v < 0 ∨ d 0 5 < v then d else up d 0 5 (d 0 5 - v)
theorem s_back' (x : RX n d h) {v : Int} (hv : rng v) (k : ∀ h', KX n (backD d v) h h' → P (.int (I (backV d v))) h') : R 101 0 [.ref 0, .int (I v)] [] h P := by
  unfold backV backD at k
  refine s_back x hv (fun c => ?_) (fun c h' k1 => ?_)
  · rw [if_pos c, if_pos c] at k; exact k h (KX.rf x)
  · have c0 : ¬ (v < 0 ∨ d 0 5 < v) := by omega
    rw [if_neg c0, if_neg c0] at k; exact k h' k1
theorem y_back (x : RY n d h) {v : Int} (hv : rng v) (k : ∀ h', KY n (backD d v) h h' → P (.int (I (backV d v))) h') : R 190 0 [.ref 400, .int (I v)] [] h P := by
  unfold backV backD at k
  have c34 := x.2.2.2.2.2.2.2.1
  refine t_Y_back x.S ?_
  rw [c34.1]
  refine y_within hv (by decide) (by omega) (fun c => ?_) (fun c => ?_)
  · have c0 : ¬ (v < 0 ∨ d 0 5 < v) := by omega
    rw [if_neg c0, if_neg c0] at k
    refine t_Y_back_9 x.S ?_
    rw [iv_eq, c34.1, wr_eq (show rng (d 0 5 - v) by omega)]
    exact ⟨by decide, fun q => absurd q (by decide), fun _ => k _ (x.up5_ (by omega))⟩
  · have c0 : v < 0 ∨ d 0 5 < v := by omega
    rw [if_pos c0, if_pos c0] at k
    exact t_Y_back_9 x.S ⟨by decide, fun _ => k h (KY.rf x), fun q => absurd rfl q⟩
theorem y_leave (x : RY n d h) {b : Int} (k : ∀ h', KY n (lv d b) h h' → P .null h') : R 202 0 [.ref 400, .int (I b)] [] h P := by
  refine t_Y_begins x.S ?_
  rw [x.2.2.1.1]
  exact k _ (x.up6 (wr_rng _))
def tellW (n : Nat) (d : Nat → Nat → Int) (g : Int) : Int := if g < 0 ∨ (n : Int) ≤ g then -1 else tellA d g.toNat
def tellE (n : Nat) (d : Nat → Nat → Int) (g : Int) : Nat → Nat → Int := if g < 0 ∨ (n : Int) ≤ g then d else tellD d g.toNat
theorem s_tell' (x : RX n d h) {g : Int} (hg : rng g) (k : ∀ h', KX n (tellE n d g) h h' → P (.int (I (tellW n d g))) h') : R 113 0 [.ref 0, .int (I g)] [] h P := by
  unfold tellW tellE at k
  refine s_tell x hg (fun c => ?_) (fun c h' k1 => ?_)
  · rw [if_pos c, if_pos c] at k; exact k h (KX.rf x)
  · have c0 : ¬ (g < 0 ∨ (n : Int) ≤ g) := by omega
    rw [if_neg c0, if_neg c0] at k; exact k h' k1
theorem y_tell (x : RY n d h) {g : Int} (hg : rng g) (k : ∀ h', KY n (tellE n d g) h h' → P (.int (I (tellW n d g))) h') : R 201 0 [.ref 400, .int (I g), .retAddr 0] [] h P := by
  unfold tellW tellE tellD tellA at k
  have hn := x.n7
  refine t_Y_tell x.S (y_isGrain x hg (fun c => ?_) (fun c => ?_))
  · have c0 : ¬ (g < 0 ∨ (n : Int) ≤ g) := by omega
    rw [if_neg c0, if_neg c0] at k
    obtain ⟨m, rfl⟩ : ∃ m : Nat, g = m := ⟨g.toNat, by omega⟩
    have em : ((m : Nat) : Int).toNat = m := rfl
    rw [em] at k
    obtain ⟨g1, g2, g3⟩ := x.gr (g := m) (by omega)
    obtain ⟨b1, b2, b3⟩ := x.gb m (by omega)
    refine t_Y_tell_5 x.S ?_
    rw [g3, g1]
    refine ⟨by decide, fun q => absurd q (by decide), fun _ => ⟨by omega, by omega, by omega, by omega, by omega, ⟨fun e => ?_, fun e => ?_⟩, fun e => ?_⟩⟩
    · have e0 : ¬ d 3 m = 0 := by omega
      rw [if_neg e0, if_neg e0, if_pos e, if_pos e] at k
      refine y_leave x fun h1 k1 => t_Y_tell_53 k1.1.S (y_leave k1.1 fun h2 k2 => t_Y_tell_58 k2.1.S (k h2 (k1.tr k2)))
    · have e0 : ¬ d 3 m = 0 := by omega
      have e1 : ¬ d 3 m = 1 := by omega
      rw [if_neg e0, if_neg e0, if_neg e1, if_neg e1] at k
      refine y_leave x fun h1 k1 => t_Y_tell_68 k1.1.S (y_leave k1.1 fun h2 k2 => t_Y_tell_73 k2.1.S (y_leave k2.1 fun h3 k3 => t_Y_tell_78 k3.1.S (y_leave k3.1 fun h4 k4 => t_Y_tell_83 k4.1.S (k h4 (((k1.tr k2).tr k3).tr k4)))))
    · have e0 : d 3 m = 0 := by omega
      rw [if_pos e0, if_pos e0] at k
      exact y_leave x fun h1 k1 => t_Y_tell_95 k1.1.S (k h1 k1)
  · have c0 : g < 0 ∨ (n : Int) ≤ g := by omega
    rw [if_pos c0, if_pos c0] at k
    exact t_Y_tell_5 x.S ⟨by decide, fun _ => k h (KY.rf x), fun q => absurd rfl q⟩
def siftV (n : Nat) (d : Nat → Nat → Int) (g : Int) : Int := if g < 0 ∨ (n : Int) ≤ g then -1 else if d 3 g.toNat = 2 then 50 else g
def siftD (n : Nat) (d : Nat → Nat → Int) (g : Int) : Nat → Nat → Int := if g < 0 ∨ (n : Int) ≤ g then d else lv d (if d 3 g.toNat = 2 then 5 else 4)
theorem s_sift' (x : RX n d h) {g : Int} (hg : rng g) (k : ∀ h', KX n (siftD n d g) h h' → P (.int (I (siftV n d g))) h') : R 119 0 [.ref 0, .int (I g)] [] h P := by
  unfold siftV siftD at k
  refine s_sift x hg (fun c => ?_) (fun c h' k1 => ?_)
  · rw [if_pos c, if_pos c] at k; exact k h (KX.rf x)
  · have c0 : ¬ (g < 0 ∨ (n : Int) ≤ g) := by omega
    rw [if_neg c0, if_neg c0] at k; exact k h' k1
theorem y_sift (x : RY n d h) {g : Int} (hg : rng g) (k : ∀ h', KY n (siftD n d g) h h' → P (.int (I (siftV n d g))) h') : R 203 0 [.ref 400, .int (I g)] [] h P := by
  unfold siftV siftD at k
  have hn := x.n7
  refine t_Y_sift x.S (y_isGrain x hg (fun c => ?_) (fun c => ?_))
  · have c0 : ¬ (g < 0 ∨ (n : Int) ≤ g) := by omega
    rw [if_neg c0, if_neg c0] at k
    obtain ⟨m, rfl⟩ : ∃ m : Nat, g = m := ⟨g.toNat, by omega⟩
    have em : ((m : Nat) : Int).toNat = m := rfl
    rw [em] at k
    have g3 := (x.gr (g := m) (by omega)).2.2
    have b3 := (x.gb m (by omega)).2.2
    refine t_Y_sift_5 x.S ?_
    rw [g3]
    refine ⟨by decide, fun q => absurd q (by decide), fun _ => ⟨by omega, by omega, by omega, fun e => ?_, fun e => ?_⟩⟩
    · rw [if_pos e, if_pos e] at k
      refine y_leave x fun h1 k1 => t_Y_sift_29 k1.1.S ?_
      have g4 := (k1.1.gr (g := m) (by omega)).2.2
      have e3 : lv d 5 3 = d 3 := up_o (by decide)
      rw [g4, e3]
      exact ⟨by omega, by omega, by omega, fun _ => k h1 k1, fun q => absurd e q⟩
    · rw [if_neg e, if_neg e] at k
      refine y_leave x fun h1 k1 => t_Y_sift_29 k1.1.S ?_
      have g4 := (k1.1.gr (g := m) (by omega)).2.2
      have e3 : lv d 4 3 = d 3 := up_o (by decide)
      rw [g4, e3]
      exact ⟨by omega, by omega, by omega, fun q => absurd q e, fun _ => k h1 k1⟩
  · have c0 : g < 0 ∨ (n : Int) ≤ g := by omega
    rw [if_pos c0, if_pos c0] at k
    exact t_Y_sift_5 x.S ⟨by decide, fun _ => k h (KY.rf x), fun q => absurd rfl q⟩
def asV (n : Nat) (d : Nat → Nat → Int) (g s : Int) : Int := if g < 0 ∨ (n : Int) ≤ g then -1 else if s < 0 ∨ 2 < s then -2 else if d 3 g.toNat < s then -12 else 1
def asD (n : Nat) (d : Nat → Nat → Int) (g s : Int) : Nat → Nat → Int := if g < 0 ∨ (n : Int) ≤ g then up d 0 7 0 else if s < 0 ∨ 2 < s then up d 0 7 0 else if d 3 g.toNat < s then up d 0 7 2 else up d 0 7 0
theorem s_as' (x : RX n d h) {g s : Int} (hg : rng g) (hs : rng s) (k : ∀ h', KX n (asD n d g s) h h' → P (.int (I (asV n d g s))) h') : R 122 0 [.ref 0, .int (I g), .int (I s)] [] h P := by
  unfold asV asD at k
  refine s_as x hg hs fun h' v e1 e2 e3 => ?_
  by_cases c : g < 0 ∨ (n : Int) ≤ g
  · obtain ⟨a, b⟩ := e1 c
    rw [if_pos c, if_pos c] at k
    rw [a]; exact k h' b
  · rw [if_neg c, if_neg c] at k
    by_cases c2 : s < 0 ∨ 2 < s
    · obtain ⟨a, b⟩ := e2 (by omega) c2
      rw [if_pos c2, if_pos c2] at k
      rw [a]; exact k h' b
    · rw [if_neg c2, if_neg c2] at k
      obtain ⟨e4, e5⟩ := e3 (by omega) (by omega)
      by_cases c3 : d 3 g.toNat < s
      · obtain ⟨a, b⟩ := e4 c3
        rw [if_pos c3, if_pos c3] at k
        rw [a]; exact k h' b
      · obtain ⟨a, b⟩ := e5 (by omega)
        rw [if_neg c3, if_neg c3] at k
        rw [a]; exact k h' b
theorem y_fails (x : RY n d h) {v : Int} (hv : rng v) (k : ∀ h', KY n (up d 0 7 v) h h' → P (.int (I (-10 - v))) h') : R 132 0 [.ref 400, .int (I v)] [] h P := by
  refine t_Y_fails x.S ?_
  rw [wr_eq hv]
  exact k _ (x.up7 hv)
theorem y_as (x : RY n d h) {g s : Int} (hg : rng g) (hs : rng s) (k : ∀ h', KY n (asD n d g s) h h' → P (.int (I (asV n d g s))) h') : R 204 0 [.ref 400, .int (I g), .int (I s)] [] h P := by
  unfold asV asD at k
  have hn := x.n7
  have k1 := x.up7 (v := 0) (by decide)
  have x1 := k1.1
  refine t_Y_as x.S (y_isGrain x1 hg (fun c => ?_) (fun c => ?_))
  · have c0 : ¬ (g < 0 ∨ (n : Int) ≤ g) := by omega
    rw [if_neg c0, if_neg c0] at k
    refine t_Y_as_10 x1.S ⟨by decide, fun q => absurd q (by decide), fun _ => y_within hs (by decide) (by decide) (fun c2 => ?_) (fun c2 => ?_)⟩
    · have c20 : ¬ (s < 0 ∨ 2 < s) := by omega
      rw [if_neg c20, if_neg c20] at k
      obtain ⟨m, rfl⟩ : ∃ m : Nat, g = m := ⟨g.toNat, by omega⟩
      have em : ((m : Nat) : Int).toNat = m := rfl
      rw [em] at k
      have g3 := (x.gr (g := m) (by omega)).2.2
      have b3 := (x.gb m (by omega)).2.2
      refine t_Y_as_21 x1.S ?_
      rw [iv_ne (by decide), g3]
      refine ⟨by decide, fun q => absurd q (by decide), fun _ => ⟨by omega, by omega, by omega, hs, fun e => ?_, fun e => ?_⟩⟩
      · rw [if_pos e, if_pos e] at k
        refine y_fails x1 (by decide) fun h2 k2 => t_Y_as_46 k2.1.S ?_
        have k3 := k1.tr k2
        rw [up_up] at k3
        exact k h2 k3
      · rw [if_neg e, if_neg e] at k
        exact k _ k1
    · have c20 : s < 0 ∨ 2 < s := by omega
      rw [if_pos c20, if_pos c20] at k
      exact t_Y_as_21 x1.S ⟨by decide, fun _ => k _ k1, fun q => absurd rfl q⟩
  · have c0 : g < 0 ∨ (n : Int) ≤ g := by omega
    rw [if_pos c0, if_pos c0] at k
    exact t_Y_as_10 x1.S ⟨by decide, fun _ => k _ k1, fun q => absurd rfl q⟩
end YSIMPLE
