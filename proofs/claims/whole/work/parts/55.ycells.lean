/-! The reference: readings, shakes, what is done by sheets. -/
def SHY (d : Nat → Nat → Int) (h : Hp) (k : Nat) : Prop := iv h 403 k = d 10 k ∧ (d 10 k = -9 ∨ (0 ≤ d 10 k ∧ d 10 k ≤ 2)) ∧ iv h 404 k = d 11 k ∧ (0 ≤ d 11 k ∧ d 11 k ≤ 60) ∧ ∀ i : Nat, i < 60 → iv h 405 ((60 * k + i : Nat) : Int) = d 12 (60 * k + i) ∧ rng (d 12 (60 * k + i))
def agC (d : Nat → Nat → Int) (k : Nat) (s i m : Int) : Int := if d 10 k ≠ -9 ∧ d 10 k ≠ s then 2 else if d 10 k = -9 then 1 else if m < 0 then 4 else if i < 0 ∨ d 11 k < i ∨ d 11 k - i < m then 3 else 0
theorem agC_ref (d : Nat → Nat → Int) {k : Nat} {s : Int} (i m : Int) (hk : k < 4) (hs : 0 ≤ s ∧ s ≤ 2) : (agC d k s i m = 0 ∧ refV d (k : Nat) s i m = 0) ∨ ((1 ≤ agC d k s i m ∧ agC d k s i m ≤ 4) ∧ refV d (k : Nat) s i m = -10 - agC d k s i m ∧ refF (refV d (k : Nat) s i m) = agC d k s i m ∧ refV d (k : Nat) s i m ≠ 0) := by
  unfold refV
  rw [if_neg (by omega), if_neg (by omega), show ((k : Nat) : Int).toNat = k from rfl]
  unfold agC
  by_cases c1 : d 10 k ≠ -9 ∧ d 10 k ≠ s
  · rw [if_pos c1, if_pos c1]; exact Or.inr (by decide)
  · rw [if_neg c1, if_neg c1]
    by_cases c2 : d 10 k = -9
    · rw [if_pos c2, if_pos c2]; exact Or.inr (by decide)
    · rw [if_neg c2, if_neg c2]
      by_cases c3 : m < 0
      · rw [if_pos c3, if_pos c3]; exact Or.inr (by decide)
      · rw [if_neg c3, if_neg c3]
        by_cases c4 : i < 0 ∨ d 11 k < i ∨ d 11 k - i < m
        · rw [if_pos c4, if_pos c4]; exact Or.inr (by decide)
        · rw [if_neg c4, if_neg c4]; exact Or.inl ⟨rfl, rfl⟩
section YCELLS
variable {n : Nat} {d : Nat → Nat → Int} {P : Value → Hp → Prop} {h : Hp}
theorem RY.sh {lo : Int} (x : RY n d h lo) {k : Nat} (hk : k < 4) : SHY d h k := by
  obtain ⟨-, -, -, -, -, -, -, -, -, -, -, -, s⟩ := x
  exact s k hk
theorem RY.rd {lo : Int} (x : RY n d h lo) {r : Nat} (hr : (r : Int) < d 0 5) : iv h 436 r = d 8 r ∧ iv h 437 r = d 9 r ∧ (0 ≤ d 8 r ∧ d 8 r < n) ∧ 0 ≤ d 9 r ∧ d 9 r < n := by
  obtain ⟨-, -, -, -, -, -, -, o, -, -, -, s, -⟩ := x
  exact s r hr (by omega)
theorem RY.st {d' : Nat → Nat → Int} {S : Nat → Bool} {h' : Hp} (x : RY n d h) (f : Fr S h h') (s : ∀ r, S r = true → r = 400 ∨ (403 ≤ r ∧ r ≤ 405) ∨ r = 436 ∨ r = 437) (i0 : ∀ k, k ≠ 0 → k ≠ 34 → iv h' 400 k = iv h 400 k) (hd : ∀ f, 1 ≤ f → f ≤ 7 → d' f = d f) (h0 : ∀ i, i ≠ 5 → i ≠ 7 → d' 0 i = d 0 i) (e0 : iv h' 400 0 = d' 0 7 ∧ rng (d' 0 7)) (e34 : iv h' 400 34 = d' 0 5 ∧ 0 ≤ d' 0 5 ∧ d' 0 5 ≤ 8)
    (er : ∀ r : Nat, (r : Int) < d' 0 5 → r < 8 → iv h' 436 r = d' 8 r ∧ iv h' 437 r = d' 9 r ∧ (0 ≤ d' 8 r ∧ d' 8 r < n) ∧ 0 ≤ d' 9 r ∧ d' 9 r < n) (es : ∀ k : Nat, k < 4 → SHY d' h' k) : KY n d' h h' := by
  have z : ∀ r, r ≠ 400 → ¬ (403 ≤ r ∧ r ≤ 405) → r ≠ 436 → r ≠ 437 → S r = false := fun r h1 h2 h3 h4 => by
    cases e : S r with
    | false => rfl
    | true => have := s r e; omega
  obtain ⟨⟨b1, b2, b3, b4, b5⟩, c0, c1, c7, c8, c18, c19, c34, g, gb, l, r, s'⟩ := x
  refine ⟨?_, f.y4 fun r hr => by have := s r hr; omega⟩
  unfold RY LB GB
  rw [h0 6 (by decide) (by decide), h0 1 (by decide) (by decide), h0 2 (by decide) (by decide), h0 3 (by decide) (by decide), h0 4 (by decide) (by decide), hd 1 (by decide) (by decide), hd 2 (by decide) (by decide), hd 3 (by decide) (by decide), hd 4 (by decide) (by decide), hd 5 (by decide) (by decide), hd 6 (by decide) (by decide), hd 7 (by decide) (by decide)]
  rw [i0 5 (by decide) (by decide), i0 6 (by decide) (by decide), i0 24 (by decide) (by decide), i0 1 (by decide) (by decide), i0 7 (by decide) (by decide), i0 8 (by decide) (by decide), i0 18 (by decide) (by decide), i0 19 (by decide) (by decide)]
  refine ⟨⟨f.y b1, b2, b3, b4, b5⟩, e0, c1, c7, c8, c18, c19, e34, fun x hx => ?_, gb, fun x hx => ?_, er, es⟩
  · rw [f.i (z 410 (by decide) (by decide) (by decide) (by decide)), f.i (z 411 (by decide) (by decide) (by decide) (by decide)), f.i (z 412 (by decide) (by decide) (by decide) (by decide))]; exact g x hx
  · rw [f.i (z 421 (by decide) (by decide) (by decide) (by decide))]
    obtain ⟨l1, l2, l3⟩ := l x hx
    refine ⟨l1, l2, fun c hc hd => ?_⟩
    rw [f.i (z 422 (by decide) (by decide) (by decide) (by decide)), f.i (z 423 (by decide) (by decide) (by decide) (by decide)), f.i (z 424 (by decide) (by decide) (by decide) (by decide))]
    exact l3 c hc hd
theorem y_against (x : RY n d h) {k : Nat} (hk : k < 4) {s i m : Int} (hs : rng s) (hi : rng i) (hm : rng m) (kk : P (.int (I (agC d k s i m))) h) : R 131 0 [.ref 400, .int (I (k : Nat)), .int (I s), .int (I i), .int (I m)] [] h P := by
  obtain ⟨c1, c2, c3, c4, c5⟩ := x.sh hk
  unfold agC at kk
  refine t_Y_against x.S ?_
  rw [c1, c3]
  have tl : d 10 k ≠ -9 → ¬ (d 10 k ≠ -9 ∧ d 10 k ≠ s) → (rng m) ∧ ((m < 0 → P (.int (I 4)) h) ∧ (¬ m < 0 → (rng i) ∧ ((i < 0 → P (.int (I 3)) h) ∧ (¬ i < 0 → (0 ≤ (k : Int)) ∧ ((k : Int) < 4) ∧ (rng i) ∧ (rng (d 11 k)) ∧ ((d 11 k < i → P (.int (I 3)) h) ∧ (¬ d 11 k < i → (0 ≤ (k : Int)) ∧ ((k : Int) < 4) ∧ (rng m) ∧ (rng (d 11 k - i)) ∧ ((d 11 k - i < m → P (.int (I 3)) h) ∧ (¬ d 11 k - i < m → P (.int (I 0)) h)))))))) := fun h9 hn => by
    rw [if_neg hn, if_neg h9] at kk
    refine ⟨hm, fun q => ?_, fun q => ⟨hi, fun q2 => ?_, fun q2 => ⟨by omega, by omega, hi, by omega, fun q3 => ?_, fun q3 => ⟨by omega, by omega, hm, by omega, fun q4 => ?_, fun q4 => ?_⟩⟩⟩⟩
    · rw [if_pos q] at kk; exact kk
    · rw [if_neg q, if_pos (by omega)] at kk; exact kk
    · rw [if_neg q, if_pos (by omega)] at kk; exact kk
    · rw [if_neg q, if_pos (by omega)] at kk; exact kk
    · rw [if_neg q, if_neg (by omega)] at kk; exact kk
  refine ⟨by omega, by omega, by omega, fun e => ⟨by omega, by omega, by omega, fun _ => ?_, fun q => absurd e q⟩, fun e => ⟨by omega, by omega, by omega, hs, fun e2 => ⟨by omega, by omega, by omega, fun q => absurd q e, fun _ => tl e (by omega)⟩, fun e2 => ?_⟩⟩
  · rw [if_neg (by omega), if_pos e] at kk; exact kk
  · rw [if_pos ⟨e, e2⟩] at kk; exact kk
theorem hard_loop (x : RY n d h) {k i m : Nat} (hk : k < 4) (him : i + m ≤ 60) (k1 : hdQ d (k : Nat) (i : Nat) (m : Nat) → P (.int (I 1)) h) (k0 : ¬ hdQ d (k : Nat) (i : Nat) (m : Nat) → P (.int (I 0)) h) : ∀ (r c : Nat), c + r = m → (∀ c' : Nat, c' < c → 1 ≤ d 12 (60 * k + i + c') ∧ d 12 (60 * k + i + c') ≤ 3) →
    R 163 2 [.ref 400, .int (I (60 * (k : Int) + (i : Int))), .int (I (m : Nat)), .int (I (c : Nat))] [] h P := by
  intro r
  induction r with
  | zero =>
    intro c hc hv
    exact t_Y_areHard_2 x.S ⟨by omega, by omega, fun q => absurd q (by omega), fun _ => k1 fun c' hc' => hv c' (by omega)⟩
  | succ r ih =>
    intro c hc hv
    obtain ⟨c1, c2⟩ := (x.sh hk).2.2.2.2 (i + c) (by omega)
    rw [← Nat.add_assoc] at c1 c2
    refine t_Y_areHard_2 x.S ?_
    rw [show 60 * (k : Int) + (i : Int) + (c : Int) = ((60 * k + i + c : Nat) : Int) by omega, c1]
    refine ⟨by omega, by omega, fun _ => ⟨by omega, by omega, y_isHard c2 (fun q => ?_) (fun q => ?_)⟩, fun q => absurd (by omega) q⟩
    · refine t_Y_areHard_18 x.S ⟨by decide, fun q => absurd q (by decide), fun _ => ih (c + 1) (by omega) fun c' hc' => ?_⟩
      by_cases e : c' = c
      · rw [e]; exact q
      · exact hv c' (by omega)
    · exact t_Y_areHard_18 x.S ⟨by decide, fun _ => k0 fun z => q (z c (by omega)), fun q => absurd rfl q⟩
theorem y_areHard (x : RY n d h) {k i m : Nat} (hk : k < 4) (him : i + m ≤ 60) (k1 : hdQ d (k : Nat) (i : Nat) (m : Nat) → P (.int (I 1)) h) (k0 : ¬ hdQ d (k : Nat) (i : Nat) (m : Nat) → P (.int (I 0)) h) : R 163 0 [.ref 400, .int (I (60 * (k : Int) + (i : Int))), .int (I (m : Nat)), .retAddr 0] [] h P :=
  t_Y_areHard x.S (hard_loop x hk him k1 k0 m 0 (by omega) fun c' hc' => absurd hc' (Nat.not_lt_zero _))
theorem yread_loop (x : RY n d h) {row : Nat} (w : RW n row h) (k1 : rdQ d row → P (.int (I 1)) h) (k0 : ¬ rdQ d row → P (.int (I 0)) h) : ∀ (k r : Nat), (r : Int) + k = d 0 5 → (∀ r', r' < r → ((dg row (d 9 r').toNat : Nat) : Int) = d 8 r') → R 192 2 [.ref 400, .int (I (r : Nat))] [] h P := by
  have c34 := x.2.2.2.2.2.2.2.1
  have hn := x.n7
  intro k
  induction k with
  | zero =>
    intro r hk hv
    refine t_Y_isRead_2 x.S ?_
    rw [c34.1]
    exact ⟨by omega, by omega, fun c => absurd c (by omega), fun _ => k1 fun r' hr' => hv r' (by omega)⟩
  | succ k ih =>
    intro r hk hv
    obtain ⟨r1, r2, r3, r4, r5⟩ := x.rd (r := r) (by omega)
    have q := w (d 9 r).toNat (by omega)
    rw [show (((d 9 r).toNat : Nat) : Int) = d 9 r by omega] at q
    have d8 := dg_lt row (d 9 r).toNat
    refine t_Y_isRead_2 x.S ?_
    rw [c34.1, r2, q, r1]
    refine ⟨by omega, by omega, fun _ => ⟨by omega, by omega, by omega, by omega, by omega, by omega, by omega, by omega, fun c => ?_, fun c => ?_⟩, fun c => absurd (by omega) c⟩
    · refine ih (r + 1) (by omega) fun r' hr' => ?_
      by_cases e : r' = r
      · rw [e]; exact c
      · exact hv r' (by omega)
    · exact k0 fun q => c (q r (by omega))
theorem y_isRead (x : RY n d h) {row : Nat} (w : RW n row h) (k1 : rdQ d row → P (.int (I 1)) h) (k0 : ¬ rdQ d row → P (.int (I 0)) h) : R 192 0 [.ref 400, .retAddr 0] [] h P := by
  have c34 := x.2.2.2.2.2.2.2.1
  exact t_Y_isRead x.S (yread_loop x w k1 k0 (d 0 5).toNat 0 (by omega) (fun r' hr' => absurd hr' (Nat.not_lt_zero _)))
theorem bor_0 {a : Nat} (ha : a < 2147483648) : bor (a : Nat) 0 = (a : Nat) := by
  have := bor_nat (a := a) (b := 0) ha (by decide)
  rw [Nat.or_zero] at this
  exact this
theorem fts_31 (Q : Nat → Prop) {k : Nat} (hk : k ≤ 31) : fts Q k < 2147483648 := Nat.lt_of_lt_of_le (fts_lt Q k) (Nat.pow_le_pow_right (by decide) hk)
theorem yfits_loop (hn2 : 2 ≤ n) {l : Nat} (el : (l : Int) = d 0 4) (hl : (l : Int) < d 0 3) {hd : Int} (hh : rng hd) {x0 : Nat} (hx : x0 < fct n) {a1 : Value} : ∀ (k s : Nat) (h : Hp), s + k = 31 → RY n d h → RW n (rw_ n (itr (fh d n l hd (-9)) s x0)) h →
    (∀ h', KY n d h h' → P (.int (I (fts (fun s => rdQ d (rw_ n (itr (fh d n l hd (-9)) s x0))) 31 : Nat))) h') → R 191 40 [.ref 400, a1, .int (I hd), .int (I (fts (fun s => rdQ d (rw_ n (itr (fh d n l hd (-9)) s x0))) s : Nat)), .int (I (s : Nat))] [] h P := by
  intro k
  induction k with
  | zero =>
    intro s h hs x w kk
    have e : s = 31 := by omega
    subst e
    exact t_Y_fits_40 x.S ⟨by decide, fun q => absurd q (by decide), fun _ => kk h (KY.rf x)⟩
  | succ k ih =>
    intro s h hs x w kk
    have hn := x.n7
    have hn7 : 2 ≤ n ∧ n ≤ 7 := by omega
    have hy := itr_lt (f := fh d n l hd (-9)) (fh_lt hn7) hx s
    have f31 := fts_31 (fun s => rdQ d (rw_ n (itr (fh d n l hd (-9)) s x0))) (k := s) (by omega)
    have step : ∀ acc : Nat, acc = fts (fun s => rdQ d (rw_ n (itr (fh d n l hd (-9)) s x0))) (s + 1) → R 159 0 [.ref 400, .int (I (l : Nat)), .int (I hd), .retAddr 0, .retAddr 0] [] h (fun _ h2 => R 191 74 [.ref 400, a1, .int (I hd), .int (I (acc : Nat)), .int (I (s : Nat))] [] h2 P) := fun acc ha => by
      refine y_shaken x (by decide) hn2 hl hh ⟨_, hy, rfl⟩ w fun h1 f1 w1 _ => ?_
      have x1 := x.ks f1.ks
      refine t_Y_fits_74 x1.S ?_
      rw [ha]
      have w2 : RW n (rw_ n (itr (fh d n l hd (-9)) (s + 1) x0)) h1 := by
        have := (nxc_row (c := chg d l hd (-9)) hn7 hy).2
        show RW n (rw_ n (nxc (chg d l hd (-9)) n (itr (fh d n l hd (-9)) s x0))) h1
        rw [this]
        exact w1
      exact ih (s + 1) h1 (by omega) x1 w2 fun h' k2 => kk h' ((x.k f1.ks).tr k2)
    refine t_Y_fits_40 x.S ⟨by omega, fun _ => y_isRead x w (fun c => ?_) (fun c => ?_), fun q => absurd (by omega) q⟩
    · refine t_Y_fits_52 x.S ?_
      rw [x.l4.1, ← el, fts_bit _ (show s < 31 by omega)]
      exact ⟨by decide, fun q => absurd q (by decide), fun _ => step _ (fts_y (Q := fun s => rdQ d (rw_ n (itr (fh d n l hd (-9)) s x0))) c).symm⟩
    · refine t_Y_fits_52 x.S ?_
      rw [x.l4.1, ← el, bor_0 f31]
      exact ⟨by decide, fun _ => step _ (fts_n (Q := fun s => rdQ d (rw_ n (itr (fh d n l hd (-9)) s x0))) c).symm, fun q => absurd rfl q⟩
theorem y_fits (x : RY n d h) {l hd : Int} (hl : rng l) (hh : rng hd) (k : ∀ h', KY n d h h' → P (.int (I (fitsA n d l hd))) h') : R 191 0 [.ref 400, .int (I l), .int (I hd), .retAddr 0, .retAddr 0] [] h P := by
  unfold fitsA at k
  have l3 := x.l3
  refine t_Y_fits x.S (y_isLie x hl (fun c => ?_) (fun c => ?_))
  · rw [if_neg (by omega)] at k
    refine t_Y_fits_5 x.S ⟨by decide, fun q => absurd q (by decide), fun _ => y_isHard hh (fun c2 => ?_) (fun c2 => ?_)⟩
    · rw [if_neg (by omega)] at k
      refine t_Y_fits_14 x.S ?_
      rw [l3.1]
      refine ⟨by decide, fun q => absurd q (by decide), fun _ => ⟨by omega, fun c3 => ?_, fun c3 => ?_⟩⟩
      · rw [if_pos c3] at k; exact k h (KY.rf x)
      · rw [if_neg c3] at k
        have hn2 := lie_n x.n7 c
        obtain ⟨l2, el, hl2, e2⟩ := x.inF c3
        rw [lies_pos hn2] at c
        rw [e2] at k
        obtain ⟨m, rfl⟩ : ∃ m : Nat, l = m := ⟨l.toNat, by omega⟩
        refine y_open x hn2 (lie := m) (by omega) fun h1 f1 w1 => ?_
        have x1 := x.ks f1.ks
        refine t_Y_fits_37 x1.S ?_
        exact yfits_loop (P := P) hn2 el hl2 hh (x0 := m) (by omega) 31 0 h1 (by decide) x1 w1 fun h' k2 => k h' ((x.k f1.ks).tr k2)
    · rw [if_pos (by omega)] at k
      exact t_Y_fits_14 x.S ⟨by decide, fun _ => k h (KY.rf x), fun q => absurd rfl q⟩
  · rw [if_pos (by omega)] at k
    exact t_Y_fits_5 x.S ⟨by decide, fun _ => k h (KY.rf x), fun q => absurd rfl q⟩
theorem y_end (x : RY n d h) (hn2 : 2 ≤ n) {L : Nat} (hL : L < fct n) {m v : Int} (hv : I (iv h 400 26) = I v) (kk : ∀ h', KY n (shD d (L : Nat) (wr (d 0 2 + m))) h h' → P (.int (I v)) h') : P (.int (I (iv (setI (setI h 400 7 (wr (L : Nat))) 400 8 (wr ((iv (setI h 400 7 (wr (L : Nat))) 400 8) + m))) 400 26))) (setI (setI h 400 7 (wr (L : Nat))) 400 8 (wr ((iv (setI h 400 7 (wr (L : Nat))) 400 8) + m))) := by
  have hn := x.n7
  have f5 := fct_le (k := n) (by omega)
  have e := lies_pos hn2
  rw [wr_eq (show rng (L : Nat) by omega)]
  have k1 := x.up1_ (v := (L : Nat)) ⟨by omega, Or.inl (by omega)⟩
  have e8 : iv (setI h 400 7 (L : Nat)) 400 8 = d 0 2 := (iv_nk (by decide)).trans x.2.2.2.2.1.1
  rw [e8, iv_nk (by decide), iv_nk (by decide), hv]
  exact kk _ (k1.tr (k1.1.up2_ (wr_rng _)))
theorem yshake_loop (hn2 : 2 ≤ n) {l : Nat} (el : (l : Int) = d 0 4) (hl : (l : Int) < d 0 3) {hd : Int} (hh : rng hd) {x0 m : Nat} (hx : x0 < fct n) (hm : m ≤ 99) : ∀ (k s : Nat) (h : Hp), s + k = m → RY n d h → RW n (rw_ n (goL d n l (fun _ => hd) x0 s)) h → I (iv h 400 26) = I (goC d n l (fun _ => hd) x0 s) →
    (∀ h', KY n (shD d (goL d n l (fun _ => hd) x0 m : Nat) (wr (d 0 2 + (m : Nat)))) h h' → P (.int (I (goC d n l (fun _ => hd) x0 m))) h') → R 158 52 [.ref 400, .int (I hd), .int (I (m : Nat)), .int (I (s : Nat))] [] h P := by
  intro k
  induction k with
  | zero =>
    intro s h hs x w hc kk
    have hn := x.n7
    have hn7 : 2 ≤ n ∧ n ≤ 7 := by omega
    have e : s = m := by omega
    subst e
    have hy := goL_lt (d := d) (l := l) (H := fun _ => hd) hn7 hx s
    refine t_Y_shake_52 x.S ⟨by omega, by omega, fun q => absurd q (by omega), fun _ => y_closed x ⟨_, hy, rfl⟩ w ?_⟩
    refine t_Y_shake_77 x.S ?_
    rw [(rank_facts hn7 hy).1]
    exact y_end x hn2 hy hc kk
  | succ k ih =>
    intro s h hs x w hc kk
    have hn := x.n7
    have hn7 : 2 ≤ n ∧ n ≤ 7 := by omega
    have hy := goL_lt (d := d) (l := l) (H := fun _ => hd) hn7 hx s
    refine t_Y_shake_52 x.S ?_
    rw [x.l4.1, ← el]
    refine ⟨by omega, by omega, fun _ => ?_, fun q => absurd (by omega) q⟩
    refine y_shaken x (by decide) hn2 hl hh ⟨_, hy, rfl⟩ w fun h1 f1 w1 c1 => ?_
    have x1 := x.ks f1.ks
    refine t_Y_shake_66 x1.S ?_
    have w2 : RW n (rw_ n (goL d n l (fun _ => hd) x0 (s + 1))) h1 := by
      have := (nxc_row (c := chg d l hd (-9)) hn7 hy).2
      show RW n (rw_ n (nxc (chg d l hd (-9)) n (goL d n l (fun _ => hd) x0 s))) h1
      rw [this]
      exact w1
    refine ih (s + 1) h1 (by omega) x1 w2 ?_ fun h' k2 => kk h' ((x.k f1.ks).tr k2)
    rw [c1, ← I_add, hc, I_add]
    rfl
theorem y_shake (x : RY n d h) {hd m : Int} (hh : rng hd) (hm : rng m) (k : ∀ h', KY n (shakeD n d hd m) h h' → P (.int (I (shakeV n d hd m))) h') : R 158 0 [.ref 400, .int (I hd), .int (I m), .retAddr 0] [] h P := by
  unfold shakeV shakeD at k
  have hn := x.n7
  have l3 := x.l3
  have bad : (hd < 1 ∨ 3 < hd ∨ m < 0 ∨ 99 < m) → P (.int (I (-2))) h := fun c0 => by
    rw [if_pos c0, if_pos c0] at k; exact k h (KY.rf x)
  refine t_Y_shake x.S (y_isHard hh (fun c => ?_) (fun c => ?_))
  · refine t_Y_shake_4 x.S ⟨by decide, fun q => absurd q (by decide), fun _ => y_within hm (by decide) (by decide) (fun c2 => ?_) (fun c2 => ?_)⟩
    · have c0 : ¬ (hd < 1 ∨ 3 < hd ∨ m < 0 ∨ 99 < m) := by omega
      rw [if_neg c0, if_neg c0] at k
      have no : (n = 0 ∨ d 0 3 = 0) → P (.int (I (-3))) h := fun c1 => by
        rw [if_pos c1, if_pos c1] at k; exact k h (KY.rf x)
      refine t_Y_shake_14 x.S ?_
      rw [x.g, l3.1, iv_nk (by decide)]
      refine ⟨by decide, fun q => absurd q (by decide), fun _ => ⟨by omega, fun c3 => no (by omega), fun c3 => ⟨by omega, fun c4 => no (by omega), fun c4 => ?_⟩⟩⟩
      have c1 : ¬ (n = 0 ∨ d 0 3 = 0) := by omega
      rw [if_neg c1, if_neg c1] at k
      have hn2 : 2 ≤ n := by omega
      obtain ⟨l2, el, hl2, e2⟩ := x.inF c4
      obtain ⟨l, l1, l2', l3'⟩ := x.l1 hn2
      have em : ((l : Nat) : Int).toNat = l := rfl
      obtain ⟨m, rfl⟩ : ∃ q : Nat, m = q := ⟨m.toNat, by omega⟩
      have em2 : ((m : Nat) : Int).toNat = m := rfl
      rw [e2, l1, em, em2] at k
      rw [l3']
      have k0 : KS h (setI h 400 26 0) := KS.set0 (by decide) 0
      have x0 := x.ks k0
      refine y_open8 x0 hn2 l2' fun h1 f1 w1 => ?_
      have x1 := x0.ks f1.fr.ks
      have e26 : iv h1 400 26 = 0 := (Fr.i f1 rfl 26).trans (iv_eq _ _ _ _)
      refine t_Y_shake_50 x1.S ?_
      exact yshake_loop (P := P) hn2 el hl2 hh (x0 := l) l2' (by omega) m 0 h1 (by omega) x1 w1 (congrArg I e26) fun h' k2 => k h' ((x.k (k0.tr f1.fr.ks)).tr k2)
    · exact t_Y_shake_14 x.S ⟨by decide, fun _ => bad (by omega), fun q => absurd rfl q⟩
  · exact t_Y_shake_4 x.S ⟨by decide, fun _ => bad (by omega), fun q => absurd rfl q⟩
end YCELLS
