/-! The reference: a law. -/
section YLAW2
variable {n : Nat} {d : Nat → Nat → Int} {P : Value → Hp → Prop} {h : Hp}
theorem RY.nl (x : RY n d h) {l M : Nat} {H : Nat → Int} (el : (l : Int) = d 0 3) (hl : l < 4) (hM : 1 ≤ M ∧ M ≤ 6) (hH : ∀ c, c < M → ltc (H (4 * c)) ≠ -9 ∧ (48 ≤ H (4 * c + 1) ∧ H (4 * c + 1) ≤ 57) ∧ 49 ≤ H (4 * c + 2) ∧ H (4 * c + 2) ≤ 51) {S : Nat → Bool} {h' : Hp} (f : Fr S h h') (s : ∀ r, S r = true → r = 400 ∨ (421 ≤ r ∧ r ≤ 424)) (i0 : ∀ k, k ≠ 18 → iv h' 400 k = iv h 400 k) (e18 : iv h' 400 18 = (l : Int) + 1) (e1 : ∀ z : Nat, iv h' 421 z = if z = l then (M : Int) else iv h 421 z)
    (e2 : ∀ z : Nat, iv h' 422 z = if 6 * l ≤ z ∧ z < 6 * l + M then ltc (H (4 * (z - 6 * l))) else iv h 422 z) (e3 : ∀ z : Nat, iv h' 423 z = if 6 * l ≤ z ∧ z < 6 * l + M then H (4 * (z - 6 * l) + 1) - 48 else iv h 423 z) (e4 : ∀ z : Nat, iv h' 424 z = if 6 * l ≤ z ∧ z < 6 * l + M then H (4 * (z - 6 * l) + 2) - 48 else iv h 424 z) : KY n (nlD d l H M) h h' := by
  have z : ∀ r, r ≠ 400 → ¬ (421 ≤ r ∧ r ≤ 424) → S r = false := fun r h1 h2 => by
    cases e : S r with
    | false => rfl
    | true => have := s r e; omega
  obtain ⟨⟨b1, b2, b3, b4, b5⟩, c0, c1, c7, c8, c18, c19, c34, g, gb, lw, r, s'⟩ := x
  refine ⟨?_, f.y4 fun r hr => by have := s r hr; omega⟩
  unfold RY GB
  rw [nlD_03, nlD_0 (i := 7) (by decide), nlD_0 (i := 6) (by decide), nlD_0 (i := 1) (by decide), nlD_0 (i := 2) (by decide), nlD_0 (i := 4) (by decide), nlD_0 (i := 5) (by decide), nlD_f (f := 1) (by decide), nlD_f (f := 2) (by decide), nlD_f (f := 3) (by decide), nlD_f (f := 8) (by decide), nlD_f (f := 9) (by decide), nlD_f (f := 10) (by decide), nlD_f (f := 11) (by decide), nlD_f (f := 12) (by decide)]
  rw [i0 5 (by decide), i0 6 (by decide), i0 24 (by decide), i0 0 (by decide), i0 1 (by decide), i0 7 (by decide), i0 8 (by decide), i0 19 (by decide), i0 34 (by decide)]
  refine ⟨⟨f.y b1, b2, b3, b4, b5⟩, c0, c1, c7, c8, ⟨by omega, by omega, by omega⟩, ⟨c19.1, c19.2.1, by omega⟩, c34, fun x hx => ?_, gb, fun x hx => ?_, fun x hx h8 => ?_, fun x hx => ?_⟩
  · rw [f.i (z 410 (by decide) (by decide)), f.i (z 411 (by decide) (by decide)), f.i (z 412 (by decide) (by decide))]; exact g x hx
  · by_cases e : x = l
    · subst e
      rw [e1, if_pos rfl, nlD_4]
      refine ⟨rfl, ⟨by rw [nlD_4]; omega, fun c hc hd => ?_⟩, fun c hc hd => ?_⟩
      · rw [nlD_4] at hd
        obtain ⟨q1, q2, q3⟩ := nlD_567 (d := d) (l := x) (H := H) (M := M) (c := c) (by omega)
        obtain ⟨p1, p2, p3⟩ := hH c (by omega)
        have lb := ltc_bd (H (4 * c))
        rw [q1, q2, q3]
        omega
      · obtain ⟨q1, q2, q3⟩ := nlD_567 (d := d) (l := x) (H := H) (M := M) (c := c) (by omega)
        rw [q1, q2, q3, e2, e3, e4, if_pos (by omega), if_pos (by omega), if_pos (by omega), show 6 * x + c - 6 * x = c by omega]
        exact ⟨rfl, rfl, rfl⟩
    · have le := nlD_le (d := d) (l := l) (H := H) (M := M) (l2 := x) hM.2 e
      obtain ⟨l1, l2, l3⟩ := lw x (by omega)
      rw [e1, if_neg e, le.2.2.2.1]
      refine ⟨l1, l2.le le, fun c hc hd => ?_⟩
      obtain ⟨q1, q2, q3⟩ := le.2.2.2.2 c hc
      rw [q1, q2, q3, e2, e3, e4, if_neg (by omega), if_neg (by omega), if_neg (by omega)]
      exact l3 c hc hd
  · rw [f.i (z 436 (by decide) (by decide)), f.i (z 437 (by decide) (by decide))]; exact r x hx h8
  · rw [f.i (z 403 (by decide) (by decide)), f.i (z 404 (by decide) (by decide))]
    obtain ⟨s1, s2, s3, s4, s5⟩ := s' x hx
    refine ⟨s1, s2, s3, s4, fun i hi => ?_⟩
    rw [f.i (z 405 (by decide) (by decide))]
    exact s5 i hi
def S42 (r : Nat) : Bool := r == 422 || r == 423 || r == 424
theorem lawcp_loop {L M : Nat} (hL : L < 4) (hM : M ≤ 6) {X Y Z : Nat → Int} (b : ∀ c, c < M → rng (X c) ∧ rng (Y c) ∧ rng (Z c)) {a1 a2 a3 a4 a5 a6 : Value} : ∀ (r c : Nat) (h' : Hp), YS h' → c + r = M → Fr S42 h h' → iv h 400 18 = (L : Nat) → iv h 400 13 = (M : Nat) → (∀ c : Nat, c < M → iv h 426 (3 * (c : Int)) = X c ∧ iv h 426 (3 * (c : Int) + 1) = Y c ∧ iv h 426 (3 * (c : Int) + 2) = Z c) →
    (∀ z : Nat, iv h' 422 z = (if 6 * L ≤ z ∧ z < 6 * L + c then X (z - 6 * L) else iv h 422 z) ∧ iv h' 423 z = (if 6 * L ≤ z ∧ z < 6 * L + c then Y (z - 6 * L) else iv h 423 z) ∧ iv h' 424 z = (if 6 * L ≤ z ∧ z < 6 * L + c then Z (z - 6 * L) else iv h 424 z)) →
    (∀ h', Fr S42 h h' → (∀ z : Nat, iv h' 422 z = (if 6 * L ≤ z ∧ z < 6 * L + M then X (z - 6 * L) else iv h 422 z) ∧ iv h' 423 z = (if 6 * L ≤ z ∧ z < 6 * L + M then Y (z - 6 * L) else iv h 423 z) ∧ iv h' 424 z = (if 6 * L ≤ z ∧ z < 6 * L + M then Z (z - 6 * L) else iv h 424 z)) → P (.int (I (L : Nat))) (setI h' 400 18 ((L : Int) + 1))) →
    R 148 111 [.ref 400, a1, a2, a3, a4, a5, a6, .int (I (c : Nat))] [] h' P := by
  intro r
  induction r with
  | zero =>
    intro c h' S hc f e18 e13 cr g kk
    have e : c = M := by omega
    subst e
    have i4 : ∀ z, iv h' 400 z = iv h 400 z := fun z => f.i rfl z
    refine t_Y_law_111 S ?_
    rw [iv_eq, i4, i4, e13, e18, wr_eq (show rng ((L : Nat) + 1) by omega), Int.add_sub_cancel]
    exact ⟨by omega, by omega, fun q => absurd q (by omega), fun _ => kk h' f g⟩
  | succ r ih =>
    intro c h' S hc f e18 e13 cr g kk
    have i4 : ∀ z, iv h' 400 z = iv h 400 z := fun z => f.i rfl z
    have i6 : ∀ z, iv h' 426 z = iv h 426 z := fun z => f.i rfl z
    obtain ⟨r1, r2, r3⟩ := cr c (by omega)
    obtain ⟨b1, b2, b3⟩ := b c (by omega)
    have E1 : ∀ a v, iv (setI h' 422 a v) 400 18 = (L : Nat) := fun a v => (iv_ne (by decide)).trans ((i4 _).trans e18)
    have E2 : ∀ a v a' v', iv (setI (setI h' 422 a v) 423 a' v') 400 18 = (L : Nat) := fun a v a' v' => (iv_ne (by decide)).trans (E1 a v)
    have F1 : ∀ a v, iv (setI h' 422 a v) 426 (3 * (c : Int) + 1) = Y c := fun a v => (iv_ne (by decide)).trans ((i6 _).trans r2)
    have F2 : ∀ a v a' v', iv (setI (setI h' 422 a v) 423 a' v') 426 (3 * (c : Int) + 2) = Z c := fun a v a' v' => (iv_ne (by decide)).trans ((iv_ne (by decide)).trans ((i6 _).trans r3))
    refine t_Y_law_111 S ?_
    rw [i4 18, e18, i4 13, e13, i6, r1, E1, F1, E2, F2, wr_eq b1, wr_eq b2, wr_eq b3, show 6 * ((L : Nat) : Int) + (c : Int) = ((6 * L + c : Nat) : Int) by omega]
    have f2 : Fr S42 h' (setI (setI (setI h' 422 ((6 * L + c : Nat) : Int) (X c)) 423 ((6 * L + c : Nat) : Int) (Y c)) 424 ((6 * L + c : Nat) : Int) (Z c)) := ((Fr.set h' _ _ rfl).tr (Fr.set _ _ _ rfl)).tr (Fr.set _ _ _ rfl)
    refine ⟨by omega, by omega, fun _ => ⟨by omega, by omega, by omega, by omega, by omega, by omega, by omega, by omega, by omega, by omega, by omega, by omega, ih (c + 1) _ (f2.y S) (by omega) (f.tr f2) e18 e13 cr (fun z => ?_) kk⟩, fun q => absurd (by omega) q⟩
    obtain ⟨g1, g2, g3⟩ := g z
    by_cases e : z = 6 * L + c
    · subst e
      rw [iv_ne (by decide), iv_ne (by decide), iv_eq, iv_ne (by decide), iv_eq, iv_eq, if_pos (by omega), if_pos (by omega), if_pos (by omega), show 6 * L + c - 6 * L = c by omega]
      exact ⟨rfl, rfl, rfl⟩
    · have e2 : ¬ ((z : Nat) : Int) = ((6 * L + c : Nat) : Int) := by omega
      have h422 : iv (setI (setI (setI h' 422 ((6 * L + c : Nat) : Int) (X c)) 423 ((6 * L + c : Nat) : Int) (Y c)) 424 ((6 * L + c : Nat) : Int) (Z c)) 422 z = iv h' 422 z := by rw [iv_ne (by decide), iv_ne (by decide), iv_nk e2]
      have h423 : iv (setI (setI (setI h' 422 ((6 * L + c : Nat) : Int) (X c)) 423 ((6 * L + c : Nat) : Int) (Y c)) 424 ((6 * L + c : Nat) : Int) (Z c)) 423 z = iv h' 423 z := by rw [iv_ne (by decide), iv_nk e2, iv_ne (by decide)]
      have h424 : iv (setI (setI (setI h' 422 ((6 * L + c : Nat) : Int) (X c)) 423 ((6 * L + c : Nat) : Int) (Y c)) 424 ((6 * L + c : Nat) : Int) (Z c)) 424 z = iv h' 424 z := by rw [iv_nk e2, iv_ne (by decide), iv_ne (by decide)]
      rw [h422, h423, h424, g1, g2, g3]
      by_cases q : 6 * L ≤ z ∧ z < 6 * L + c
      · rw [if_pos q, if_pos q, if_pos q, if_pos (by omega), if_pos (by omega), if_pos (by omega)]
        exact ⟨rfl, rfl, rfl⟩
      · rw [if_neg q, if_neg q, if_neg q, if_neg (by omega), if_neg (by omega), if_neg (by omega)]
        exact ⟨rfl, rfl, rfl⟩
theorem y_law (x : RY n d h) {k s i m : Int} (hk : rng k) (hs : rng s) (hi : rng i) (hm : rng m) (kk : ∀ h', KY n (lawD d k s i m) h h' → P (.int (I (lawV d k s i m))) h') : R 148 0 [.ref 400, .int (I k), .int (I s), .int (I i), .int (I m), .retAddr 0, .retAddr 0, .retAddr 0] [] h P := by
  unfold lawV lawD at kk
  have k1 := x.up7 (v := 0) (by decide)
  have x1 := k1.1
  refine t_Y_law x.S (y_isSheet hk (fun c => ?_) (fun c => ?_))
  · refine t_Y_law_9 x1.S ⟨by decide, fun q => absurd q (by decide), fun _ => y_isSort hs (fun c2 => ?_) (fun c2 => ?_)⟩
    · obtain ⟨k, rfl⟩ : ∃ q : Nat, k = q := ⟨k.toNat, by omega⟩
      refine t_Y_law_18 x1.S ⟨by decide, fun q => absurd q (by decide), fun _ => y_against x1 (by omega) hs hi hm ?_⟩
      rcases agC_ref (up d 0 7 0) (k := k) i m (by omega) c2 with ⟨a1, a2⟩ | ⟨a1, a2, a3, a4⟩
      · rw [refV_up] at a2
        rw [a2, if_neg (fun z => z rfl), if_neg (fun z => z rfl)] at kk
        obtain ⟨q1, q2, q3, q4, q5, q6, q7⟩ := refV_ok a2
        have q0 := (x.sh (k := k) (by omega)).2.2.2.1
        have em : ((k : Nat) : Int).toNat = k := rfl
        rw [em] at q6 q7
        obtain ⟨i, rfl⟩ : ∃ q : Nat, i = q := ⟨i.toNat, by omega⟩
        obtain ⟨m, rfl⟩ : ∃ q : Nat, m = q := ⟨m.toNat, by omega⟩
        have hk4 : k < 4 := by omega
        have him : i + m ≤ 60 := by omega
        clear a2 c c2 q1 q2 q3 q4 q5 q6 q7
        generalize up d 0 7 0 = e at *
        have l3 := x1.l3
        unfold lawW lawE at kk
        have em2 : ((m : Nat) : Int).toNat = m := rfl
        have eL : lffg (lwG (celH e (k : Nat) (i : Nat))) m m 0 = lfp (celH e (k : Nat) (i : Nat)) m 0 := rfl
        rw [em2, eL] at kk
        rw [a1]
        refine t_Y_law_33 x1.S ?_
        rw [wr_eq (show rng (60 * (k : Int) + (i : Int)) by omega)]
        refine ⟨by decide, fun _ => t_Y_readLaw ((x1.ks (KS.p12 _ _)).S) ?_, fun q => absurd rfl q⟩
        have ka : KS (setI h 400 0 0) (setI (setI (setI h 400 0 0) 400 12 (60 * (k : Int) + (i : Int))) 400 13 0) := (KS.p12 _ _).tr (KS.set0 (by decide) 0)
        have xa := x1.ks ka
        have e12 : iv (setI (setI (setI h 400 0 0) 400 12 (60 * (k : Int) + (i : Int))) 400 13 0) 400 12 = 60 * (k : Int) + (i : Int) := (iv_nk (by decide)).trans (iv_eq _ _ _ _)
        have e13 : iv (setI (setI (setI h 400 0 0) 400 12 (60 * (k : Int) + (i : Int))) 400 13 0) 400 13 = 0 := iv_eq _ _ _ _
        generalize setI (setI (setI h 400 0 0) 400 12 (60 * (k : Int) + (i : Int))) 400 13 0 = ha at *
        refine readLaw_loop hk4 him (m + 1) 0 ha _ _ _ (by omega) (by decide) (by omega) xa (by rw [e12]; show _ = _ + (0 : Int); omega) e13 (fun c' hc' => absurd hc' (Nat.not_lt_zero _)) (fun h2 p q2 p12 L => ?_) (fun h2 q2 p13 cr L => ?_)
        · have x2 := xa.ks q2
          have L : lfp (celH e (k : Nat) (i : Nat)) m 0 = (p : Nat) := L
          rw [L, if_pos (by omega), if_pos (by omega)] at kk
          refine t_Y_law_70 x2.S ?_
          rw [p12, show 60 * (k : Int) + (i : Int) + (p : Int) - (60 * (k : Int) + (i : Int)) = (p : Int) by omega]
          exact ⟨by decide, fun _ => kk h2 (k1.tr (x1.k (ka.tr q2))), fun q => absurd rfl q⟩
        · have x2 := xa.ks q2
          have L : lfp (celH e (k : Nat) (i : Nat)) m 0 = -1 := L
          have ok := lffg_ok (G := lwG (celH e (k : Nat) (i : Nat))) (m := m) m 0 L
          have m23 := lwG_23 (m := m) ok.1 fun q hq => ok.2 q (Nat.zero_le _) (by omega)
          have nn : ¬ ((-1 : Int) ≠ -1) := fun z => z rfl
          rw [L, if_neg nn, if_neg nn] at kk
          refine t_Y_law_70 x2.S ?_
          rw [x2.l3.1, p13]
          refine ⟨by decide, fun q => absurd q (by decide), fun _ => ⟨by omega, fun c6 => ?_, fun c6 => ⟨by omega, by omega, ?_⟩⟩⟩
          · have c7 : 4 ≤ e 0 3 := by omega
            rw [if_pos c7, if_pos c7] at kk
            exact kk h2 (k1.tr (x1.k (ka.tr q2)))
          · have c7 : ¬ 4 ≤ e 0 3 := by omega
            rw [if_neg c7, if_neg c7] at kk
            obtain ⟨l, el⟩ : ∃ l : Nat, (l : Int) = e 0 3 := ⟨(e 0 3).toNat, by omega⟩
            have hl : l < 4 := by omega
            have el2 : (e 0 3).toNat = l := by omega
            rw [el2, ← el] at kk
            rw [wr_eq (show rng ((m + 1) / 4 : Nat) by omega), ← el]
            have fa : Fr (fun r => r == 421) h2 (setI h2 421 (l : Nat) ((m + 1) / 4 : Nat)) := Fr.set h2 _ _ rfl
            have hH : ∀ c, c < (m + 1) / 4 → ltc (celH e (k : Nat) (i : Nat) (4 * c)) ≠ -9 ∧ (48 ≤ celH e (k : Nat) (i : Nat) (4 * c + 1) ∧ celH e (k : Nat) (i : Nat) (4 * c + 1) ≤ 57) ∧ 49 ≤ celH e (k : Nat) (i : Nat) (4 * c + 2) ∧ celH e (k : Nat) (i : Nat) (4 * c + 2) ≤ 51 := fun c hc => by
              have o3 := ok.1
              exact ⟨(ok.2 (4 * c) (by omega) (by omega)).1 (by omega), (ok.2 (4 * c + 1) (by omega) (by omega)).2.1 (by omega), (ok.2 (4 * c + 2) (by omega) (by omega)).2.2.1 (by omega)⟩
            have s18 : iv (setI h2 421 (l : Nat) ((m + 1) / 4 : Nat)) 400 18 = (l : Nat) := (iv_ne (by decide)).trans (x2.l3.1.trans el.symm)
            have s13 : iv (setI h2 421 (l : Nat) ((m + 1) / 4 : Nat)) 400 13 = ((m + 1) / 4 : Nat) := (iv_ne (by decide)).trans p13
            refine lawcp_loop (P := P) (h := setI h2 421 (l : Nat) ((m + 1) / 4 : Nat)) (L := l) (M := (m + 1) / 4) hl (by omega) (X := fun c => ltc (celH e (k : Nat) (i : Nat) (4 * c))) (Y := fun c => celH e (k : Nat) (i : Nat) (4 * c + 1) - 48) (Z := fun c => celH e (k : Nat) (i : Nat) (4 * c + 2) - 48) (fun c hc => ?_) ((m + 1) / 4) 0 _ (fa.y x2.S) (by omega) (Fr.rf _ _) s18 s13 (fun c hc => ?_) (fun z => ?_) fun h3 f3 g3 => ?_
            · have := hH c hc
              have lb := ltc_bd (celH e (k : Nat) (i : Nat) (4 * c))
              exact ⟨by omega, by omega, by omega⟩
            · rw [iv_ne (by decide), iv_ne (by decide), iv_ne (by decide)]
              exact cr c hc
            · rw [if_neg (by omega), if_neg (by omega), if_neg (by omega)]
              exact ⟨rfl, rfl, rfl⟩
            · refine kk _ ((k1.tr (x1.k (ka.tr q2))).tr ?_)
              have ft : Fr (fun r => r == 421 || S42 r || r == 400) h2 (setI h3 400 18 ((l : Int) + 1)) := ((fa.mono fun r hr => (Bool.or_eq_false_iff.mp (Bool.or_eq_false_iff.mp hr).1).1).tr (f3.mono fun r hr => (Bool.or_eq_false_iff.mp (Bool.or_eq_false_iff.mp hr).1).2)).tr (Fr.set _ _ _ rfl)
              refine x2.nl el hl (by have := ok.1; omega) hH ft (fun r hr => ?_) (fun z hz => ?_) (iv_eq _ _ _ _) (fun z => ?_) (fun z => ?_) (fun z => ?_) (fun z => ?_)
              · simp only [S42, Bool.or_eq_true, beq_iff_eq] at hr
                omega
              · rw [iv_nk hz, f3.i rfl, iv_ne (by decide)]
              · rw [iv_ne (by decide), f3.i rfl, iv_setI]
                by_cases c8 : z = l
                · rw [if_pos c8, if_pos ⟨rfl, by rw [c8]⟩]
                · rw [if_neg c8, if_neg (by omega)]
              · rw [iv_ne (by decide), (g3 z).1, iv_ne (by decide)]
              · rw [iv_ne (by decide), (g3 z).2.1, iv_ne (by decide)]
              · rw [iv_ne (by decide), (g3 z).2.2, iv_ne (by decide)]
      · rw [refV_up] at a2 a3 a4
        rw [if_pos a4, if_pos a4, a3, a2] at kk
        refine t_Y_law_33 x1.S ⟨by omega, fun q => absurd q (by omega), fun _ => y_fails x1 (by omega) fun h2 k2 => ?_⟩
        have k3 := k1.tr k2
        rw [up_up] at k3
        exact t_Y_law_46 k3.1.S (kk h2 k3)
    · rw [ref2 d i m (by omega) (by omega), if_pos (by decide), if_pos (by decide)] at kk
      exact t_Y_law_18 x1.S ⟨by decide, fun _ => kk _ k1, fun q => absurd rfl q⟩
  · rw [ref1 d s i m (by omega), if_pos (by decide), if_pos (by decide)] at kk
    exact t_Y_law_9 x1.S ⟨by decide, fun _ => kk _ k1, fun q => absurd rfl q⟩
end YLAW2
