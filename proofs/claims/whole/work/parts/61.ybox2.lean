/-! The reference: a box. -/
section YBOX2
variable {n : Nat} {d : Nat → Nat → Int} {P : Value → Hp → Prop} {h : Hp}
theorem bxD_0 {H : Nat → Int} {m i : Nat} (hi : i ≠ 1 ∧ i ≠ 2 ∧ i ≠ 5) : bxD d H m 0 i = d 0 i := by
  unfold bxD
  rw [if_neg (by omega), if_neg (by decide), if_neg (by decide), if_neg (by decide)]
theorem bxD_z {H : Nat → Int} {m i : Nat} (hi : i = 1 ∨ i = 2 ∨ i = 5) : bxD d H m 0 i = 0 := if_pos ⟨rfl, hi⟩
theorem bxD_f {H : Nat → Int} {m f : Nat} (hf : 4 ≤ f) : bxD d H m f = d f := by
  funext i
  unfold bxD
  rw [if_neg (by omega), if_neg (by omega), if_neg (by omega), if_neg (by omega)]
theorem bxD_g {H : Nat → Int} {m g : Nat} : bxD d H m 1 g = H (gpo H m g + 1) - 48 ∧ bxD d H m 2 g = H (gpo H m g + 2) - 48 ∧ bxD d H m 3 g = (kd H m (gpo H m g + 3) : Nat) := by
  refine ⟨?_, ?_, ?_⟩
  · unfold bxD; rw [if_neg (by omega), if_pos rfl]
  · unfold bxD; rw [if_neg (by omega), if_neg (by decide), if_pos rfl]
  · unfold bxD; rw [if_neg (by omega), if_neg (by decide), if_neg (by decide), if_pos rfl]
theorem RY.nb (x : RY n d h) {H : Nat → Int} {m N : Nat} (gt : GT H m N) {S : Nat → Bool} {h' : Hp} (f : Fr S h h') (s : ∀ r, S r = true → r = 400 ∨ (410 ≤ r ∧ r ≤ 412)) (i0 : ∀ k, k ≠ 5 → k ≠ 6 → k ≠ 7 → k ≠ 8 → k ≠ 34 → iv h' 400 k = iv h 400 k) (e5 : iv h' 400 5 = (N : Nat)) (e6 : iv h' 400 6 = (fct N : Nat)) (e7 : iv h' 400 7 = 0) (e8 : iv h' 400 8 = 0) (e34 : iv h' 400 34 = 0)
    (eg : ∀ g : Nat, g < N → iv h' 410 g = H (gpo H m g + 1) - 48 ∧ iv h' 411 g = H (gpo H m g + 2) - 48 ∧ iv h' 412 g = (kd H m (gpo H m g + 3) : Nat)) : KY N (bxD d H m) h h' := by
  have z : ∀ r, r ≠ 400 → ¬ (410 ≤ r ∧ r ≤ 412) → S r = false := fun r h1 h2 => by
    cases e : S r with
    | false => rfl
    | true => have := s r e; omega
  obtain ⟨⟨b1, b2, b3, b4, b5⟩, c0, c1, c7, c8, c18, c19, c34, g, gb, lw, r, s'⟩ := x
  have hN := gt.1
  have lp := lies_pos hN.1
  have fp := fct_pos N
  refine ⟨?_, f.y4 fun r hr => by have := s r hr; omega⟩
  unfold RY GB LB
  rw [bxD_z (i := 1) (by decide), bxD_z (i := 2) (by decide), bxD_z (i := 5) (by decide), bxD_0 (i := 7) (by decide), bxD_0 (i := 6) (by decide), bxD_0 (i := 3) (by decide), bxD_0 (i := 4) (by decide), bxD_f (f := 4) (by decide), bxD_f (f := 5) (by decide), bxD_f (f := 6) (by decide), bxD_f (f := 7) (by decide), bxD_f (f := 8) (by decide), bxD_f (f := 9) (by decide), bxD_f (f := 10) (by decide), bxD_f (f := 11) (by decide), bxD_f (f := 12) (by decide)]
  rw [i0 24 (by decide) (by decide) (by decide) (by decide) (by decide), i0 0 (by decide) (by decide) (by decide) (by decide) (by decide), i0 1 (by decide) (by decide) (by decide) (by decide) (by decide), i0 18 (by decide) (by decide) (by decide) (by decide) (by decide), i0 19 (by decide) (by decide) (by decide) (by decide) (by decide), lp]
  refine ⟨⟨f.y b1, Or.inr hN, e5, e6, b5⟩, c0, c1, ⟨e7, Int.le_refl _, Or.inl (by omega)⟩, ⟨e8, by decide⟩, c18, c19, ⟨e34, by decide, by decide⟩, fun x hx => ?_, fun x hx => ?_, fun x hx => ?_, fun x hx h8 => absurd hx (by omega), fun x hx => ?_⟩
  · obtain ⟨q1, q2, q3⟩ := bxD_g (d := d) (H := H) (m := m) (g := x)
    rw [q1, q2, q3]; exact eg x hx
  · obtain ⟨q1, q2, q3⟩ := bxD_g (d := d) (H := H) (m := m) (g := x)
    have kl := kd_le H m (gpo H m x + 3)
    have t := gt.2.2 x hx
    rw [q1, q2, q3]
    omega
  · rw [f.i (z 421 (by decide) (by decide))]
    obtain ⟨l1, l2, l3⟩ := lw x hx
    refine ⟨l1, l2, fun c hc hd => ?_⟩
    rw [f.i (z 422 (by decide) (by decide)), f.i (z 423 (by decide) (by decide)), f.i (z 424 (by decide) (by decide))]
    exact l3 c hc hd
  · rw [f.i (z 403 (by decide) (by decide)), f.i (z 404 (by decide) (by decide))]
    obtain ⟨s1, s2, s3, s4, s5⟩ := s' x hx
    refine ⟨s1, s2, s3, s4, fun i hi => ?_⟩
    rw [f.i (z 405 (by decide) (by decide))]
    exact s5 i hi
def S41 (r : Nat) : Bool := r == 410 || r == 411 || r == 412 || r == 400
theorem boxcp_loop {N : Nat} (hN : 2 ≤ N ∧ N ≤ 7) {X Y Z : Nat → Int} (b : ∀ c, c < N → rng (X c) ∧ rng (Y c) ∧ rng (Z c)) {a1 a2 a3 a4 a5 a6 : Value} : ∀ (r c : Nat) (h' : Hp), YS h' → c + r = N → Fr S41 h h' → (∀ k, k ≠ 5 → k ≠ 6 → iv h' 400 k = iv h 400 k) → iv h' 400 5 = (N : Nat) → iv h' 400 6 = (fct c : Nat) → (∀ c : Nat, c < N → iv h 415 c = X c ∧ iv h 416 c = Y c ∧ iv h 417 c = Z c) →
    (∀ z : Nat, z < c → iv h' 410 z = X z ∧ iv h' 411 z = Y z ∧ iv h' 412 z = Z z) →
    (∀ h', Fr S41 h h' → (∀ k, k ≠ 5 → k ≠ 6 → iv h' 400 k = iv h 400 k) → iv h' 400 5 = (N : Nat) → iv h' 400 6 = (fct N : Nat) → (∀ z : Nat, z < N → iv h' 410 z = X z ∧ iv h' 411 z = Y z ∧ iv h' 412 z = Z z) → P (.int (I (N : Nat))) (setI (setI (setI h' 400 7 0) 400 8 0) 400 34 0)) →
    R 127 100 [.ref 400, a1, a2, a3, a4, a5, a6, .int (I (c : Nat))] [] h' P := by
  intro r
  induction r with
  | zero =>
    intro c h' S hc f i0 e5 e6 cr g kk
    have e : c = N := by omega
    subst e
    have e5' : iv (setI (setI (setI h' 400 7 0) 400 8 0) 400 34 0) 400 5 = (c : Nat) := by rw [iv_nk (by decide), iv_nk (by decide), iv_nk (by decide)]; exact e5
    refine t_Y_box_100 S ?_
    rw [e5, e5']
    exact ⟨by omega, by omega, fun q => absurd q (by omega), fun _ => kk h' f i0 e5 e6 g⟩
  | succ r ih =>
    intro c h' S hc f i0 e5 e6 cr g kk
    obtain ⟨r1, r2, r3⟩ := cr c (by omega)
    obtain ⟨b1, b2, b3⟩ := b c (by omega)
    have y1 : iv h' 415 (c : Nat) = X c := (f.i rfl _).trans r1
    have y2 : ∀ a v, iv (setI h' 410 a v) 416 (c : Nat) = Y c := fun a v => (iv_ne (by decide)).trans ((f.i rfl _).trans r2)
    have y3 : ∀ a v a' v', iv (setI (setI h' 410 a v) 411 a' v') 417 (c : Nat) = Z c := fun a v a' v' => (iv_ne (by decide)).trans ((iv_ne (by decide)).trans ((f.i rfl _).trans r3))
    have y6 : ∀ a v a' v' a'' v'', iv (setI (setI (setI h' 410 a v) 411 a' v') 412 a'' v'') 400 6 = (fct c : Nat) := fun a v a' v' a'' v'' => (iv_ne (by decide)).trans ((iv_ne (by decide)).trans ((iv_ne (by decide)).trans e6))
    have f5 := fct_le (k := c + 1) (by omega)
    have ef : ((fct c : Nat) : Int) * ((c : Int) + 1) = (fct (c + 1) : Nat) := by
      show ((fct c : Nat) : Int) * ((c : Int) + 1) = (((c + 1) * fct c : Nat) : Int)
      rw [Nat.mul_comm]
      rfl
    refine t_Y_box_100 S ?_
    rw [e5, y1, y2, y3, y6, wr_eq b1, wr_eq b2, wr_eq b3, ef, wr_eq (show rng (fct (c + 1) : Nat) by omega)]
    have f2 : Fr S41 h' (setI (setI (setI (setI h' 410 (c : Nat) (X c)) 411 (c : Nat) (Y c)) 412 (c : Nat) (Z c)) 400 6 (fct (c + 1) : Nat)) := (((Fr.set h' _ _ rfl).tr (Fr.set _ _ _ rfl)).tr (Fr.set _ _ _ rfl)).tr (Fr.set _ _ _ rfl)
    refine ⟨by omega, by omega, fun _ => ⟨by omega, by omega, by omega, by omega, by omega, by omega, by omega, by omega, by omega, by omega, by omega, by omega, ih (c + 1) _ (f2.y S) (by omega) (f.tr f2) (fun k h5 h6 => ?_) ?_ (iv_eq _ _ _ _) cr (fun z hz => ?_) kk⟩, fun q => absurd (by omega) q⟩
    · rw [iv_nk h6, iv_ne (by decide), iv_ne (by decide), iv_ne (by decide)]; exact i0 k h5 h6
    · rw [iv_nk (by decide), iv_ne (by decide), iv_ne (by decide), iv_ne (by decide)]; exact e5
    · have h410 : iv (setI (setI (setI (setI h' 410 (c : Nat) (X c)) 411 (c : Nat) (Y c)) 412 (c : Nat) (Z c)) 400 6 (fct (c + 1) : Nat)) 410 z = iv (setI h' 410 (c : Nat) (X c)) 410 z := by rw [iv_ne (by decide), iv_ne (by decide), iv_ne (by decide)]
      have h411 : iv (setI (setI (setI (setI h' 410 (c : Nat) (X c)) 411 (c : Nat) (Y c)) 412 (c : Nat) (Z c)) 400 6 (fct (c + 1) : Nat)) 411 z = iv (setI (setI h' 410 (c : Nat) (X c)) 411 (c : Nat) (Y c)) 411 z := by rw [iv_ne (by decide), iv_ne (by decide)]
      have h412 : iv (setI (setI (setI (setI h' 410 (c : Nat) (X c)) 411 (c : Nat) (Y c)) 412 (c : Nat) (Z c)) 400 6 (fct (c + 1) : Nat)) 412 z = iv (setI (setI (setI h' 410 (c : Nat) (X c)) 411 (c : Nat) (Y c)) 412 (c : Nat) (Z c)) 412 z := by rw [iv_ne (by decide)]
      rw [h410, h411, h412]
      by_cases e : z = c
      · subst e
        rw [iv_eq, iv_eq, iv_eq]
        exact ⟨rfl, rfl, rfl⟩
      · have ne : ¬ ((z : Nat) : Int) = (c : Nat) := by omega
        rw [iv_nk ne, iv_nk ne, iv_nk ne, iv_ne (by decide), iv_ne (by decide), iv_ne (by decide)]
        exact g z (by omega)
theorem y_box (x : RY n d h) {k s i m : Int} (hk : rng k) (hs : rng s) (hi : rng i) (hm : rng m) (kk : ∀ h', KY (boxN n d k s i m) (boxD d k s i m) h h' → P (.int (I (boxV d k s i m))) h') : R 127 0 [.ref 400, .int (I k), .int (I s), .int (I i), .int (I m), .retAddr 0, .retAddr 0, .retAddr 0] [] h P := by
  unfold boxN boxV boxD at kk
  have k1 := x.up7 (v := 0) (by decide)
  have x1 := k1.1
  refine t_Y_box x.S (y_isSheet hk (fun c => ?_) (fun c => ?_))
  · refine t_Y_box_9 x1.S ⟨by decide, fun q => absurd q (by decide), fun _ => y_isSort hs (fun c2 => ?_) (fun c2 => ?_)⟩
    · obtain ⟨k, rfl⟩ : ∃ q : Nat, k = q := ⟨k.toNat, by omega⟩
      refine t_Y_box_18 x1.S ⟨by decide, fun q => absurd q (by decide), fun _ => y_against x1 (by omega) hs hi hm ?_⟩
      rcases agC_ref (up d 0 7 0) (k := k) i m (by omega) c2 with ⟨a1, a2⟩ | ⟨a1, a2, a3, a4⟩
      · rw [refV_up] at a2
        have nn : ¬ ((0 : Int) ≠ 0) := fun z => z rfl
        rw [a2, if_neg nn, if_neg nn, if_neg nn] at kk
        obtain ⟨q1, q2, q3, q4, q5, q6, q7⟩ := refV_ok a2
        have q0 := (x.sh (k := k) (by omega)).2.2.2.1
        have em : ((k : Nat) : Int).toNat = k := rfl
        rw [em] at q6 q7
        obtain ⟨i, rfl⟩ : ∃ q : Nat, i = q := ⟨i.toNat, by omega⟩
        obtain ⟨m, rfl⟩ : ∃ q : Nat, m = q := ⟨m.toNat, by omega⟩
        have hk4 : k < 4 := by omega
        have him : i + m ≤ 60 := by omega
        clear a2 c c2 q1 q2 q3 q4 q5 q6 q7
        generalize up d 0 7 0 = e at *
        have em2 : ((m : Nat) : Int).toNat = m := rfl
        have eL : boxR e (k : Nat) (i : Nat) (m : Nat) = bxg (celH e (k : Nat) (i : Nat)) m 7 0 0 := rfl
        rw [em2, eL] at kk
        rw [a1]
        refine t_Y_box_33 x1.S ?_
        rw [wr_eq (show rng (60 * (k : Int) + (i : Int)) by omega)]
        refine ⟨by decide, fun _ => t_Y_readBox ((x1.ks (KS.p12 _ _)).S) ?_, fun q => absurd rfl q⟩
        have ka : KS (setI h 400 0 0) (setI (setI (setI h 400 0 0) 400 12 (60 * (k : Int) + (i : Int))) 400 13 0) := (KS.p12 _ _).tr (KS.set0 (by decide) 0)
        have xa := x1.ks ka
        have e12 : iv (setI (setI (setI h 400 0 0) 400 12 (60 * (k : Int) + (i : Int))) 400 13 0) 400 12 = 60 * (k : Int) + (i : Int) := (iv_nk (by decide)).trans (iv_eq _ _ _ _)
        have e13 : iv (setI (setI (setI h 400 0 0) 400 12 (60 * (k : Int) + (i : Int))) 400 13 0) 400 13 = 0 := iv_eq _ _ _ _
        generalize setI (setI (setI h 400 0 0) 400 12 (60 * (k : Int) + (i : Int))) 400 13 0 = ha at *
        refine readBox_loop hk4 him 7 0 ha (by decide) (by decide) (Nat.zero_le _) xa (by rw [e12]; show _ = _ + (0 : Int); omega) e13 (fun j hj => absurd hj (Nat.not_lt_zero _)) (fun h2 p q2 p12 L => ?_) (fun h2 N q2 p13 br L gN => ?_)
        · have x2 := xa.ks q2
          have L : bxg (celH e (k : Nat) (i : Nat)) m 7 0 0 = (p : Nat) := L
          have np : ((p : Nat) : Int) ≠ -1 := by omega
          rw [L, if_pos np, if_pos np, if_pos np] at kk
          refine t_Y_box_70 x2.S ?_
          rw [p12, show 60 * (k : Int) + (i : Int) + (p : Int) - (60 * (k : Int) + (i : Int)) = (p : Int) by omega]
          exact ⟨by decide, fun _ => kk h2 (k1.tr (x1.k (ka.tr q2))), fun q => absurd rfl q⟩
        · have x2 := xa.ks q2
          have L : bxg (celH e (k : Nat) (i : Nat)) m 7 0 0 = -1 := L
          have n1 : ¬ ((-1 : Int) ≠ -1) := fun z => z rfl
          obtain ⟨N', gt⟩ := bxg_gt 7 0 (by decide) (Nat.zero_le _) (fun j hj => absurd hj (Nat.not_lt_zero _)) L
          have eN : N = N' := gpo_inj (gN.trans gt.2.1.symm)
          rw [← eN] at gt
          have cn := cgr_n gt 7 0 (by decide) (Nat.zero_le _)
          have hN := gt.1
          rw [L, if_neg n1, if_neg n1, if_neg n1, cn] at kk
          refine t_Y_box_70 x2.S ?_
          rw [p13, wr_eq (show rng (N : Nat) by omega)]
          refine ⟨by decide, fun q => absurd q (by decide), fun _ => ?_⟩
          have fa : Fr S41 h2 (setI (setI h2 400 5 (N : Nat)) 400 6 1) := (Fr.set h2 _ _ rfl).tr (Fr.set _ _ _ rfl)
          refine boxcp_loop (P := P) (h := h2) hN (X := fun g => celH e (k : Nat) (i : Nat) (gpo (celH e (k : Nat) (i : Nat)) m g + 1) - 48) (Y := fun g => celH e (k : Nat) (i : Nat) (gpo (celH e (k : Nat) (i : Nat)) m g + 2) - 48) (Z := fun g => (kd (celH e (k : Nat) (i : Nat)) m (gpo (celH e (k : Nat) (i : Nat)) m g + 3) : Nat)) (fun g hg => ?_) N 0 _ (fa.y x2.S) (by omega) fa (fun z h5 h6 => by rw [iv_nk h6, iv_nk h5]) ((iv_nk (by decide)).trans (iv_eq _ _ _ _)) (iv_eq _ _ _ _) br (fun z hz => absurd hz (Nat.not_lt_zero _)) fun h3 f3 i3 e5 e6 g3 => ?_
          · have t := gt.2.2 g hg
            have kl := kd_le (celH e (k : Nat) (i : Nat)) m (gpo (celH e (k : Nat) (i : Nat)) m g + 3)
            exact ⟨by omega, by omega, by omega⟩
          · refine kk _ ((k1.tr (x1.k (ka.tr q2))).tr ?_)
            have ft : Fr S41 h2 (setI (setI (setI h3 400 7 0) 400 8 0) 400 34 0) := f3.tr (((Fr.set h3 _ _ rfl).tr (Fr.set _ _ _ rfl)).tr (Fr.set _ _ _ rfl))
            refine x2.nb gt ft (fun r hr => ?_) (fun z h5 h6 h7 h8 h34 => ?_) ?_ ?_ ?_ ?_ (iv_eq _ _ _ _) (fun g hg => ?_)
            · simp only [S41, Bool.or_eq_true, beq_iff_eq] at hr
              omega
            · rw [iv_nk h34, iv_nk h8, iv_nk h7]; exact i3 z h5 h6
            · rw [iv_nk (by decide), iv_nk (by decide), iv_nk (by decide)]; exact e5
            · rw [iv_nk (by decide), iv_nk (by decide), iv_nk (by decide)]; exact e6
            · rw [iv_nk (by decide), iv_nk (by decide), iv_eq]
            · rw [iv_nk (by decide), iv_eq]
            · rw [iv_ne (by decide), iv_ne (by decide), iv_ne (by decide), iv_ne (by decide), iv_ne (by decide), iv_ne (by decide), iv_ne (by decide), iv_ne (by decide), iv_ne (by decide)]
              exact g3 g hg
      · rw [refV_up] at a2 a3 a4
        rw [if_pos a4, if_pos a4, if_pos a4, a3, a2] at kk
        refine t_Y_box_33 x1.S ⟨by omega, fun q => absurd q (by omega), fun _ => y_fails x1 (by omega) fun h2 k2 => ?_⟩
        have k3 := k1.tr k2
        rw [up_up] at k3
        exact t_Y_box_46 k3.1.S (kk h2 k3)
    · rw [ref2 d i m (by omega) (by omega), if_pos (by decide), if_pos (by decide), if_pos (by decide)] at kk
      exact t_Y_box_18 x1.S ⟨by decide, fun _ => kk _ k1, fun q => absurd rfl q⟩
  · rw [ref1 d s i m (by omega), if_pos (by decide), if_pos (by decide), if_pos (by decide)] at kk
    exact t_Y_box_9 x1.S ⟨by decide, fun _ => kk _ k1, fun q => absurd rfl q⟩
end YBOX2
