/-! The call box. -/
def BF (h : Hp) (d' : Nat → Nat → Int) (N : Nat) (hb : Hp) : Prop := (∀ r, r ≠ 1 → r ≠ 3 → ¬ (30 ≤ r ∧ r ≤ 38) → Gp h hb r) ∧ (iv hb 1 1 = (N : Nat) ∧ iv hb 1 2 = (fct N : Nat) ∧ iv hb 1 3 = iv h 1 3 + 1) ∧ (tg hb 37 = 0 ∧ tg hb 38 = 0) ∧ XS hb ∧ (∀ j, j < N → fl hb 2 j = true ∧ GR d' j hb (30 + j)) ∧ (fct N ≤ ln hb 3 ∧ okln (ln hb 3)) ∧ (∀ i : Nat, i < ln hb 3 → iv hb 3 i = 0 ∨ (i < fct N ∧ iv hb 3 i = (rw_ N i : Nat))) ∧ Gr X4 h hb ∧ (ck hb + SL h ≤ ck h + SL hb + 7 ∧ cu hb + 2 * SL h ≤ cu h + 2 * SL hb + 42)
section BOXC
variable {n : Nat} {d : Nat → Nat → Int} {P : Value → Hp → Prop} {h : Hp}
theorem bf_of {d' : Nat → Nat → Int} {N : Nat} {hf h3 h4 : Hp} (fs : FS h d' N hf) (wd : WD 3 (fct N) (setI (setI hf 1 2 (fct N : Nat)) 1 3 (iv h 1 3 + 1)) h3) (hN : 2 ≤ N ∧ N ≤ 7) (ok : okln (ln h 3)) (t38 : tg h 38 = 0) (f : Fr (fun r => r == 3) h3 h4) (rows : ∀ i : Nat, i < ln h4 3 → iv h4 3 i = 0 ∨ (i < fct N ∧ iv h4 3 i = (rw_ N i : Nat))) : BF h d' N h4 := by
  obtain ⟨f1, ⟨r1, r2, r3, r4⟩, f3, f4, f5, f6, f7⟩ := fs
  have s3 : ∀ r, r ≠ 3 → (fun r : Nat => r == 3) r = false := fun r hr => by simpa using hr
  have E : ∀ r, r ≠ 1 → r ≠ 3 → r ≠ 38 → Gp hf h4 r := fun r h1 h2 h38 => (((Gp.setI _ _ h1).tr (Gp.setI _ _ h1)).tr (wd.1 r h2 h38)).tr (f.g.p (s3 r h2))
  have E1 : ∀ k, iv h4 1 k = iv (setI (setI hf 1 2 (fct N : Nat)) 1 3 (iv h 1 3 + 1)) 1 k := fun k => by rw [f.i (s3 1 (by decide)), (wd.1 1 (by decide) (by decide)).2.2.1]
  have x2 : XS (setI (setI hf 1 2 (fct N : Nat)) 1 3 (iv h 1 3 + 1)) := f4
  have l3 : ln (setI (setI hf 1 2 (fct N : Nat)) 1 3 (iv h 1 3 + 1)) 3 = ln h 3 := (f1 3 (by decide) (by decide)).2.1
  have o := wd.ok hN (by rw [l3]; exact ok)
  have sl1 : SL hf = SL h := SL_eq (fun r hr => (f1 r (by omega) (by omega)).2.1) fun l j hl hj => (f1 _ (by omega) (by omega)).2.1
  have cn := wd.2.2.2.2.1
  have sl2 : SL (setI (setI hf 1 2 (fct N : Nat)) 1 3 (iv h 1 3 + 1)) = SL hf := rfl
  have ck2 : ck (setI (setI hf 1 2 (fct N : Nat)) 1 3 (iv h 1 3 + 1)) = ck hf ∧ cu (setI (setI hf 1 2 (fct N : Nat)) 1 3 (iv h 1 3 + 1)) = cu hf := ⟨rfl, rfl⟩
  have cn2 := f.co.1
  unfold CoN at cn cn2
  refine ⟨fun r h1 h2 h3' => (f1 r h1 (by omega)).tr (E r h1 h2 (by omega)), ⟨?_, ?_, ?_⟩, ⟨?_, ?_⟩, f.x (wd.x x2 (Or.inl rfl)), fun j hj => ?_, by rw [f.l]; exact o, rows, ?_, by omega⟩
  · rw [E1, iv_nk (by decide), iv_nk (by decide)]; exact r3
  · rw [E1, iv_nk (by decide), iv_eq]
  · rw [E1, iv_eq]
  · rw [(E 37 (by decide) (by decide) (by decide)).1]; exact f3
  · rw [f.t]; exact wd.2.1
  · obtain ⟨q1, q2⟩ := f6 j hj
    exact ⟨(E 2 (by decide) (by decide) (by decide)).2.2.2 _ q1, q2.gp (E _ (by omega) (by omega) (by omega))⟩
  · exact ((f7.tr ((Gr.setI1 (S := X4) 2 _ rfl).tr (Gr.setI1 (S := X4) 3 _ rfl))).tr wd.2.2.2.2.2).tr (f.g.x4 fun r hr => s3 r (by omega))
theorem s_boxfill (x : RX n d h) {d' : Nat → Nat → Int} {H : Nat → Int} {k i m N : Nat} (hk : k < 4) (gt : GT H m N) (him : i + m ≤ 60) (hb : iv h 1 3 < 900000) (hv : ∀ p, p < m → iv h (12 + k) ((i : Int) + (p : Nat)) = H p ∧ rng (H p)) (d1 : ∀ g, g < N → d' 1 g = H (gpo H m g + 1) - 48) (d2 : ∀ g, g < N → d' 2 g = H (gpo H m g + 2) - 48) (d3 : ∀ g, g < N → d' 3 g = (kd H m (gpo H m g + 3) : Nat)) (kk : ∀ hb, BF h d' N hb → P .null hb) :
    R 15 0 [.ref 1, .ref (12 + k), .int (I (i : Nat)), .int (I (m : Nat)), .retAddr 0, .retAddr 0, .retAddr 0] [] h P := by
  obtain ⟨⟨b1, b2, b3, b4, b5, b6, b7, b8⟩, c, gw_, gg, gb, nb, ls, lw⟩ := x.1
  obtain ⟨t1, t2, t3, t4, t5⟩ := x.S.sh hk
  have hN := gt.1
  have f5 := fct_le hN.2
  have ok3 : okln (ln h 3) := (gw_ 3 (by decide)).2
  have fs0 : FS h d' 0 (setI h 1 1 0) := ⟨fun r h1 _ => Gp.setI _ _ h1, ⟨rfl, fun k hk => iv_nk hk, iv_eq _ _ _ _, fun k q => q⟩, b7, b1, ⟨rfl, rfl⟩, fun j hj => absurd hj (Nat.not_lt_zero _), Gr.setI1 (S := X4) 1 _ rfl⟩
  refine t_Box_fill x.S ?_
  rw [b3]
  have z := fill_loop (P := P) (a4 := (n : Nat)) hk gt t4 t5 him hv d1 d2 d3 (fun hf a6 h6 fs => ?_) N 0 (setI h 1 1 0) (.retAddr 0) (by omega) rfl fs0
  · rw [show (i : Int) + ((gpo H m 0 : Nat) : Int) = (i : Nat) by show (i : Int) + 0 = _; omega] at z
    exact z
  obtain ⟨f1, ⟨r1, r2, r3, r4⟩, f3, f4, f5', f6, f7⟩ := id fs
  have i500 : iv hf 500 (N : Nat) = (fct N : Nat) := by rw [(f1 500 (by decide) (by decide)).2.2.1]; exact b5 N (by omega)
  have t38 : tg hf 38 = 0 := by rw [(f1 38 (by decide) (by decide)).1]; exact b8
  refine t_Box_fill_14 f4 ?_
  rw [r3, i500, iv_nk (show (3 : Int) ≠ 2 by decide), r2 3 (by decide), wr_eq (show rng (fct N : Nat) by omega), wr_eq (show rng (iv h 1 3 + 1) by omega), iv_nk (show (2 : Int) ≠ 3 by decide), iv_eq]
  refine ⟨by omega, by omega, fun q => absurd q (by omega), fun _ => ⟨by omega, by omega, okg_i rfl rfl rfl rfl ?_, ?_⟩⟩
  · simp only [ng, List.all_cons, List.all_nil, h6]
    simp only [ngv, gw12 hk, Bool.not_false, Bool.and_true]
    rfl
  have x2 : XS (setI (setI hf 1 2 (fct N : Nat)) 1 3 (iv h 1 3 + 1)) := f4
  have l3 : ln (setI (setI hf 1 2 (fct N : Nat)) 1 3 (iv h 1 3 + 1)) 3 = ln h 3 := (f1 3 (by decide) (by decide)).2.1
  have i11 : iv (setI (setI hf 1 2 (fct N : Nat)) 1 3 (iv h 1 3 + 1)) 1 1 = (N : Nat) := by rw [iv_nk (by decide), iv_nk (by decide)]; exact r3
  have s3 : ∀ r, r ≠ 3 → (fun r : Nat => r == 3) r = false := fun r hr => by simpa using hr
  -- behind the widening
  have fin : ∀ h3, WD 3 (fct N) (setI (setI hf 1 2 (fct N : Nat)) 1 3 (iv h 1 3 + 1)) h3 → (N = n → P .null h3) ∧ (N ≠ n → R 24 0 [.ref 3, .int (I 0), .retAddr 0, .retAddr 0] [] h3 (fun _ h4 => R 15 156 [.ref 1, .ref (12 + k), .int (I (i : Nat)), .int (I (m : Nat)), .int (I (n : Nat)), .int (I ((i : Int) + (m : Nat) + 1)), a6] [] h4 P)) := by
    intro h3 wd
    have o := wd.ok hN (by rw [l3]; exact ok3)
    refine ⟨fun e => kk h3 (bf_of fs wd hN ok3 b8 (Fr.rf _ _) fun i hi => ?_), fun e => ?_⟩
    · rcases wd.2.2.2.1 with ⟨e1, e2, e3⟩ | ⟨e1, e3⟩
      · rw [e3]
        rw [e1, l3] at hi
        have q : iv (setI (setI hf 1 2 (fct N : Nat)) 1 3 (iv h 1 3 + 1)) 3 i = iv h 3 i := (f1 3 (by decide) (by decide)).2.2.1 i
        rw [q, e]
        rcases c i hi with q | ⟨-, q1, q2⟩
        · exact Or.inl q
        · exact Or.inr ⟨q1, q2⟩
      · rw [e3]; exact Or.inl rfl
    · refine s_fill2 (a := 3) (by decide) wd.2.2.1 o.2.le fun h4 f4' g4 => ?_
      refine t_Box_fill_156 (f4'.x (wd.x x2 (Or.inl rfl))) (kk h4 (bf_of fs wd hN ok3 b8 f4' fun i hi => Or.inl (g4 i ⟨by omega, ?_⟩)))
      rw [f4'.l] at hi
      omega
  refine s_wide (a := 3) x2.t3 t38 (by rw [l3]; exact ok3.le) f5 (fun hle => ?_) (fun hlt => ?_)
  · have wd : WD 3 (fct N) (setI (setI hf 1 2 (fct N : Nat)) 1 3 (iv h 1 3 + 1)) (setF (setI (setI hf 1 2 (fct N : Nat)) 1 3 (iv h 1 3 + 1)) 1 4) := wd_keep t38 x2.t3 hle (by decide)
    obtain ⟨k1, k2⟩ := fin _ wd
    refine t_Box_fill_136 x2 ⟨Or.inl rfl, fun _ => ?_, fun q => absurd q (by decide)⟩
    rw [iv_setF, i11]
    have hn := x.n7
    exact ⟨by omega, by omega, fun q => k1 (by omega), fun q => ⟨by rw [fl_setF, if_pos ⟨rfl, rfl⟩], k2 (by omega)⟩⟩
  · have wd := wd_new (h := setI (setI hf 1 2 (fct N : Nat)) 1 3 (iv h 1 3 + 1)) (q := 3) (r := 1) (k := 4) hN t38 x2.t3 hlt (by rw [l3]; exact ok3) (by decide) (by decide)
    obtain ⟨k1, k2⟩ := fin _ wd
    have xm : XS (mk (setI (setI hf 1 2 (fct N : Nat)) 1 3 (iv h 1 3 + 1)) 38 20 (fct N) (fct N)) := x2.gp fun y hy => by
      have q := Gp.mk (h := setI (setI hf 1 2 (fct N : Nat)) 1 3 (iv h 1 3 + 1)) (q := 38) (r := y) 20 (fct N) (fct N) (by omega)
      exact ⟨q.1, q.2.2.2, fun _ => q.2.1⟩
    have x4 := wd.x x2 (Or.inl rfl)
    have i11' : iv (mov (mk (setI (setI hf 1 2 (fct N : Nat)) 1 3 (iv h 1 3 + 1)) 38 20 (fct N) (fct N)) 1 4 3 38) 1 1 = (N : Nat) := ((wd.1 1 (by decide) (by decide)).2.2.1 1).trans i11
    have hn := x.n7
    refine t_Box_fill_136 xm ⟨Or.inr rfl, fun q => absurd q (by decide), fun _ => ?_⟩
    rw [i11']
    refine ⟨?_, by decide, x4.t1, by omega, by omega, fun q => k1 (by omega), fun q => ⟨x4.t1, x4.f1_4, by rw [x4.t3]; decide, k2 (by omega)⟩⟩
    rw [tg_mk, if_pos rfl]
    simp only [ng, List.all_cons, List.all_nil, h6]
    simp only [ngv, gw12 hk, Bool.not_false, Bool.and_true]
    rfl
/-- a box is there -/
theorem RX.newbox (x : RX n d h) (z : TZ d h) {H : Nat → Int} {m N : Nat} (gt : GT H m N) (hb9 : iv h 1 3 < 900000) {hb h' : Hp} (bf : BF h (bxD d H m) N hb) (w1 : ∀ r, ¬ (20 ≤ r ∧ r ≤ 26) → r ≠ 38 → Gp hb h' r) (w2 : tg h' 38 = 0) (w3 : XS h') (w4 : ∀ r, 20 ≤ r → r ≤ 26 → fct N ≤ ln h' r ∧ okln (ln h' r)) (w5 : CoN hb h') (w6 : Gr X4 hb h') :
    KL N (bxD d H m) h (setI (setI (setI h' 0 4 0) 0 8 0) 0 5 0) := by
  obtain ⟨g1, ⟨g2, g3, g4⟩, ⟨g5, g6⟩, g7, g8, ⟨g9, g10⟩, g11, g12, ⟨g13, g14⟩⟩ := bf
  obtain ⟨⟨b1, b2, b3, b4, b5, b6, b7, b8⟩, c, gw_, gg, gb, nb, ls, lw⟩ := x.1
  obtain ⟨o1, o2, o3, o4, o5, o6, o7⟩ := x.2
  have hN := gt.1
  have F : ∀ r, r ≠ 0 → Gp h' (setI (setI (setI h' 0 4 0) 0 8 0) 0 5 0) r := fun r hr => ((Gp.setI _ _ hr).tr (Gp.setI _ _ hr)).tr (Gp.setI _ _ hr)
  have F0 : ∀ k, k ≠ 4 → k ≠ 8 → k ≠ 5 → iv (setI (setI (setI h' 0 4 0) 0 8 0) 0 5 0) 0 k = iv h' 0 k := fun k h1 h2 h3 => by rw [iv_nk h3, iv_nk h2, iv_nk h1]
  have E : ∀ r, r ≠ 0 → r ≠ 1 → r ≠ 3 → ¬ (20 ≤ r ∧ r ≤ 38) → Gp h (setI (setI (setI h' 0 4 0) 0 8 0) 0 5 0) r := fun r h0 h1 h3 h2 => ((g1 r h1 h3 (by omega)).tr (w1 r (by omega) (by omega))).tr (F r h0)
  have E0 : ∀ k, k ≠ 4 → k ≠ 8 → k ≠ 5 → iv (setI (setI (setI h' 0 4 0) 0 8 0) 0 5 0) 0 k = iv h 0 k := fun k h1 h2 h3 => by rw [F0 k h1 h2 h3, (w1 0 (by decide) (by decide)).2.2.1, (g1 0 (by decide) (by decide) (by decide)).2.2.1]
  have B : ∀ r, ¬ (20 ≤ r ∧ r ≤ 26) → r ≠ 38 → r ≠ 0 → Gp hb (setI (setI (setI h' 0 4 0) 0 8 0) 0 5 0) r := fun r h1 h2 h0 => (w1 r h1 h2).tr (F r h0)
  have q1 := B 1 (by decide) (by decide) (by decide)
  have q3 := B 3 (by decide) (by decide) (by decide)
  have le : lies N = fct N := lies_pos hN.1
  have e4 : bxD d H m 4 = d 4 := by funext i; unfold bxD; rw [if_neg (by omega), if_neg (by omega), if_neg (by omega), if_neg (by omega)]
  have ef : ∀ f, 4 ≤ f → bxD d H m f = d f := fun f hf => by funext i; unfold bxD; rw [if_neg (by omega), if_neg (by omega), if_neg (by omega), if_neg (by omega)]
  have e0 : ∀ i, i ≠ 1 → i ≠ 2 → i ≠ 5 → bxD d H m 0 i = d 0 i := fun i h1 h2 h5 => by unfold bxD; rw [if_neg (by omega), if_neg (by omega), if_neg (by omega), if_neg (by omega)]
  have e00 : ∀ i, (i = 1 ∨ i = 2 ∨ i = 5) → bxD d H m 0 i = 0 := fun i hi => by unfold bxD; rw [if_pos ⟨rfl, hi⟩]
  have x0 : XS (setI (setI (setI h' 0 4 0) 0 8 0) 0 5 0) := w3
  have SLe : SL (setI (setI (setI h' 0 4 0) 0 8 0) 0 5 0) = SL h' := rfl
  have cke : ck (setI (setI (setI h' 0 4 0) 0 8 0) 0 5 0) = ck h' ∧ cu (setI (setI (setI h' 0 4 0) 0 8 0) 0 5 0) = cu h' := ⟨rfl, rfl⟩
  unfold CoN at w5
  refine ⟨⟨⟨⟨x0, Or.inr hN, ?_, ?_, fun k hk => ?_, fun k hk => ?_, ?_, w2⟩, fun i hi => ?_, fun r hr => ?_, fun j hj => ?_, fun j hj => ?_, ?_, ?_, fun l hl => ?_⟩, ?_⟩, ?_, fun l h1 h2 r h3 h4 => ?_, ?_, ?_⟩
  · rw [q1.2.2.1]; exact g2
  · rw [q1.2.2.1, le]; exact g3
  · rw [(E 500 (by decide) (by decide) (by decide) (by decide)).2.2.1]; exact b5 k hk
  · rw [(E 501 (by decide) (by decide) (by decide) (by decide)).2.2.1]; exact b6 k hk
  · rw [(B 37 (by decide) (by decide) (by decide)).1]; exact g5
  · rw [q3.2.1] at hi
    rw [q3.2.2.1]
    rcases g11 i hi with q | ⟨qa, qb⟩
    · exact Or.inl q
    · exact Or.inr ⟨hN.1, qa, qb⟩
  · rw [le]
    simp only [gws, List.mem_cons, List.not_mem_nil, or_false] at hr
    by_cases e : r = 3
    · rw [e, q3.2.1]; exact ⟨g9, g10⟩
    · have q := w4 r (by omega) (by omega)
      have q2 : ln (setI (setI (setI h' 0 4 0) 0 8 0) 0 5 0) r = ln h' r := rfl
      rw [q2]; exact q
  · obtain ⟨p1, p2⟩ := g8 j hj
    exact ⟨(B 2 (by decide) (by decide) (by decide)).2.2.2 _ p1, p2.gp (B _ (by omega) (by omega) (by omega))⟩
  · obtain ⟨p1, ⟨p2, p3⟩, p4, p5⟩ := gt.2.2 j hj
    have kb := kd_le H m (gpo H m j + 3)
    have d1 : bxD d H m 1 j = H (gpo H m j + 1) - 48 := by unfold bxD; rw [if_neg (by omega), if_pos rfl]
    have d2 : bxD d H m 2 j = H (gpo H m j + 2) - 48 := by unfold bxD; rw [if_neg (by omega), if_neg (by omega), if_pos rfl]
    have d3 : bxD d H m 3 j = (kd H m (gpo H m j + 3) : Nat) := by unfold bxD; rw [if_neg (by omega), if_neg (by omega), if_neg (by omega), if_pos rfl]
    rw [d1, d2, d3]
    omega
  · rw [q1.2.2.1, g4]; omega
  · rw [e0 3 (by decide) (by decide) (by decide), e0 4 (by decide) (by decide) (by decide), E0 2 (by decide) (by decide) (by decide), E0 3 (by decide) (by decide) (by decide)]
    exact ls
  · rw [e0 3 (by decide) (by decide) (by decide)] at hl
    obtain ⟨l1, l2, l3, l4⟩ := lw l hl
    have EE : ∀ r, 64 * (l + 1) ≤ r → r < 64 * (l + 1) + 64 → Gp h (setI (setI (setI h' 0 4 0) 0 8 0) 0 5 0) r := fun r h1 h2 => E r (by omega) (by omega) (by omega) (by omega)
    have lw2 := l2.gp EE
    refine ⟨(E 4 (by decide) (by decide) (by decide) (by decide)).2.2.2 _ l1, ?_, ?_, fun j hj => ⟨?_, ?_⟩⟩
    · unfold LW at lw2 ⊢
      rw [ef 4 (by decide), ef 5 (by decide), ef 6 (by decide), ef 7 (by decide)]
      exact lw2
    · unfold LB at l3 ⊢
      rw [ef 4 (by decide), ef 5 (by decide), ef 6 (by decide), ef 7 (by decide)]
      exact l3
    · have m1 := (l4 j hj).1.1
      have i6 := (EE (64 * (l + 1) + 16 + 4 * j) (by omega) (by omega)).2.2.1 2
      unfold MC
      rw [i6, q1.2.2.1, g4]
      exact ⟨by omega, fun q => absurd q (by omega)⟩
    · rw [(EE _ (by omega) (by omega)).2.1]
      exact (l4 j hj).2
  · have ir : ∀ r, (r = 5 ∨ r = 6 ∨ (8 ≤ r ∧ r ≤ 16)) → ∀ k, iv (setI (setI (setI h' 0 4 0) 0 8 0) 0 5 0) r k = iv h r k := fun r hr k => (E r (by omega) (by omega) (by omega) (by omega)).2.2.1 k
    refine ⟨⟨?_, ?_⟩, ⟨?_, ?_⟩, ⟨?_, ?_⟩, ?_, ?_, fun r hr h8 => ?_, fun k hk => ?_⟩
    · rw [iv_nk (by decide), iv_nk (by decide), iv_eq, e00 1 (by omega)]
    · rw [e00 1 (by omega)]
      have := fct_pos N
      exact ⟨Int.le_refl _, Or.inl (by omega)⟩
    · rw [iv_eq, e00 2 (by omega)]
    · rw [e00 2 (by omega)]; decide
    · rw [iv_nk (by decide), iv_eq, e00 5 (by omega)]
    · rw [e00 5 (by omega)]; decide
    · rw [ir 16 (by omega), e0 6 (by decide) (by decide) (by decide)]; exact o4
    · rw [E0 11 (by decide) (by decide) (by decide), e0 7 (by decide) (by decide) (by decide)]; exact o5
    · rw [e00 5 (by omega)] at hr; omega
    · rw [ef 10 (by decide), ef 11 (by decide), ef 12 (by decide), ir (8 + k) (by omega), ir (8 + k) (by omega), ir (8 + k) (by omega)]
      obtain ⟨c1, c2, c3, c4, c5, c6⟩ := o7 k hk
      refine ⟨c1, c2, c3, c4, c5, fun i hi => ?_⟩
      rw [ir (12 + k) (by omega)]
      exact c6 i hi
  · exact ((g12.tr w6).tr ((Gr.setI1 (S := X4) 4 _ rfl).tr (Gr.setI1 (S := X4) 8 _ rfl))).tr (Gr.setI1 (S := X4) 5 _ rfl)
  · rw [e0 3 (by decide) (by decide) (by decide)] at h1
    obtain ⟨z1, z2⟩ := z l h1 h2 r h3 h4
    have q := E r (by omega) (by omega) (by omega) (by omega)
    exact ⟨q.1.trans z1, q.2.1.trans z2⟩
  · omega
  · rw [q1.2.2.1, g4]; omega
noncomputable def boxR (d : Nat → Nat → Int) (k i m : Int) : Int := bxg (celH d k i) m.toNat 7 0 0
noncomputable def boxV (d : Nat → Nat → Int) (k s i m : Int) : Int := if refV d k s i m ≠ 0 then refV d k s i m else if boxR (up d 0 7 0) k i m ≠ -1 then -100 - boxR (up d 0 7 0) k i m else (cgr (celH (up d 0 7 0) k i) m.toNat 7 0 : Nat)
noncomputable def boxN (n : Nat) (d : Nat → Nat → Int) (k s i m : Int) : Nat := if refV d k s i m ≠ 0 then n else if boxR (up d 0 7 0) k i m ≠ -1 then n else cgr (celH (up d 0 7 0) k i) m.toNat 7 0
noncomputable def boxD (d : Nat → Nat → Int) (k s i m : Int) : Nat → Nat → Int := if refV d k s i m ≠ 0 then up d 0 7 (refF (refV d k s i m)) else if boxR (up d 0 7 0) k i m ≠ -1 then up d 0 7 0 else bxD (up d 0 7 0) (celH (up d 0 7 0) k i) m.toNat
theorem bxg_bd {H : Nat → Int} {m : Nat} : ∀ (k g p : Nat), p ≤ m → bxg H m k g p = -1 ∨ (0 ≤ bxg H m k g p ∧ bxg H m k g p ≤ (m : Nat))
  | 0, g, p, hp => by rw [bxg]; omega
  | k + 1, g, p, hp => by
    rw [bxg]
    by_cases c1 : p < m ∧ H p = 103
    · rw [if_neg (fun z => z c1)]
      by_cases c2 : p + 1 < m ∧ 49 ≤ H (p + 1) ∧ H (p + 1) ≤ 57
      · rw [if_neg (fun z => z c2)]
        by_cases c3 : p + 2 < m ∧ 49 ≤ H (p + 2) ∧ H (p + 2) ≤ 57
        · rw [if_neg (fun z => z c3)]
          have hle : p + 3 + kd H m (p + 3) ≤ m := by
            unfold kd
            split
            · split <;> omega
            · omega
          by_cases c4 : m ≤ p + 3 + kd H m (p + 3) ∧ 1 ≤ g
          · rw [if_pos c4]; exact Or.inl rfl
          · rw [if_neg c4]
            by_cases c5 : k = 0 ∨ ¬ (p + 3 + kd H m (p + 3) < m ∧ H (p + 3 + kd H m (p + 3)) = 59)
            · rw [if_pos c5]; omega
            · rw [if_neg c5]
              have c6 : p + 3 + kd H m (p + 3) < m := by
                apply Classical.byContradiction
                intro z
                exact c5 (Or.inr fun z2 => z z2.1)
              exact bxg_bd k (g + 1) _ (by omega)
        · rw [if_pos c3]; omega
      · rw [if_pos c2]; omega
    · rw [if_pos c1]; omega
theorem s_box (x : RX n d h) (z : TZ d h) (hb9 : iv h 1 3 < 900000) {k s i m : Int} (hk : rng k) (hs : rng s) (hi : rng i) (hm : rng m) (kk : ∀ h', KL (boxN n d k s i m) (boxD d k s i m) h h' → P (.int (I (boxV d k s i m))) h') : R 7 0 [.ref 0, .int (I k), .int (I s), .int (I i), .int (I m), .retAddr 0, .retAddr 0, .retAddr 0] [] h P := by
  refine t_X_box x.S (s_refusal x hk hs hi hm fun h1 k1 => ?_)
  have bd := refV_bd d k s i m
  unfold boxV boxN boxD at kk
  have zz := k1.tz z (up_ne (by omega))
  by_cases c : refV d k s i m = 0
  · obtain ⟨q1, q2, q3, q4, q5, q6, q7⟩ := refV_ok c
    have nc : ¬ refV d k s i m ≠ 0 := fun z => z c
    rw [if_neg nc, if_neg nc, if_neg nc] at kk
    rw [c, show refF 0 = 0 from rfl] at k1 zz
    have hk4 : k.toNat < 4 := by omega
    obtain ⟨t1, t2, t3, t4, t5⟩ := k1.1.S.sh hk4
    have dl := x.dl hk4
    rw [c]
    refine t_X_box_9 k1.1.S ?_
    rw [ch7 hk4, ch8 hk4]
    refine ⟨by decide, fun _ => ⟨by omega, by omega, t2, by omega, t1, t3, by omega, ?_⟩, fun z => absurd rfl z⟩
    have hb1 : iv h1 1 3 < 900000 := by rw [k1.2.2.2]; exact hb9
    unfold boxR at kk
    generalize up d 0 7 0 = d1 at *
    have ei : i = (i.toNat : Nat) := by omega
    have em : m = (m.toNat : Nat) := by omega
    have hv : ∀ p, p < m.toNat → iv h1 (12 + k.toNat) ((i.toNat : Int) + (p : Nat)) = celH d1 k i p ∧ rng (celH d1 k i p) := fun p hp => by
      obtain ⟨v1, v2⟩ := k1.1.cel hk4 (i := i.toNat + p) (by omega)
      rw [← Nat.add_assoc] at v1 v2
      exact ⟨v1, v2⟩
    have lf := bxg_bd (H := celH d1 k i) (m := m.toNat) 7 0 0 (by omega)
    have z1 := s_bff (P := fun v h2 => R 7 38 [.ref 0, .int (I k), .int (I s), .int (I i), .int (I m), .int (I 0), .ref (12 + k.toNat), .retAddr 0] (v :: []) h2 P) (H := celH d1 k i) (a := 12 + k.toNat) (i := i.toNat) (m := m.toNat) t4 t5 (by omega) hv (by
      refine t_X_box_38 k1.1.S ⟨by omega, fun e => ⟨okg_i rfl rfl rfl rfl ?_, ?_⟩, fun e => ?_⟩
      · simp only [ng, List.all_cons, List.all_nil, ngv, gw12 hk4, Bool.not_false, Bool.and_true]
        rfl
      · have ne : ¬ bxg (celH d1 k i) m.toNat 7 0 0 ≠ -1 := fun z => z e
        rw [if_neg ne, if_neg ne, if_neg ne] at kk
        obtain ⟨N, gt⟩ := bxg_gt (H := celH d1 k i) (m := m.toNat) 7 0 (by omega) (by show 0 ≤ _; omega) (fun j hj => absurd hj (Nat.not_lt_zero _)) e
        rw [cgr_n gt 7 0 (by omega) (by omega)] at kk
        have hN := gt.1
        have z2 := s_boxfill (P := fun _ h2 => R 7 64 [.ref 0, .int (I k), .int (I s), .int (I i), .int (I m), .int (I 0), .ref (12 + k.toNat), .int (I (bxg (celH d1 k i) m.toNat 7 0 0))] [] h2 P) k1.1 (d' := bxD d1 (celH d1 k i) m.toNat) (H := celH d1 k i) (k := k.toNat) (i := i.toNat) (m := m.toNat) (N := N) hk4 gt (by omega) hb1 hv (fun g _ => by unfold bxD; rw [if_neg (by omega), if_pos rfl]) (fun g _ => by unfold bxD; rw [if_neg (by omega), if_neg (by omega), if_pos rfl]) (fun g _ => by unfold bxD; rw [if_neg (by omega), if_neg (by omega), if_neg (by omega), if_pos rfl]) fun hb bf => by
          refine t_X_box_64 bf.2.2.2.1 ⟨okg_i rfl rfl rfl rfl ?_, ?_⟩
          · simp only [ng, List.all_cons, List.all_nil, ngv, gw12 hk4, Bool.not_false, Bool.and_true]
            rfl
          have okb : ∀ r, 20 ≤ r → r ≤ 26 → okln (ln hb r) := fun r h1' h2' => by
            rw [(bf.1 r (by omega) (by omega) (by omega)).2.1]
            refine (k1.1.1.2.2.1 r ?_).2
            have cs : r = 20 ∨ r = 21 ∨ r = 22 ∨ r = 23 ∨ r = 24 ∨ r = 25 ∨ r = 26 := by omega
            rcases cs with rfl | rfl | rfl | rfl | rfl | rfl | rfl <;> decide
          refine s_widenRows hN bf.2.2.2.1 bf.2.2.1.2 bf.2.1.2.1 okb fun h' w1 w2 w3 w4 w5 w6 => t_X_box_68 w3 ?_
          rw [iv_ne (by decide), iv_ne (by decide), iv_ne (by decide), (w1 1 (by decide) (by decide)).2.2.1, bf.2.1.1]
          exact kk _ (KL.trX k1 (k1.1.newbox zz gt hb1 bf w1 w2 w3 w4 w5 w6))
        rw [← ei, ← em] at z2
        exact z2
      · rw [if_pos e, if_pos e, if_pos e] at kk
        exact kk h1 (KL.trX k1 ((KX.rf k1.1).l zz rfl)))
    rw [← ei, ← em] at z1
    exact z1
  · rw [if_pos c, if_pos c, if_pos c] at kk
    exact t_X_box_9 k1.1.S ⟨by omega, fun z => absurd z c, fun _ => kk h1 (k1.l z (up_ne (by omega)))⟩
end BOXC
