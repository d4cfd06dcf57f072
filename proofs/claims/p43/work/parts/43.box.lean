/-! Rows widen; the call box. -/
def WD (q w : Nat) (h h' : Hp) : Prop := (∀ r, r ≠ q → r ≠ 38 → Gp h h' r) ∧ tg h' 38 = 0 ∧ tg h' q = 20 ∧ ((ln h' q = ln h q ∧ w ≤ ln h q ∧ ∀ k, iv h' q k = iv h q k) ∨ (ln h' q = w ∧ ∀ k, iv h' q k = 0)) ∧ CoN h h' ∧ Gr X4 h h'
section WIDEN
variable {P : Value → Hp → Prop} {h : Hp}
theorem wd_keep {q r k w : Nat} (t38 : tg h 38 = 0) (tq : tg h q = 20) (hle : w ≤ ln h q) (hr : r < 400) : WD q w h (setF h r k) :=
  ⟨fun x _ _ => Gp.setF _ _ _ _, t38, tq, Or.inl ⟨rfl, hle, fun _ => rfl⟩, ⟨Nat.le_refl _, Nat.le_refl _, Nat.le_refl _, Nat.le_refl _⟩, Gr.setF1 (S := X4) k (by unfold X4; exact Nat.blt_eq.mpr hr)⟩
theorem wd_new {q r k n : Nat} (hn : 2 ≤ n ∧ n ≤ 7) (t38 : tg h 38 = 0) (tq : tg h q = 20) (hlt : ln h q < fct n) (ok : okln (ln h q)) (hq : q ∈ [3, 20, 21, 22, 23, 24, 25, 26, 83, 87, 91, 147, 151, 155, 211, 215, 219, 275, 279, 283]) (hr : r < 38) : WD q (fct n) h (mov (mk h 38 20 (fct n) (fct n)) r k q 38) := by
  have hq38 : q ≠ 38 := by
    intro e
    subst e
    exact absurd hq (by decide)
  have hq4 : q < 400 := by
    simp only [List.mem_cons, List.not_mem_nil, or_false] at hq
    omega
  have A : ∀ x, x ≠ q → x ≠ 38 → Gp h (mov (mk h 38 20 (fct n) (fct n)) r k q 38) x := fun x h1 h2 => (Gp.mk 20 _ _ h2).tr (Gp.mov h1 h2)
  refine ⟨A, ?_, ?_, Or.inr ⟨?_, fun z => ?_⟩, CoN.wide hq (fun x h1 h2 => (A x h1 h2).2.1) ?_ (fct_dbl hn ok hlt) (fct2 hn) rfl rfl, fun x hx => ?_⟩
  · rw [tg_mov, if_pos rfl]
  · rw [tg_mov, if_neg hq38, if_pos rfl, tg_mk, if_pos rfl]
  · rw [ln_mov, if_pos rfl, ln_mk, if_pos rfl]
  · rw [iv_mov, if_pos rfl, iv_mk, if_pos rfl]
  · rw [ln_mov, if_pos rfl, ln_mk, if_pos rfl]
  · have h4 := X4_lt hx
    have q1 := A x (by omega) (by omega)
    refine ⟨q1.1, q1.2.1, q1.2.2.1, fun z => ?_⟩
    rw [fl_mov, if_neg (by omega), if_neg (by omega), fl_mk, if_neg (by omega)]
theorem WD.x {q w : Nat} {h' : Hp} (d : WD q w h h') (S : XS h) (hq : q = 3 ∨ (20 ≤ q ∧ q ≤ 26)) : XS h' := by
  have tq := d.2.2.1
  have old : tg h q = 20 := by
    have e : q = 3 ∨ q = 20 ∨ q = 21 ∨ q = 22 ∨ q = 23 ∨ q = 24 ∨ q = 25 ∨ q = 26 := by omega
    rcases e with rfl | rfl | rfl | rfl | rfl | rfl | rfl | rfl
    · exact S.t3
    · exact S.t20
    · exact S.t21
    · exact S.t22
    · exact S.t23
    · exact S.t24
    · exact S.t25
    · exact S.t26
  refine ⟨fun x hx => ?_, fun x hx => ?_, fun x hx => ?_⟩
  · have h2 := S.1 x hx
    have hr : x.1 ≤ 26 ∨ x.1 = 500 ∨ x.1 = 501 := (by decide : ∀ q ∈ ([(0, 12), (1, 1), (2, 21), (3, 20), (4, 22), (5, 20), (6, 20), (7, 23), (8, 10), (9, 10), (10, 10), (11, 10), (12, 20), (13, 20), (14, 20), (15, 20), (16, 11), (17, 8), (18, 20), (19, 9), (20, 20), (21, 20), (22, 20), (23, 20), (24, 20), (25, 20), (26, 20), (500, 30), (501, 30)] : List (Nat × Nat)), q.1 ≤ 26 ∨ q.1 = 500 ∨ q.1 = 501) x hx
    by_cases e : x.1 = q
    · rw [e] at h2 ⊢
      rw [tq, ← h2, old]
    · rw [(d.1 x.1 e (by omega)).1]; exact h2
  · have h2 := S.2.1 x hx
    have hr : x.1 ≤ 2 ∨ (4 ≤ x.1 ∧ x.1 ≤ 19) := (by decide : ∀ q ∈ ([(0, 0), (0, 1), (0, 6), (0, 7), (0, 9), (0, 10), (0, 12), (0, 13), (0, 14), (0, 15), (0, 16), (1, 0), (1, 4), (7, 0), (7, 1), (7, 2), (7, 3), (8, 0), (9, 0), (10, 0), (11, 0), (17, 0), (19, 0), (19, 1), (19, 2), (19, 3)] : List (Nat × Nat)), q.1 ≤ 2 ∨ (4 ≤ q.1 ∧ q.1 ≤ 19)) x hx
    exact (d.1 x.1 (by omega) (by omega)).2.2.2 _ h2
  · have h2 := S.2.2 x hx
    have hr : x.1 ≠ 3 ∧ (x.1 < 20 ∨ 26 < x.1) ∧ x.1 ≠ 38 := (by decide : ∀ q ∈ ([(2, 7), (4, 4), (5, 8), (6, 8), (7, 4), (12, 60), (13, 60), (14, 60), (15, 60), (18, 64), (500, 8), (501, 6)] : List (Nat × Nat)), q.1 ≠ 3 ∧ (q.1 < 20 ∨ 26 < q.1) ∧ q.1 ≠ 38) x hx
    rw [(d.1 x.1 (by omega) (by omega)).2.1]; exact h2
theorem WD.ok {q n : Nat} {h' : Hp} (d : WD q (fct n) h h') (hn : 2 ≤ n ∧ n ≤ 7) (ok : okln (ln h q)) : fct n ≤ ln h' q ∧ okln (ln h' q) := by
  rcases d.2.2.2.1 with ⟨e1, e2, -⟩ | ⟨e1, -⟩
  · rw [e1]; exact ⟨e2, ok⟩
  · rw [e1]; exact ⟨Nat.le_refl _, Or.inr ⟨n, hn.1, hn.2, rfl⟩⟩
theorem CoN.rf (h : Hp) : CoN h h := ⟨Nat.le_refl _, Nat.le_refl _, Nat.le_refl _, Nat.le_refl _⟩
/-- rows widen, one after another: D have widened -/
def WE (n : Nat) (D : Nat → Bool) (h h' : Hp) : Prop := (∀ r, ¬ (20 ≤ r ∧ r ≤ 26) → r ≠ 38 → Gp h h' r) ∧ tg h' 38 = 0 ∧ XS h' ∧ (∀ r, 20 ≤ r → r ≤ 26 → okln (ln h' r)) ∧ (∀ r, D r = true → fct n ≤ ln h' r) ∧ CoN h h' ∧ Gr X4 h h'
theorem WE.step {n q : Nat} {D : Nat → Bool} {h1 h2 : Hp} (we : WE n D h h1) (hn : 2 ≤ n ∧ n ≤ 7) (hq : 20 ≤ q ∧ q ≤ 26) (hD : D 38 = false) (wd : WD q (fct n) h1 h2) : WE n (fun r => D r || r == q) h h2 := by
  obtain ⟨a, b, c, e, f, g, x⟩ := we
  obtain ⟨o1, o2⟩ := wd.ok hn (e q hq.1 hq.2)
  refine ⟨fun r h1 h2 => (a r h1 h2).tr (wd.1 r (by omega) h2), wd.2.1, wd.x c (Or.inr hq), fun r h1 h2 => ?_, fun r hr => ?_, g.tr wd.2.2.2.2.1, x.tr wd.2.2.2.2.2⟩
  · by_cases z : r = q
    · rw [z]; exact o2
    · rw [(wd.1 r z (by omega)).2.1]; exact e r h1 h2
  · by_cases z : r = q
    · rw [z]; exact o1
    · have hr' : (D r || r == q) = true := hr
      have z2 : (r == q) = false := by simpa using z
      rw [z2, Bool.or_false] at hr'
      have z3 : r ≠ 38 := fun y => by rw [y, hD] at hr'; cases hr'
      rw [(wd.1 r z z3).2.1]; exact f r hr'
theorem s_wd {n q r k : Nat} {D : Nat → Bool} {h1 : Hp} (we : WE n D h h1) (hn : 2 ≤ n ∧ n ≤ 7) (hq : 20 ≤ q ∧ q ≤ 26) (hD : D 38 = false) (hr : r < 38) (k1 : WE n (fun r => D r || r == q) h (setF h1 r k) → XS h1 → P (.ref q) h1) (k2 : WE n (fun r => D r || r == q) h (mov (mk h1 38 20 (fct n) (fct n)) r k q 38) → XS (mk h1 38 20 (fct n) (fct n)) → tg (mk h1 38 20 (fct n) (fct n)) 38 = 20 → P (.ref 38) (mk h1 38 20 (fct n) (fct n))) : R 23 0 [.ref q, .int (I (fct n : Nat))] [] h1 P := by
  obtain ⟨a, b, S1, e, f, g, x⟩ := id we
  have f5 := fct_le hn.2
  have o1 := e q hq.1 hq.2
  have cs : q = 20 ∨ q = 21 ∨ q = 22 ∨ q = 23 ∨ q = 24 ∨ q = 25 ∨ q = 26 := by omega
  have tq : tg h1 q = 20 := by
    rcases cs with rfl | rfl | rfl | rfl | rfl | rfl | rfl
    · exact S1.t20
    · exact S1.t21
    · exact S1.t22
    · exact S1.t23
    · exact S1.t24
    · exact S1.t25
    · exact S1.t26
  have hq2 : q ∈ [3, 20, 21, 22, 23, 24, 25, 26, 83, 87, 91, 147, 151, 155, 211, 215, 219, 275, 279, 283] := by
    rcases cs with rfl | rfl | rfl | rfl | rfl | rfl | rfl <;> decide
  have xm : XS (mk h1 38 20 (fct n) (fct n)) := S1.gp fun y hy => by
    have q := Gp.mk (h := h1) (q := 38) (r := y) 20 (fct n) (fct n) (by omega)
    exact ⟨q.1, q.2.2.2, fun _ => q.2.1⟩
  exact s_wide tq b o1.le f5 (fun hle => k1 (we.step hn hq hD (wd_keep b tq hle (by omega))) S1) (fun hlt => k2 (we.step hn hq hD (wd_new hn b tq hlt o1 hq2 hr)) xm (by rw [tg_mk, if_pos rfl]))
theorem gd_b {b : Bool} (h : b = true) : b = true := h
theorem s_searchWiden {n : Nat} {D : Nat → Bool} {h1 : Hp} (we : WE n D h h1) (hn : 2 ≤ n ∧ n ≤ 7) (hD : D 38 = false) (kk : ∀ h', WE n (fun r => (((D r || r == 20) || r == 21) || r == 22) || r == 23) h h' → P .null h') : R 26 0 [.ref 19, .int (I (fct n : Nat))] [] h1 P := by
  have gq : ∀ (q : Nat) (x : Hp), tg x 38 = 20 → gw q = true → decide (q < 37 ∨ 38 < q) = true → (mv 26 && gw q && !gw 19 && decide (q < 37 ∨ 38 < q) && tg x 38 == 20 && ng [.ref 19, .int (I (fct n : Nat))] && ng []) = true := fun q x h1 h2 h3 => by
    rw [h1, h2, h3]
    rfl
  refine t_Search_widen we.2.2.1 (s_wd (q := 20) (r := 19) (k := 0) we hn (by decide) hD (by decide) (fun w1 S1 => ?_) (fun w1 S1 t1 => ?_))
  all_goals
    have D1 : (fun r => D r || r == 20) 38 = false := by show (_ || _) = false; rw [hD]; rfl
    have nx : ∀ h2, WE n (fun r => D r || r == 20) h h2 → R 23 0 [.ref 21, .int (I (fct n : Nat))] [] h2 (fun v h3 => R 26 21 [.ref 19, .int (I (fct n : Nat))] (v :: [.ref 19]) h3 P) := by
      intro h2 w2
      refine s_wd (q := 21) (r := 19) (k := 1) w2 hn (by decide) D1 (by decide) (fun w3 S3 => ?_) (fun w3 S3 t3 => ?_)
      all_goals
        have D2 : (fun r => (D r || r == 20) || r == 21) 38 = false := by show ((_ || _) || _) = false; rw [hD]; rfl
        have nx2 : ∀ h4, WE n (fun r => (D r || r == 20) || r == 21) h h4 → R 23 0 [.ref 22, .int (I (fct n : Nat))] [] h4 (fun v h3 => R 26 33 [.ref 19, .int (I (fct n : Nat))] (v :: [.ref 19]) h3 P) := by
          intro h4 w4
          refine s_wd (q := 22) (r := 19) (k := 2) w4 hn (by decide) D2 (by decide) (fun w5 S5 => ?_) (fun w5 S5 t5 => ?_)
          all_goals
            have D3 : (fun r => ((D r || r == 20) || r == 21) || r == 22) 38 = false := by show (((_ || _) || _) || _) = false; rw [hD]; rfl
            have nx3 : ∀ h6, WE n (fun r => ((D r || r == 20) || r == 21) || r == 22) h h6 → R 23 0 [.ref 23, .int (I (fct n : Nat))] [] h6 (fun v h3 => R 26 45 [.ref 19, .int (I (fct n : Nat))] (v :: [.ref 19]) h3 P) := by
              intro h6 w6
              refine s_wd (q := 23) (r := 19) (k := 3) w6 hn (by decide) D3 (by decide) (fun w7 S7 => ?_) (fun w7 S7 t7 => ?_)
              · exact t_Search_widen_45 S7 ⟨Or.inl rfl, fun _ => kk _ w7, fun e => absurd e (by decide)⟩
              · exact t_Search_widen_45 S7 ⟨Or.inr rfl, fun e => absurd e (by decide), fun _ => ⟨gq 23 _ t7 rfl rfl, by decide, kk _ w7⟩⟩
            first
              | exact t_Search_widen_33 S5 ⟨Or.inl rfl, fun _ => ⟨w5.2.2.1.f19_3, nx3 _ w5⟩, fun e => absurd e (by decide)⟩
              | exact t_Search_widen_33 S5 ⟨Or.inr rfl, fun e => absurd e (by decide), fun _ => ⟨gq 22 _ t5 rfl rfl, by decide, w5.2.2.1.t19, w5.2.2.1.f19_3, by rw [w5.2.2.1.t23]; decide, nx3 _ w5⟩⟩
        first
          | exact t_Search_widen_21 S3 ⟨Or.inl rfl, fun _ => ⟨w3.2.2.1.f19_2, nx2 _ w3⟩, fun e => absurd e (by decide)⟩
          | exact t_Search_widen_21 S3 ⟨Or.inr rfl, fun e => absurd e (by decide), fun _ => ⟨gq 21 _ t3 rfl rfl, by decide, w3.2.2.1.t19, w3.2.2.1.f19_2, by rw [w3.2.2.1.t22]; decide, nx2 _ w3⟩⟩
    first
      | exact t_Search_widen_9 S1 ⟨Or.inl rfl, fun _ => ⟨w1.2.2.1.f19_1, nx _ w1⟩, fun e => absurd e (by decide)⟩
      | exact t_Search_widen_9 S1 ⟨Or.inr rfl, fun e => absurd e (by decide), fun _ => ⟨gq 20 _ t1 rfl rfl, by decide, w1.2.2.1.t19, w1.2.2.1.f19_1, by rw [w1.2.2.1.t21]; decide, nx _ w1⟩⟩
theorem WE.i {n : Nat} {D : Nat → Bool} {h' : Hp} (we : WE n D h h') (e : iv h 1 2 = (fct n : Nat)) : iv h' 1 2 = (fct n : Nat) := ((we.1 1 (by omega) (by decide)).2.2.1 2).trans e
theorem s_widenRows {n : Nat} (hn : 2 ≤ n ∧ n ≤ 7) (S : XS h) (t38 : tg h 38 = 0) (e : iv h 1 2 = (fct n : Nat)) (ok : ∀ r, 20 ≤ r → r ≤ 26 → okln (ln h r)) (kk : ∀ h', (∀ r, ¬ (20 ≤ r ∧ r ≤ 26) → r ≠ 38 → Gp h h' r) → tg h' 38 = 0 → XS h' → (∀ r, 20 ≤ r → r ≤ 26 → fct n ≤ ln h' r ∧ okln (ln h' r)) → CoN h h' → Gr X4 h h' → P .null h') : R 25 0 [.ref 0] [] h P := by
  have w0 : WE n (fun _ => false) h h := ⟨fun r _ _ => Gp.rf _ _, t38, S, ok, fun r hr => (by cases hr), CoN.rf _, Gr.rf _ _⟩
  have gq : ∀ (q : Nat) (x : Hp), tg x 38 = 20 → gw q = true → decide (q < 37 ∨ 38 < q) = true → (mv 25 && gw q && !gw 0 && decide (q < 37 ∨ 38 < q) && tg x 38 == 20 && ng [.ref 0] && ng []) = true := fun q x h1 h2 h3 => by
    rw [h1, h2, h3]
    rfl
  have last : ∀ h2, WE n (fun r => ((false || r == 24) || r == 25) || r == 26) h h2 → R 26 0 [.ref 19, .int (I (fct n : Nat))] [] h2 (fun _ h3 => R 25 68 [.ref 0] [] h3 P) := by
    intro h2 w2
    refine s_searchWiden w2 hn rfl fun h3 w3 => t_X_widenRows_68 w3.2.2.1 (kk h3 w3.1 w3.2.1 w3.2.2.1 (fun r h20 h26 => ⟨w3.2.2.2.2.1 r ?_, w3.2.2.2.1 r h20 h26⟩) w3.2.2.2.2.2.1 w3.2.2.2.2.2.2)
    have cs : r = 20 ∨ r = 21 ∨ r = 22 ∨ r = 23 ∨ r = 24 ∨ r = 25 ∨ r = 26 := by omega
    rcases cs with rfl | rfl | rfl | rfl | rfl | rfl | rfl <;> rfl
  have nx2 : ∀ h2, WE n (fun r => (false || r == 24) || r == 25) h h2 → R 23 0 [.ref 26, .int (I (fct n : Nat))] [] h2 (fun v h3 => R 25 51 [.ref 0] (v :: [.ref 0]) h3 P) := by
    intro h2 w2
    refine s_wd (q := 26) (r := 0) (k := 16) w2 hn (by decide) rfl (by decide) (fun w3 S3 => ?_) (fun w3 S3 t3 => ?_)
    · refine t_X_widenRows_51 S3 ⟨Or.inl rfl, fun _ => ⟨w3.2.2.1.f0_13, w3.2.2.1.f0_0, ?_⟩, fun e => absurd e (by decide)⟩
      rw [w3.i e]
      exact last _ w3
    · refine t_X_widenRows_51 S3 ⟨Or.inr rfl, fun e => absurd e (by decide), fun _ => ⟨gq 26 _ t3 rfl rfl, by decide, w3.2.2.1.t0, w3.2.2.1.f0_13, by rw [w3.2.2.1.t19]; decide, w3.2.2.1.t0, w3.2.2.1.f0_0, by rw [w3.2.2.1.t1]; decide, w3.2.2.1.t1, w3.2.2.1.t19, ?_⟩⟩
      rw [w3.i e]
      exact last _ w3
  have nx1 : ∀ h2, WE n (fun r => false || r == 24) h h2 → R 23 0 [.ref 25, .int (I (fct n : Nat))] [] h2 (fun v h3 => R 25 33 [.ref 0] (v :: [.ref 0]) h3 P) := by
    intro h2 w2
    refine s_wd (q := 25) (r := 0) (k := 15) w2 hn (by decide) rfl (by decide) (fun w3 S3 => ?_) (fun w3 S3 t3 => ?_)
    · refine t_X_widenRows_33 S3 ⟨Or.inl rfl, fun _ => ⟨w3.2.2.1.f0_16, w3.2.2.1.f0_0, ?_⟩, fun e => absurd e (by decide)⟩
      rw [w3.i e]
      exact nx2 _ w3
    · refine t_X_widenRows_33 S3 ⟨Or.inr rfl, fun e => absurd e (by decide), fun _ => ⟨gq 25 _ t3 rfl rfl, by decide, w3.2.2.1.t0, w3.2.2.1.f0_16, by rw [w3.2.2.1.t26]; decide, w3.2.2.1.t0, w3.2.2.1.f0_0, by rw [w3.2.2.1.t1]; decide, w3.2.2.1.t1, ?_⟩⟩
      rw [w3.i e]
      exact nx2 _ w3
  refine t_X_widenRows S ?_
  rw [e]
  refine s_wd (q := 24) (r := 0) (k := 14) w0 hn (by decide) rfl (by decide) (fun w3 S3 => ?_) (fun w3 S3 t3 => ?_)
  · refine t_X_widenRows_15 S3 ⟨Or.inl rfl, fun _ => ⟨w3.2.2.1.f0_15, w3.2.2.1.f0_0, ?_⟩, fun e => absurd e (by decide)⟩
    rw [w3.i e]
    exact nx1 _ w3
  · refine t_X_widenRows_15 S3 ⟨Or.inr rfl, fun e => absurd e (by decide), fun _ => ⟨gq 24 _ t3 rfl rfl, by decide, w3.2.2.1.t0, w3.2.2.1.f0_15, by rw [w3.2.2.1.t25]; decide, w3.2.2.1.t0, w3.2.2.1.f0_0, by rw [w3.2.2.1.t1]; decide, w3.2.2.1.t1, ?_⟩⟩
    rw [w3.i e]
    exact nx1 _ w3
end WIDEN
