/-! The calls, one after the other: both answer alike. -/
theorem lcp_self (a : Int) : lcp a a = 0 := by
  unfold lcp lg_cmp
  rw [if_neg (fun h => Int64.lt_irrefl h), if_pos rfl]
  rfl
theorem Fr.ckc {S : Nat → Bool} {h h1 : Hp} (f : Fr S h h1) : ck h1 = ck h ∧ cu h1 = cu h := by
  obtain ⟨fn, rfl, -⟩ := f
  exact ⟨rfl, rfl⟩
def SCR (g : Int → Int) (M : Nat) (h : Hp) : Prop := tg h 502 = 30 ∧ ln h 502 = M ∧ ∀ k, iv h 502 k = g k
def LM (g : Int → Int) (M kc ku n : Nat) (d : Nat → Nat → Int) (n' : Nat) (d' : Nat → Nat → Int) (t : Nat) (h : Hp) : Prop := (RX n' d' h ∧ RY n d h ∧ TZ d' h) ∧ (ck h ≤ kc + SL h + 30 * t ∧ cu h ≤ ku + 2 * SL h + 300 * t) ∧ iv h 1 3 ≤ (t : Nat) ∧ SCR g M h
theorem band63 {a : Int} (ha : rng a) : 0 ≤ band a 63 ∧ band a 63 < 64 := by
  have h1 : ((I a).toBitVec &&& (I 63).toBitVec).toNat ≤ 63 := by
    rw [BitVec.toNat_and]
    exact Nat.le_trans Nat.and_le_right (by decide)
  have h2 : band a 63 = (((I a).toBitVec &&& (I 63).toBitVec).toNat : Int) := by
    show ((I a).toBitVec &&& (I 63).toBitVec).toInt = _
    exact BitVec.toInt_eq_toNat_of_lt (by omega)
  omega
theorem law_eq {pc : Nat} {h : Hp} {P : Value → Hp → Prop} {a3 V : Int} {a0 : Nat} (T : ∀ {h : Hp} {P : Value → Hp → Prop} {a3 s0 s1 : Int} {a0 : Nat}, (rng s1) ∧ (rng s0) ∧ ((s1 = s0 → R 208 18 [.ref a0, .ref 0, .ref 400, .int (I (a3 + 7))] [] h P) ∧ (¬ s1 = s0 → P (.int (I 0)) h)) → R 208 pc [.ref a0, .ref 0, .ref 400, .int (I a3)] [.int (I s0), .int (I s1)] h P) (k : R 208 18 [.ref a0, .ref 0, .ref 400, .int (I (a3 + 7))] [] h P) : R 208 pc [.ref a0, .ref 0, .ref 400, .int (I a3)] [.int (I V), .int (I V)] h P := by
  rw [← I_wr V]
  exact T ⟨wr_rng _, wr_rng _, fun _ => k, fun q => absurd rfl q⟩
section LAWS
variable {g : Int → Int} {M kc ku n n' t : Nat} {d d' : Nat → Nat → Int} {h h1 : Hp}
theorem LM.x (a : LM g M kc ku n d n d t h) (k : KL n' d' h h1) : LM g M kc ku n d n' d' (t + 1) h1 := by
  obtain ⟨⟨a1, a2, a3⟩, ⟨a4, a5⟩, a6, a7, a8, a9⟩ := a
  obtain ⟨k1, k2, k3, ⟨k4, k5⟩, k6⟩ := k
  have q := k2 502 rfl
  refine ⟨⟨k1, a2.gx k2, k3⟩, ⟨by omega, by omega⟩, by omega, q.1.trans a7, q.2.1.trans a8, fun z => (q.2.2.1 z).trans (a9 z)⟩
theorem LM.y (a : LM g M kc ku n d n' d' t h) (k : KY n' d' h h1) : LM g M kc ku n' d' n' d' t h1 := by
  obtain ⟨⟨a1, a2, a3⟩, ⟨a4, a5⟩, a6, a7, a8, a9⟩ := a
  obtain ⟨k1, k2⟩ := k
  have q := k2.g 502 rfl
  have c := k2.ckc
  have s := SL.gy k2.g
  refine ⟨⟨a1.gy k2.g, k1, a3.gy k2.g⟩, ⟨by omega, by omega⟩, ?_, q.1.trans a7, q.2.1.trans a8, fun z => (q.2.2.1 z).trans (a9 z)⟩
  rw [k2.i rfl]; exact a6
theorem LM.rx (a : LM g M kc ku n d n' d' t h) : RX n' d' h := a.1.1
theorem LM.ry (a : LM g M kc ku n d n' d' t h) : RY n d h := a.1.2.1
theorem LM.tz (a : LM g M kc ku n d n' d' t h) : TZ d' h := a.1.2.2
theorem LM.ta (a : LM g M kc ku n d n' d' t h) : tg h 502 = 20 ∨ tg h 502 = 30 := Or.inr a.2.2.2.1
theorem LM.ln (a : LM g M kc ku n d n' d' t h) : ln h 502 = M := a.2.2.2.2.1
theorem LM.sc (a : LM g M kc ku n d n' d' t h) (k : Int) : iv h 502 k = g k := a.2.2.2.2.2 k
theorem e_lay (n : Nat) (d : Nat → Nat → Int) (l : Int) : layD n d l 0 3 = d 0 3 := by
  unfold layD; split <;> rfl
theorem e_use (d : Nat → Nat → Int) (l : Int) : useD d l 0 3 = d 0 3 := by
  unfold useD; split <;> rfl
theorem e_turn (n : Nat) (d : Nat → Nat → Int) : turnD n d 0 3 = d 0 3 := by
  unfold turnD; split <;> rfl
theorem e_spoon (n : Nat) (d : Nat → Nat → Int) : spoonD n d 0 3 = d 0 3 := by
  unfold spoonD; split <;> rfl
theorem e_back (d : Nat → Nat → Int) (l : Int) : backD d l 0 3 = d 0 3 := by
  unfold backD; split <;> rfl
theorem e_tell (n : Nat) (d : Nat → Nat → Int) (l : Int) : tellE n d l 0 3 = d 0 3 := by
  unfold tellE tellD; repeat' split
  all_goals rfl
theorem e_sift (n : Nat) (d : Nat → Nat → Int) (l : Int) : siftD n d l 0 3 = d 0 3 := by
  unfold siftD; split <;> rfl
theorem e_as (n : Nat) (d : Nat → Nat → Int) (a s : Int) : asD n d a s 0 3 = d 0 3 := by
  unfold asD; repeat' split
  all_goals rfl
theorem e_read (n : Nat) (d : Nat → Nat → Int) (a s : Int) : readD n d a s 0 3 = d 0 3 := by
  unfold readD; repeat' split
  all_goals rfl
theorem e_shake (n : Nat) (d : Nat → Nat → Int) (a s : Int) : shakeD n d a s 0 3 = d 0 3 := by
  unfold shakeD; repeat' split
  all_goals rfl
theorem e_do (n : Nat) (d : Nat → Nat → Int) (k s i m : Int) : doD n d k s i m 0 3 = d 0 3 := by
  unfold doD doE; repeat' split
  all_goals rfl
theorem e_wh (n : Nat) (d : Nat → Nat → Int) (a b k s i m : Int) : whD n d a b k s i m 0 3 = d 0 3 := by
  unfold whD; split <;> rfl
theorem e_sheet (d : Nat → Nat → Int) (k s m : Int) : sheetD d k s m 0 3 = d 0 3 := by
  unfold sheetD; repeat' split
  all_goals rfl
theorem e_lose (d : Nat → Nat → Int) (k : Int) : loseD d k 0 3 = d 0 3 := by
  unfold loseD; split <;> rfl
theorem e_put (d : Nat → Nat → Int) (k i v : Int) : putD d k i v 0 3 = d 0 3 := by
  unfold putD; repeat' split
  all_goals rfl
theorem e_copy (d : Nat → Nat → Int) (k i o j m : Int) : copyD d k i o j m 0 3 = d 0 3 := by
  unfold copyD; repeat' split
  all_goals rfl
theorem law_loop {P : Value → Hp → Prop} (G : ∀ k, rng (g k)) (hM : M ≤ 3584) (kk : ∀ (t n : Nat) (d : Nat → Nat → Int) (h : Hp), 7 * t ≤ M + 7 → LM g M kc ku n d n d t h → P (.int (I 1)) h) : ∀ (r t n : Nat) (d : Nat → Nat → Int) (h : Hp), M < 7 * t + r → 7 * t ≤ M + 7 → LM g M kc ku n d n d t h → R 208 18 [.ref 502, .ref 0, .ref 400, .int (I (7 * (t : Int)))] [] h P := by
  intro r
  induction r with
  | zero =>
    intro t n d h hr ht a
    refine t_L_law_18 ?_
    rw [a.ln]
    exact ⟨Or.inr a.2.2.2.1, by omega, by omega, fun _ => kk t n d h ht a, fun q => absurd (by omega) q⟩
  | succ r ih =>
    intro t n d h hr ht a
    refine t_L_law_18 ?_
    rw [a.ln]
    refine ⟨Or.inr a.2.2.2.1, by omega, by omega, fun _ => kk t n d h ht a, fun q => ?_⟩
    have go : ∀ (n' : Nat) (d' : Nat → Nat → Int) (h' : Hp), LM g M kc ku n' d' n' d' (t + 1) h' → R 208 18 [.ref 502, .ref 0, .ref 400, .int (I (7 * (t : Int) + 7))] [] h' P := fun n' d' h' a' => by
      rw [show 7 * (t : Int) + 7 = 7 * ((t + 1 : Nat) : Int) by omega]
      exact ih (t + 1) n' d' h' (by omega) (by omega) a'
    have hb9 : iv h 1 3 < 900000 := by have := a.2.2.1; omega
    have lM : ((M : Nat) : Int) ≤ 2147483648 := by omega
    have b0 : (0 : Int) ≤ 7 * (t : Int) := by omega
    have w0 : 7 * (t : Int) < (M : Nat) := by omega
    have b1 : 0 ≤ 7 * (t : Int) + 1 := by omega
    have w1 : 7 * (t : Int) + 1 < (M : Nat) := by omega
    have b2 : 0 ≤ 7 * (t : Int) + 2 := by omega
    have w2 : 7 * (t : Int) + 2 < (M : Nat) := by omega
    have b3 : 0 ≤ 7 * (t : Int) + 3 := by omega
    have w3 : 7 * (t : Int) + 3 < (M : Nat) := by omega
    have b4 : 0 ≤ 7 * (t : Int) + 4 := by omega
    have w4 : 7 * (t : Int) + 4 < (M : Nat) := by omega
    have b5 : 0 ≤ 7 * (t : Int) + 5 := by omega
    have w5 : 7 * (t : Int) + 5 < (M : Nat) := by omega
    have b6 : 0 ≤ 7 * (t : Int) + 6 := by omega
    have w6 : 7 * (t : Int) + 6 < (M : Nat) := by omega
    rw [a.sc (7 * (t : Int)), a.sc (7 * (t : Int) + 1), a.sc (7 * (t : Int) + 2), a.sc (7 * (t : Int) + 3), a.sc (7 * (t : Int) + 4), a.sc (7 * (t : Int) + 5), a.sc (7 * (t : Int) + 6)]
    have bd : 0 ≤ band (g (7 * (t : Int))) 63 ∧ band (g (7 * (t : Int))) 63 < 64 := band63 (G _)
    refine ⟨a.ta, lM, b0, w0, by omega, ⟨fun e => ?_, fun e => ?_, fun e => ?_, fun e => ?_, fun e => ?_, fun e => ?_, fun e => ?_, fun e => ?_, fun e => ?_, fun e => ?_, fun e => ?_, fun e => ?_, fun e => ?_, fun e => ?_, fun e => ?_, fun e => ?_, fun e => ?_, fun e => ?_, fun e => ?_, fun e => ?_, fun e => ?_, fun e => ?_, fun e => ?_, fun e => ?_, fun e => ?_, fun e => ?_, fun e => ?_, fun e => ?_, fun e => ?_, fun e => ?_, fun e => ?_, fun e => ?_, fun e => ?_, fun e => ?_, fun e => ?_, fun e => ?_, fun e => ?_, fun e => ?_, fun e => ?_, fun e => ?_⟩, fun e => ?_⟩
    · refine ⟨a.ta, lM, b1, w1, a.ta, lM, b2, w2, a.ta, lM, b3, w3, a.ta, lM, b4, w4, okg_i rfl rfl rfl rfl rfl, a.rx.S.t0, s_box a.rx a.tz hb9 (G _) (G _) (G _) (G _) fun h1 k1 => ?_⟩
      have m := a.x k1
      refine t_L_law_232 ?_
      rw [m.ln, m.sc (7 * (t : Int) + 1), m.sc (7 * (t : Int) + 2), m.sc (7 * (t : Int) + 3), m.sc (7 * (t : Int) + 4)]
      refine ⟨m.ta, lM, b1, w1, m.ta, lM, b2, w2, m.ta, lM, b3, w3, m.ta, lM, b4, w4, m.ry.S.t400, y_box m.ry (G _) (G _) (G _) (G _) fun h2 k2 => ?_⟩
      exact law_eq t_L_law_256 (go _ _ _ (m.y k2))
    · refine ⟨a.ta, lM, b1, w1, a.ta, lM, b2, w2, a.rx.S.t0, s_ofGrain a.rx (G _) (G _) fun h1 k1 => ?_⟩
      have m := a.x (k1.l a.tz (rfl))
      refine t_L_law_275 ?_
      rw [m.ln, m.sc (7 * (t : Int) + 1), m.sc (7 * (t : Int) + 2)]
      refine ⟨m.ta, lM, b1, w1, m.ta, lM, b2, w2, m.ry.S.t400, y_ofGrain m.ry (G _) (G _) fun h2 k2 => ?_⟩
      exact law_eq t_L_law_289 (go _ _ _ (m.y k2))
    · refine ⟨a.ta, lM, b1, w1, a.rx.S.t0, s_at a.rx (G _) fun h1 k1 => ?_⟩
      have m := a.x (k1.l a.tz (rfl))
      refine t_L_law_303 ?_
      rw [m.ln, m.sc (7 * (t : Int) + 1)]
      refine ⟨m.ta, lM, b1, w1, m.ry.S.t400, y_at m.ry (G _) fun h2 k2 => ?_⟩
      exact law_eq t_L_law_312 (go _ _ _ (m.y k2))
    · refine ⟨a.rx.S.t0, s_lie a.rx  ?_⟩
      have m := a.x ((KX.rf a.rx).l a.tz rfl)
      refine t_L_law_321 ?_
      refine ⟨m.ry.S.t400, y_lie m.ry  ?_⟩
      exact law_eq t_L_law_325 (go _ _ _ (m.y (KY.rf m.ry)))
    · refine ⟨a.ta, lM, b1, w1, a.rx.S.t0, s_lay' a.rx (G _) fun h1 k1 => ?_⟩
      have m := a.x (k1.l a.tz (e_lay _ _ _))
      refine t_L_law_339 ?_
      rw [m.ln, m.sc (7 * (t : Int) + 1)]
      refine ⟨m.ta, lM, b1, w1, m.ry.S.t400, y_lay m.ry (G _) fun h2 k2 => ?_⟩
      exact law_eq t_L_law_348 (go _ _ _ (m.y k2))
    · refine ⟨a.ta, lM, b1, w1, a.ta, lM, b2, w2, a.rx.S.t0, s_of a.rx (G _) (G _) fun h1 k1 => ?_⟩
      have m := a.x (k1.l a.tz (rfl))
      refine t_L_law_367 ?_
      rw [m.ln, m.sc (7 * (t : Int) + 1), m.sc (7 * (t : Int) + 2)]
      refine ⟨m.ta, lM, b1, w1, m.ta, lM, b2, w2, m.ry.S.t400, y_of m.ry (G _) (G _) fun h2 k2 => ?_⟩
      exact law_eq t_L_law_381 (go _ _ _ (m.y k2))
    · refine ⟨a.ta, lM, b1, w1, a.ta, lM, b2, w2, a.ta, lM, b3, w3, a.ta, lM, b4, w4, okg_i rfl rfl rfl rfl rfl, a.rx.S.t0, s_law a.rx a.tz (G _) (G _) (G _) (G _) fun h1 k1 => ?_⟩
      have m := a.x k1
      refine t_L_law_410 ?_
      rw [m.ln, m.sc (7 * (t : Int) + 1), m.sc (7 * (t : Int) + 2), m.sc (7 * (t : Int) + 3), m.sc (7 * (t : Int) + 4)]
      refine ⟨m.ta, lM, b1, w1, m.ta, lM, b2, w2, m.ta, lM, b3, w3, m.ta, lM, b4, w4, m.ry.S.t400, y_law m.ry (G _) (G _) (G _) (G _) fun h2 k2 => ?_⟩
      exact law_eq t_L_law_434 (go _ _ _ (m.y k2))
    · refine ⟨a.ta, lM, b1, w1, a.ta, lM, b2, w2, a.ta, lM, b3, w3, a.rx.S.t0, s_ofCause a.rx (G _) (G _) (G _) ?_⟩
      have m := a.x ((KX.rf a.rx).l a.tz rfl)
      refine t_L_law_458 ?_
      rw [m.ln, m.sc (7 * (t : Int) + 1), m.sc (7 * (t : Int) + 2), m.sc (7 * (t : Int) + 3)]
      refine ⟨m.ta, lM, b1, w1, m.ta, lM, b2, w2, m.ta, lM, b3, w3, m.ry.S.t400, y_ofCause m.ry (G _) (G _) (G _) ?_⟩
      exact law_eq t_L_law_477 (go _ _ _ (m.y (KY.rf m.ry)))
    · refine ⟨a.ta, lM, b1, w1, a.rx.S.t0, s_use' a.rx (G _) fun h1 k1 => ?_⟩
      have m := a.x (k1.l a.tz (e_use _ _))
      refine t_L_law_491 ?_
      rw [m.ln, m.sc (7 * (t : Int) + 1)]
      refine ⟨m.ta, lM, b1, w1, m.ry.S.t400, y_use m.ry (G _) fun h2 k2 => ?_⟩
      exact law_eq t_L_law_500 (go _ _ _ (m.y k2))
    · refine ⟨a.ta, lM, b1, w1, a.ta, lM, b2, w2, a.ta, lM, b3, w3, a.ta, lM, b4, w4, a.rx.S.t0, s_cause a.rx (G _) (G _) (G _) (G _) ?_⟩
      have m := a.x ((KX.rf a.rx).l a.tz rfl)
      refine t_L_law_529 ?_
      rw [m.ln, m.sc (7 * (t : Int) + 1), m.sc (7 * (t : Int) + 2), m.sc (7 * (t : Int) + 3), m.sc (7 * (t : Int) + 4)]
      refine ⟨m.ta, lM, b1, w1, m.ta, lM, b2, w2, m.ta, lM, b3, w3, m.ta, lM, b4, w4, m.ry.S.t400, y_cause m.ry (G _) (G _) (G _) (G _) ?_⟩
      exact law_eq t_L_law_553 (go _ _ _ (m.y (KY.rf m.ry)))
    · refine ⟨a.ta, lM, b1, w1, a.ta, lM, b2, w2, okg_i rfl rfl rfl rfl rfl, a.rx.S.t0, s_shake a.rx (G _) (G _) fun h1 k1 => ?_⟩
      have m := a.x (k1.l a.tz (e_shake _ _ _ _))
      refine t_L_law_572 ?_
      rw [m.ln, m.sc (7 * (t : Int) + 1), m.sc (7 * (t : Int) + 2)]
      refine ⟨m.ta, lM, b1, w1, m.ta, lM, b2, w2, m.ry.S.t400, y_shake m.ry (G _) (G _) fun h2 k2 => ?_⟩
      exact law_eq t_L_law_586 (go _ _ _ (m.y k2))
    · refine ⟨a.ta, lM, b1, w1, a.ta, lM, b2, w2, a.ta, lM, b3, w3, a.ta, lM, b4, w4, okg_i rfl rfl rfl rfl rfl, a.rx.S.t0, s_doing a.rx (G _) (G _) (G _) (G _) fun h1 k1 => ?_⟩
      have m := a.x (k1.l a.tz (e_do _ _ _ _ _ _))
      refine t_L_law_615 ?_
      rw [m.ln, m.sc (7 * (t : Int) + 1), m.sc (7 * (t : Int) + 2), m.sc (7 * (t : Int) + 3), m.sc (7 * (t : Int) + 4)]
      refine ⟨m.ta, lM, b1, w1, m.ta, lM, b2, w2, m.ta, lM, b3, w3, m.ta, lM, b4, w4, m.ry.S.t400, y_doing m.ry (G _) (G _) (G _) (G _) fun h2 k2 => ?_⟩
      exact law_eq t_L_law_639 (go _ _ _ (m.y k2))
    · refine ⟨a.rx.S.t0, s_turn' a.rx  fun h1 k1 => ?_⟩
      have m := a.x (k1.l a.tz (e_turn _ _))
      refine t_L_law_648 ?_
      refine ⟨m.ry.S.t400, y_turn m.ry  fun h2 k2 => ?_⟩
      exact law_eq t_L_law_652 (go _ _ _ (m.y k2))
    · refine ⟨a.rx.S.t0, s_spoon' a.rx  fun h1 k1 => ?_⟩
      have m := a.x (k1.l a.tz (e_spoon _ _))
      refine t_L_law_661 ?_
      refine ⟨m.ry.S.t400, y_spoon m.ry  fun h2 k2 => ?_⟩
      exact law_eq t_L_law_665 (go _ _ _ (m.y k2))
    · refine ⟨a.ta, lM, b1, w1, a.ta, lM, b2, w2, okg_i rfl rfl rfl rfl rfl, a.rx.S.t0, s_next a.rx (G _) (G _) fun h1 k1 => ?_⟩
      have m := a.x (k1.l a.tz (rfl))
      refine t_L_law_684 ?_
      rw [m.ln, m.sc (7 * (t : Int) + 1), m.sc (7 * (t : Int) + 2)]
      refine ⟨m.ta, lM, b1, w1, m.ta, lM, b2, w2, m.ry.S.t400, y_next m.ry (G _) (G _) fun h2 k2 => ?_⟩
      exact law_eq t_L_law_698 (go _ _ _ (m.y k2))
    · refine ⟨a.ta, lM, b1, w1, a.ta, lM, b2, w2, a.ta, lM, b3, w3, okg_i rfl rfl rfl rfl rfl, a.rx.S.t0, s_still a.rx (G _) (G _) (G _) fun h1 k1 => ?_⟩
      have m := a.x (k1.l a.tz (rfl))
      refine t_L_law_722 ?_
      rw [m.ln, m.sc (7 * (t : Int) + 1), m.sc (7 * (t : Int) + 2), m.sc (7 * (t : Int) + 3)]
      refine ⟨m.ta, lM, b1, w1, m.ta, lM, b2, w2, m.ta, lM, b3, w3, m.ry.S.t400, y_still m.ry (G _) (G _) (G _) fun h2 k2 => ?_⟩
      exact law_eq t_L_law_741 (go _ _ _ (m.y k2))
    · refine ⟨a.ta, lM, b1, w1, a.ta, lM, b2, w2, a.ta, lM, b3, w3, okg_i rfl rfl rfl rfl rfl, a.rx.S.t0, s_soon a.rx (G _) (G _) (G _) fun h1 k1 => ?_⟩
      have m := a.x (k1.l a.tz (rfl))
      refine t_L_law_765 ?_
      rw [m.ln, m.sc (7 * (t : Int) + 1), m.sc (7 * (t : Int) + 2), m.sc (7 * (t : Int) + 3)]
      refine ⟨m.ta, lM, b1, w1, m.ta, lM, b2, w2, m.ta, lM, b3, w3, m.ry.S.t400, y_soon m.ry (G _) (G _) (G _) fun h2 k2 => ?_⟩
      exact law_eq t_L_law_784 (go _ _ _ (m.y k2))
    · refine ⟨a.ta, lM, b1, w1, a.ta, lM, b2, w2, a.ta, lM, b3, w3, okg_i rfl rfl rfl rfl rfl, a.rx.S.t0, s_boss a.rx (G _) (G _) (G _) fun h1 k1 => ?_⟩
      have m := a.x (k1.l a.tz (rfl))
      refine t_L_law_808 ?_
      rw [m.ln, m.sc (7 * (t : Int) + 1), m.sc (7 * (t : Int) + 2), m.sc (7 * (t : Int) + 3)]
      refine ⟨m.ta, lM, b1, w1, m.ta, lM, b2, w2, m.ta, lM, b3, w3, m.ry.S.t400, y_boss m.ry (G _) (G _) (G _) fun h2 k2 => ?_⟩
      exact law_eq t_L_law_827 (go _ _ _ (m.y k2))
    · refine ⟨a.ta, lM, b1, w1, a.ta, lM, b2, w2, a.rx.S.t0, s_mix a.rx (G _) (G _) fun h1 k1 => ?_⟩
      have m := a.x (k1.l a.tz (rfl))
      refine t_L_law_846 ?_
      rw [m.ln, m.sc (7 * (t : Int) + 1), m.sc (7 * (t : Int) + 2)]
      refine ⟨m.ta, lM, b1, w1, m.ta, lM, b2, w2, m.ry.S.t400, y_mix m.ry (G _) (G _) fun h2 k2 => ?_⟩
      exact law_eq t_L_law_860 (go _ _ _ (m.y k2))
    · refine ⟨a.ta, lM, b1, w1, a.ta, lM, b2, w2, a.ta, lM, b3, w3, okg_i rfl rfl rfl rfl rfl, a.rx.S.t0, s_plan a.rx (G _) (G _) (G _) fun h1 k1 => ?_⟩
      have m := a.x (k1.l a.tz (rfl))
      refine t_L_law_884 ?_
      rw [m.ln, m.sc (7 * (t : Int) + 1), m.sc (7 * (t : Int) + 2), m.sc (7 * (t : Int) + 3)]
      refine ⟨m.ta, lM, b1, w1, m.ta, lM, b2, w2, m.ta, lM, b3, w3, m.ry.S.t400, y_plan m.ry (G _) (G _) (G _) fun h2 k2 => ?_⟩
      exact law_eq t_L_law_903 (go _ _ _ (m.y k2))
    · refine ⟨a.ta, lM, b1, w1, a.ta, lM, b2, w2, a.ta, lM, b3, w3, okg_i rfl rfl rfl rfl rfl, a.rx.S.t0, s_way a.rx (G _) (G _) (G _) fun h1 k1 => ?_⟩
      have m := a.x (k1.l a.tz (rfl))
      refine t_L_law_927 ?_
      rw [m.ln, m.sc (7 * (t : Int) + 1), m.sc (7 * (t : Int) + 2), m.sc (7 * (t : Int) + 3)]
      refine ⟨m.ta, lM, b1, w1, m.ta, lM, b2, w2, m.ta, lM, b3, w3, m.ry.S.t400, y_way m.ry (G _) (G _) (G _) fun h2 k2 => ?_⟩
      exact law_eq t_L_law_946 (go _ _ _ (m.y k2))
    · refine ⟨a.ta, lM, b1, w1, a.ta, lM, b2, w2, a.ta, lM, b3, w3, okg_i rfl rfl rfl rfl rfl, a.rx.S.t0, s_come a.rx (G _) (G _) (G _) fun h1 k1 => ?_⟩
      have m := a.x (k1.l a.tz (rfl))
      refine t_L_law_970 ?_
      rw [m.ln, m.sc (7 * (t : Int) + 1), m.sc (7 * (t : Int) + 2), m.sc (7 * (t : Int) + 3)]
      refine ⟨m.ta, lM, b1, w1, m.ta, lM, b2, w2, m.ta, lM, b3, w3, m.ry.S.t400, y_come m.ry (G _) (G _) (G _) fun h2 k2 => ?_⟩
      exact law_eq t_L_law_989 (go _ _ _ (m.y k2))
    · refine ⟨a.ta, lM, b1, w1, okg_i rfl rfl rfl rfl rfl, a.rx.S.t0, s_bare a.rx (G _) fun h1 k1 => ?_⟩
      have m := a.x (k1.l a.tz (rfl))
      refine t_L_law_1003 ?_
      rw [m.ln, m.sc (7 * (t : Int) + 1)]
      refine ⟨m.ta, lM, b1, w1, m.ry.S.t400, y_bare m.ry (G _) fun h2 k2 => ?_⟩
      exact law_eq t_L_law_1012 (go _ _ _ (m.y k2))
    · refine ⟨a.ta, lM, b1, w1, a.ta, lM, b2, w2, a.ta, lM, b3, w3, a.ta, lM, b4, w4, okg_i rfl rfl rfl rfl rfl, a.rx.S.t0, s_odds a.rx (G _) (G _) (G _) (G _) fun h1 k1 => ?_⟩
      have m := a.x (k1.l a.tz (rfl))
      refine t_L_law_1041 ?_
      rw [m.ln, m.sc (7 * (t : Int) + 1), m.sc (7 * (t : Int) + 2), m.sc (7 * (t : Int) + 3), m.sc (7 * (t : Int) + 4)]
      refine ⟨m.ta, lM, b1, w1, m.ta, lM, b2, w2, m.ta, lM, b3, w3, m.ta, lM, b4, w4, m.ry.S.t400, y_odds m.ry (G _) (G _) (G _) (G _) fun h2 k2 => ?_⟩
      refine t_L_law_1065 ?_
      rw [lcp_self]
      exact ⟨by decide, fun _ => go _ _ _ (m.y k2), fun q => absurd rfl q⟩
    · refine ⟨a.ta, lM, b1, w1, a.ta, lM, b2, w2, a.rx.S.t0, s_reading a.rx (G _) (G _) fun h1 k1 => ?_⟩
      have m := a.x (k1.l a.tz (e_read _ _ _ _))
      refine t_L_law_1085 ?_
      rw [m.ln, m.sc (7 * (t : Int) + 1), m.sc (7 * (t : Int) + 2)]
      refine ⟨m.ta, lM, b1, w1, m.ta, lM, b2, w2, m.ry.S.t400, y_reading m.ry (G _) (G _) fun h2 k2 => ?_⟩
      exact law_eq t_L_law_1099 (go _ _ _ (m.y k2))
    · refine ⟨a.ta, lM, b1, w1, a.rx.S.t0, s_back' a.rx (G _) fun h1 k1 => ?_⟩
      have m := a.x (k1.l a.tz (e_back _ _))
      refine t_L_law_1113 ?_
      rw [m.ln, m.sc (7 * (t : Int) + 1)]
      refine ⟨m.ta, lM, b1, w1, m.ry.S.t400, y_back m.ry (G _) fun h2 k2 => ?_⟩
      exact law_eq t_L_law_1122 (go _ _ _ (m.y k2))
    · refine ⟨a.ta, lM, b1, w1, a.ta, lM, b2, w2, okg_i rfl rfl rfl rfl rfl, a.rx.S.t0, s_fits a.rx (G _) (G _) fun h1 k1 => ?_⟩
      have m := a.x (k1.l a.tz (rfl))
      refine t_L_law_1141 ?_
      rw [m.ln, m.sc (7 * (t : Int) + 1), m.sc (7 * (t : Int) + 2)]
      refine ⟨m.ta, lM, b1, w1, m.ta, lM, b2, w2, m.ry.S.t400, y_fits m.ry (G _) (G _) fun h2 k2 => ?_⟩
      exact law_eq t_L_law_1155 (go _ _ _ (m.y k2))
    · refine ⟨a.ta, lM, b1, w1, a.ta, lM, b2, w2, a.ta, lM, b3, w3, a.ta, lM, b4, w4, a.ta, lM, b5, w5, a.ta, lM, b6, w6, okg_i rfl rfl rfl rfl rfl, a.rx.S.t0, s_which a.rx (G _) (G _) (G _) (G _) (G _) (G _) fun h1 k1 => ?_⟩
      have m := a.x (k1.l a.tz (e_wh _ _ _ _ _ _ _ _))
      refine t_L_law_1195 ?_
      rw [m.ln, m.sc (7 * (t : Int) + 1), m.sc (7 * (t : Int) + 2), m.sc (7 * (t : Int) + 3), m.sc (7 * (t : Int) + 4), m.sc (7 * (t : Int) + 5), m.sc (7 * (t : Int) + 6)]
      refine ⟨m.ta, lM, b1, w1, m.ta, lM, b2, w2, m.ta, lM, b3, w3, m.ta, lM, b4, w4, m.ta, lM, b5, w5, m.ta, lM, b6, w6, m.ry.S.t400, y_which m.ry (G _) (G _) (G _) (G _) (G _) (G _) fun h2 k2 => ?_⟩
      exact law_eq t_L_law_1230 (go _ _ _ (m.y k2))
    · refine ⟨a.ta, lM, b1, w1, a.ta, lM, b2, w2, okg_i rfl rfl rfl rfl rfl, a.rx.S.t0, s_bears a.rx (G _) (G _) fun h1 k1 => ?_⟩
      have m := a.x (k1.l a.tz (rfl))
      refine t_L_law_1249 ?_
      rw [m.ln, m.sc (7 * (t : Int) + 1), m.sc (7 * (t : Int) + 2)]
      refine ⟨m.ta, lM, b1, w1, m.ta, lM, b2, w2, m.ry.S.t400, y_bears m.ry (G _) (G _) fun h2 k2 => ?_⟩
      exact law_eq t_L_law_1263 (go _ _ _ (m.y k2))
    · refine ⟨a.ta, lM, b1, w1, a.ta, lM, b2, w2, a.ta, lM, b3, w3, a.rx.S.t0, s_sheet a.rx (G _) (G _) (G _) fun h1 k1 => ?_⟩
      have m := a.x (k1.l a.tz (e_sheet _ _ _ _))
      refine t_L_law_1287 ?_
      rw [m.ln, m.sc (7 * (t : Int) + 1), m.sc (7 * (t : Int) + 2), m.sc (7 * (t : Int) + 3)]
      refine ⟨m.ta, lM, b1, w1, m.ta, lM, b2, w2, m.ta, lM, b3, w3, m.ry.S.t400, y_sheet m.ry (G _) (G _) (G _) fun h2 k2 => ?_⟩
      exact law_eq t_L_law_1306 (go _ _ _ (m.y k2))
    · refine ⟨a.ta, lM, b1, w1, a.rx.S.t0, s_lose a.rx (G _) fun h1 k1 => ?_⟩
      have m := a.x (k1.l a.tz (e_lose _ _))
      refine t_L_law_1320 ?_
      rw [m.ln, m.sc (7 * (t : Int) + 1)]
      refine ⟨m.ta, lM, b1, w1, m.ry.S.t400, y_lose m.ry (G _) fun h2 k2 => ?_⟩
      exact law_eq t_L_law_1329 (go _ _ _ (m.y k2))
    · refine ⟨a.ta, lM, b1, w1, a.ta, lM, b2, w2, a.ta, lM, b3, w3, a.rx.S.t0, s_put a.rx (G _) (G _) (G _) fun h1 k1 => ?_⟩
      have m := a.x (k1.l a.tz (e_put _ _ _ _))
      refine t_L_law_1353 ?_
      rw [m.ln, m.sc (7 * (t : Int) + 1), m.sc (7 * (t : Int) + 2), m.sc (7 * (t : Int) + 3)]
      refine ⟨m.ta, lM, b1, w1, m.ta, lM, b2, w2, m.ta, lM, b3, w3, m.ry.S.t400, y_put m.ry (G _) (G _) (G _) fun h2 k2 => ?_⟩
      exact law_eq t_L_law_1372 (go _ _ _ (m.y k2))
    · refine ⟨a.ta, lM, b1, w1, a.ta, lM, b2, w2, a.ta, lM, b3, w3, a.rx.S.t0, s_cell a.rx (G _) (G _) (G _) fun h1 k1 => ?_⟩
      have m := a.x (k1.l a.tz (rfl))
      refine t_L_law_1396 ?_
      rw [m.ln, m.sc (7 * (t : Int) + 1), m.sc (7 * (t : Int) + 2), m.sc (7 * (t : Int) + 3)]
      refine ⟨m.ta, lM, b1, w1, m.ta, lM, b2, w2, m.ta, lM, b3, w3, m.ry.S.t400, y_cell m.ry (G _) (G _) (G _) fun h2 k2 => ?_⟩
      refine t_L_law_1415 ?_
      rw [lcp_self]
      exact ⟨by decide, fun _ => go _ _ _ (m.y k2), fun q => absurd rfl q⟩
    · refine ⟨a.ta, lM, b1, w1, a.ta, lM, b2, w2, a.ta, lM, b3, w3, a.ta, lM, b4, w4, a.ta, lM, b5, w5, a.rx.S.t0, s_copy a.rx (G _) (G _) (G _) (G _) (G _) fun h1 k1 => ?_⟩
      have m := a.x (k1.l a.tz (e_copy _ _ _ _ _ _))
      refine t_L_law_1450 ?_
      rw [m.ln, m.sc (7 * (t : Int) + 1), m.sc (7 * (t : Int) + 2), m.sc (7 * (t : Int) + 3), m.sc (7 * (t : Int) + 4), m.sc (7 * (t : Int) + 5)]
      refine ⟨m.ta, lM, b1, w1, m.ta, lM, b2, w2, m.ta, lM, b3, w3, m.ta, lM, b4, w4, m.ta, lM, b5, w5, m.ry.S.t400, y_copy m.ry (G _) (G _) (G _) (G _) (G _) fun h2 k2 => ?_⟩
      exact law_eq t_L_law_1479 (go _ _ _ (m.y k2))
    · refine ⟨a.ta, lM, b1, w1, a.rx.S.t0, s_tell' a.rx (G _) fun h1 k1 => ?_⟩
      have m := a.x (k1.l a.tz (e_tell _ _ _))
      refine t_L_law_1493 ?_
      rw [m.ln, m.sc (7 * (t : Int) + 1)]
      refine ⟨m.ta, lM, b1, w1, m.ry.S.t400, y_tell m.ry (G _) fun h2 k2 => ?_⟩
      exact law_eq t_L_law_1502 (go _ _ _ (m.y k2))
    · refine ⟨a.ta, lM, b1, w1, a.rx.S.t0, s_sift' a.rx (G _) fun h1 k1 => ?_⟩
      have m := a.x (k1.l a.tz (e_sift _ _ _))
      refine t_L_law_1516 ?_
      rw [m.ln, m.sc (7 * (t : Int) + 1)]
      refine ⟨m.ta, lM, b1, w1, m.ry.S.t400, y_sift m.ry (G _) fun h2 k2 => ?_⟩
      exact law_eq t_L_law_1525 (go _ _ _ (m.y k2))
    · refine ⟨a.ta, lM, b1, w1, a.ta, lM, b2, w2, a.rx.S.t0, s_as' a.rx (G _) (G _) fun h1 k1 => ?_⟩
      have m := a.x (k1.l a.tz (e_as _ _ _ _))
      refine t_L_law_1544 ?_
      rw [m.ln, m.sc (7 * (t : Int) + 1), m.sc (7 * (t : Int) + 2)]
      refine ⟨m.ta, lM, b1, w1, m.ta, lM, b2, w2, m.ry.S.t400, y_as m.ry (G _) (G _) fun h2 k2 => ?_⟩
      exact law_eq t_L_law_1558 (go _ _ _ (m.y k2))
    · refine ⟨a.rx.S.t0, s_trace a.rx  ?_⟩
      have m := a.x ((KX.rf a.rx).l a.tz rfl)
      refine t_L_law_1567 ?_
      refine ⟨m.ry.S.t400, y_trace m.ry  ?_⟩
      exact law_eq t_L_law_1571 (go _ _ _ (m.y (KY.rf m.ry)))
    · refine ⟨a.rx.S.t0, s_fault a.rx  ?_⟩
      have m := a.x ((KX.rf a.rx).l a.tz rfl)
      refine t_L_law_1580 ?_
      refine ⟨m.ry.S.t400, y_fault m.ry  ?_⟩
      exact law_eq t_L_law_1584 (go _ _ _ (m.y (KY.rf m.ry)))
    · refine ⟨a.ta, lM, b1, w1, a.rx.S.t0, s_many a.rx (G _) ?_⟩
      have m := a.x ((KX.rf a.rx).l a.tz rfl)
      refine t_L_law_1598 ?_
      rw [m.ln, m.sc (7 * (t : Int) + 1)]
      refine ⟨m.ta, lM, b1, w1, m.ry.S.t400, y_many m.ry (G _) ?_⟩
      exact law_eq t_L_law_1607 (go _ _ _ (m.y (KY.rf m.ry)))
    · have m := a.x ((KX.rf a.rx).l a.tz rfl)
      exact go _ _ _ (m.y (KY.rf m.ry))
end LAWS
