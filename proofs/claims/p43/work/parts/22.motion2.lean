/-! Motions made known; where a lie goes. -/
def SL (h : Hp) : Nat := ln h 3 + ln h 20 + ln h 21 + ln h 22 + ln h 23 + ln h 24 + ln h 25 + ln h 26 + (ln h 83 + ln h 87 + ln h 91) + (ln h 147 + ln h 151 + ln h 155) + (ln h 211 + ln h 215 + ln h 219) + (ln h 275 + ln h 279 + ln h 283)
/-- what was made shows in the lengths -/
def CoN (h h' : Hp) : Prop := ck h' + SL h ≤ ck h + SL h' ∧ cu h' + 2 * SL h ≤ cu h + 2 * SL h' ∧ ck h ≤ ck h' ∧ cu h ≤ cu h'
def Co (h h' : Hp) : Prop := CoN h h' ∧ ∀ r, tg h' r = tg h r ∧ (tg h r = 0 → r ≠ 38 → ln h' r = ln h r)
theorem Co.rf (h : Hp) : Co h h := ⟨⟨Nat.le_refl _, Nat.le_refl _, Nat.le_refl _, Nat.le_refl _⟩, fun _ => ⟨rfl, fun _ _ => rfl⟩⟩
theorem CoN.tr {h h1 h2 : Hp} (a : CoN h h1) (b : CoN h1 h2) : CoN h h2 := by
  unfold CoN at *
  omega
theorem Co.tr {h h1 h2 : Hp} (a : Co h h1) (b : Co h1 h2) : Co h h2 :=
  ⟨a.1.tr b.1, fun r => ⟨(b.2 r).1.trans (a.2 r).1, fun h0 h38 => ((b.2 r).2 ((a.2 r).1.trans h0) h38).trans ((a.2 r).2 h0 h38)⟩⟩
theorem Fr.co {S : Nat → Bool} {h h1 : Hp} (a : Fr S h h1) : Co h h1 := by
  obtain ⟨f, rfl, -⟩ := a
  exact ⟨⟨Nat.le_refl _, Nat.le_refl _, Nat.le_refl _, Nat.le_refl _⟩, fun _ => ⟨rfl, fun _ _ => rfl⟩⟩
theorem okg_i {m y : Nat} {ls s a : List Value} (h1 : okc m y = true) (h2 : decide (s.length ≤ 4) = true) (h3 : (!nol y || a.all (fun v => !isL v)) = true) (h4 : decide ((lay a).length ≤ mL y) = true) (h5 : (mv m && ng ls && ng s) = true) : okg m y ls s a = true := by
  unfold okg
  rw [h1, h2, h3, h4, h5, Bool.or_true]
  rfl
theorem gwL : ∀ (l : _root_.Fin 4) (j : _root_.Fin 3), gw (64 * ((l : Nat) + 1)) = false ∧ gw (64 * ((l : Nat) + 1) + 16 + 4 * j) = false ∧ gw (64 * ((l : Nat) + 1) + 17 + 4 * j) = false ∧ gw (64 * ((l : Nat) + 1) + 18 + 4 * j) = false ∧ gw (64 * ((l : Nat) + 1) + 19 + 4 * j) = true := by decide
section MOT
variable {d : Nat → Nat → Int} {P : Value → Hp → Prop} {n l j : Nat}
theorem fill4_loop {a : Nat} {v : Int} {to_ : Nat} {l1 : Value} (hv : rng v) (hto : to_ ≤ 1000000) : ∀ (k i : Nat) (h : Hp), tg h a = 20 → to_ ≤ ln h a → ln h a ≤ 5040 → i + k = to_ → (∀ h', Fr (fun r => r == a) h h' → (∀ z : Int, (i : Int) ≤ z ∧ z < to_ → iv h' a z = v) → (∀ z : Int, ¬ ((i : Int) ≤ z ∧ z < to_) → iv h' a z = iv h a z) → P .null h') →
    R 59 10 [.ref a, l1, .int (I (to_ : Nat)), .int (I v), .int (I (i : Nat))] [] h P := by
  intro k
  induction k with
  | zero =>
    intro i h ta hl h5 hi kk
    refine t_Arrays_fill_4_10 ⟨by omega, by omega, fun c => absurd c (by omega), fun c => ?_⟩
    exact kk h (Fr.rf _ _) (fun z hz => absurd hz (by omega)) (fun _ _ => rfl)
  | succ k ih =>
    intro i h ta hl h5 hi kk
    refine t_Arrays_fill_4_10 ⟨by omega, by omega, fun c => ⟨ta, by omega, by omega, by omega, ?_⟩, fun c => absurd (by omega) c⟩
    rw [wr_eq hv]
    have fr : Fr (fun r => r == a) h (setI h a i v) := Fr.set h _ _ (beq_self_eq_true a)
    refine ih (i + 1) _ ta hl h5 (by omega) fun h' f1 f2 f3 => kk h' (fr.tr f1) (fun z hz => ?_) (fun z hz => ?_)
    · by_cases e : z = i
      · rw [f3 z (by omega), iv_setI, if_pos ⟨rfl, e⟩]
      · exact f2 z (by omega)
    · rw [f3 z (by omega), iv_setI, if_neg (by omega)]
theorem s_rangeCheck {a b c : Int} {h : Hp} (ha : rng a) (hb : rng b) (hc : rng c) (h1 : b ≤ c) (h2 : 0 ≤ b) (h3 : c ≤ a) (k : P .null h) : R 60 0 [.int (I a), .int (I b), .int (I c)] [] h P := by
  exact t_Arrays_rangeCheck ⟨hb, hc, fun q => absurd q (by omega), fun _ => ⟨hb, fun q => absurd q (by omega), fun _ => ⟨hc, ha, fun q => absurd q (by omega), fun _ => k⟩⟩⟩
theorem s_fill4 {a : Nat} {v : Int} {to_ : Nat} {h : Hp} (hv : rng v) (ta : tg h a = 20) (hl : to_ ≤ ln h a) (h5 : ln h a ≤ 5040) (kk : ∀ h', Fr (fun r => r == a) h h' → (∀ z : Int, 0 ≤ z ∧ z < to_ → iv h' a z = v) → (∀ z : Int, ¬ (0 ≤ z ∧ z < to_) → iv h' a z = iv h a z) → P .null h') :
    R 59 0 [.ref a, .int (I 0), .int (I (to_ : Nat)), .int (I v), .retAddr 0] [] h P := by
  refine t_Arrays_fill_4 ⟨Or.inl (by omega), s_rangeCheck (by omega) (by omega) (by omega) (by omega) (by omega) (by omega) (t_Arrays_fill_4_7 ?_)⟩
  exact fill4_loop hv (by omega) to_ 0 h ta hl h5 (by omega) kk
/-- a row that is wide enough, the one there was or a new one -/
theorem s_wide {a k : Nat} {h : Hp} (ta : tg h a = 20) (t38 : tg h 38 = 0) (hl : ln h a ≤ 5040) (hk : k ≤ 5040) (k1 : k ≤ ln h a → P (.ref a) h) (k2 : ln h a < k → P (.ref 38) (mk h 38 20 k k)) : R 23 0 [.ref a, .int (I (k : Nat))] [] h P := by
  refine t_X_wideEnough ⟨Or.inl (by omega), by omega, by omega, fun c => ⟨t38, by omega, by omega, k2 (by omega)⟩, fun c => k1 (by omega)⟩
theorem fct_dbl {a b : Nat} (hb : 2 ≤ b ∧ b ≤ 7) (h : okln a) (hlt : a < fct b) : 2 * a ≤ fct b := by
  rcases h with rfl | ⟨m, m1, m2, rfl⟩
  · omega
  · have k1 : b = 2 ∨ b = 3 ∨ b = 4 ∨ b = 5 ∨ b = 6 ∨ b = 7 := by omega
    have k2 : m = 2 ∨ m = 3 ∨ m = 4 ∨ m = 5 ∨ m = 6 ∨ m = 7 := by omega
    rcases k1 with rfl | rfl | rfl | rfl | rfl | rfl <;> rcases k2 with rfl | rfl | rfl | rfl | rfl | rfl <;> revert hlt <;> decide
theorem fct2 {b : Nat} (hb : 2 ≤ b ∧ b ≤ 7) : 2 ≤ fct b := by
  have k1 : b = 2 ∨ b = 3 ∨ b = 4 ∨ b = 5 ∨ b = 6 ∨ b = 7 := by omega
  rcases k1 with rfl | rfl | rfl | rfl | rfl | rfl <;> decide
theorem okln.le {a : Nat} (h : okln a) : a ≤ 5040 := by
  rcases h with rfl | ⟨m, m1, m2, rfl⟩
  · omega
  · exact fct_le m2
/-- a growable row widens: the lengths tell -/
theorem CoN.wide {h h1 : Hp} {q w : Nat} (hq : q ∈ [3, 20, 21, 22, 23, 24, 25, 26, 83, 87, 91, 147, 151, 155, 211, 215, 219, 275, 279, 283]) (hl : ∀ r, r ≠ q → r ≠ 38 → ln h1 r = ln h r) (hw : ln h1 q = w) (h2 : 2 * ln h q ≤ w) (hw2 : 2 ≤ w) (c1 : ck h1 = ck h + 1) (c2 : cu h1 = cu h + w) : CoN h h1 := by
  unfold CoN SL
  simp only [List.mem_cons, List.not_mem_nil, or_false] at hq
  have e : ∀ r, r ≠ 38 → ln h1 r = if r = q then w else ln h r := fun r h38 => by
    by_cases z : r = q
    · rw [if_pos z, z]; exact hw
    · rw [if_neg z]; exact hl r z h38
  rw [c1, c2, e 3 (by decide), e 20 (by decide), e 21 (by decide), e 22 (by decide), e 23 (by decide), e 24 (by decide), e 25 (by decide), e 26 (by decide), e 83 (by decide), e 87 (by decide), e 91 (by decide), e 147 (by decide), e 151 (by decide), e 155 (by decide), e 211 (by decide), e 215 (by decide), e 219 (by decide), e 275 (by decide), e 279 (by decide), e 283 (by decide)]
  rcases hq with rfl | rfl | rfl | rfl | rfl | rfl | rfl | rfl | rfl | rfl | rfl | rfl | rfl | rfl | rfl | rfl | rfl | rfl | rfl | rfl <;> simp only [reduceIte, Nat.reduceEqDiff] <;> omega
theorem gwl {l : Nat} (hl : l < 4) : gw (64 * (l + 1)) = false := (gwL ⟨l, hl⟩ ⟨0, by decide⟩).1
theorem gwm {l j : Nat} (hl : l < 4) (hj : j < 3) : gw (64 * (l + 1) + 16 + 4 * j) = false ∧ gw (64 * (l + 1) + 17 + 4 * j) = false ∧ gw (64 * (l + 1) + 18 + 4 * j) = false ∧ gw (64 * (l + 1) + 19 + 4 * j) = true := (gwL ⟨l, hl⟩ ⟨j, hj⟩).2
theorem nxL : ∀ (l : _root_.Fin 4) (j : _root_.Fin 3), (64 * ((l : Nat) + 1) + 19 + 4 * (j : Nat)) ∈ [3, 20, 21, 22, 23, 24, 25, 26, 83, 87, 91, 147, 151, 155, 211, 215, 219, 275, 279, 283] := by decide
theorem s_forget {h : Hp} (hl : l < 4) (hj : j < 3) (hn : 2 ≤ n ∧ n ≤ 7) (t38 : tg h 38 = 0) (tm : tg h (64 * (l + 1) + 16 + 4 * j) = 6) (fm : fl h (64 * (l + 1) + 16 + 4 * j) 1 = true) (tq : tg h (64 * (l + 1) + 19 + 4 * j) = 20) (oq : okln (ln h (64 * (l + 1) + 19 + 4 * j)))
    (kk : ∀ h', Gr (fun r => r == 38 || r == 64 * (l + 1) + 19 + 4 * j) h h' → Tf h h' → fct n ≤ ln h' (64 * (l + 1) + 19 + 4 * j) → okln (ln h' (64 * (l + 1) + 19 + 4 * j)) → (∀ z : Int, 0 ≤ z ∧ z < fct n → iv h' (64 * (l + 1) + 19 + 4 * j) z = 0) → Co h h' → P .null h') :
    R 58 0 [.ref (64 * (l + 1) + 16 + 4 * j), .int (I (fct n : Nat))] [] h P := by
  have c1 : child (64 * (l + 1) + 16 + 4 * j) 1 = 64 * (l + 1) + 19 + 4 * j := (chlm hl hj).2.2.1
  obtain ⟨gm, -, -, gq⟩ := gwm hl hj
  have hnm : ngv (.ref (64 * (l + 1) + 16 + 4 * j)) = true := by show (!gw _) = true; rw [gm]; rfl
  have f5 := fct_le hn.2
  refine t_Motion_forget ?_
  rw [c1]
  refine ⟨tm, fm, by omega, okg_i rfl rfl rfl rfl ?_, ?_⟩
  · show (true && (ngv _ && (ngv _ && true)) && (ngv _ && true)) = true
    rw [hnm]; rfl
  refine s_wide tq t38 oq.le f5 (fun hle => ?_) (fun hlt => ?_)
  · refine t_Motion_forget_9 ?_
    rw [c1]
    refine ⟨tm, Or.inl rfl, fun _ => ⟨tm, ?_, ?_, ?_⟩, fun e => absurd e (by omega)⟩
    · rw [fl_setF, if_pos ⟨rfl, rfl⟩]
    · show tg h _ ≠ 0
      omega
    have fs : Gr (fun r => r == 38 || r == 64 * (l + 1) + 19 + 4 * j) h (setF h (64 * (l + 1) + 16 + 4 * j) 1) := fun r _ => ⟨rfl, rfl, fun _ => rfl, fun k => by
      rw [fl_setF]
      by_cases e : r = 64 * (l + 1) + 16 + 4 * j ∧ k = 1
      · rw [if_pos e, e.1, e.2, fm]
      · rw [if_neg e]⟩
    refine s_fill4 (a := 64 * (l + 1) + 19 + 4 * j) (to_ := fct n) (v := 0) (by decide) tq hle oq.le fun h' f1 f2 f3 => t_Motion_forget_22 (kk h' (fs.tr (f1.g.mono fun r hr => ?_)) ⟨fun r => f1.t r, fun r k _ q => ?_⟩ ?_ ?_ (fun z hz => f2 z hz) f1.co)
    · simp only [Bool.or_eq_false_iff] at hr; exact hr.2
    · rw [f1.f, fl_setF]
      by_cases e : r = 64 * (l + 1) + 16 + 4 * j ∧ k = 1
      · rw [if_pos e]
      · rw [if_neg e]; exact q
    · rw [f1.l]; exact hle
    · rw [f1.l]; exact oq
  · have hdbl := fct_dbl hn oq hlt
    refine t_Motion_forget_9 ?_
    rw [c1]
    have nq : ¬ (38 : Nat) = 64 * (l + 1) + 19 + 4 * j := by omega
    have nm : ¬ 64 * (l + 1) + 16 + 4 * j = 38 := by omega
    have nmq : ¬ 64 * (l + 1) + 16 + 4 * j = 64 * (l + 1) + 19 + 4 * j := by omega
    have tgs : ∀ r, tg (mov (mk h 38 20 (fct n) (fct n)) (64 * (l + 1) + 16 + 4 * j) 1 (64 * (l + 1) + 19 + 4 * j) 38) r = tg h r := by
      intro r
      rw [tg_mov, tg_mk, tg_mk, if_pos rfl]
      by_cases e : r = 38
      · rw [if_pos e, e, t38]
      · rw [if_neg e]
        by_cases e2 : r = 64 * (l + 1) + 19 + 4 * j
        · rw [if_pos e2, e2, tq]
        · rw [if_neg e2, if_neg e]
    have lns : ∀ r, r ≠ 64 * (l + 1) + 19 + 4 * j → r ≠ 38 → ln (mov (mk h 38 20 (fct n) (fct n)) (64 * (l + 1) + 16 + 4 * j) 1 (64 * (l + 1) + 19 + 4 * j) 38) r = ln h r := by
      intro r h1 h2
      rw [ln_mov, if_neg h1, ln_mk, if_neg h2]
    have lnq : ln (mov (mk h 38 20 (fct n) (fct n)) (64 * (l + 1) + 16 + 4 * j) 1 (64 * (l + 1) + 19 + 4 * j) 38) (64 * (l + 1) + 19 + 4 * j) = fct n := by
      rw [ln_mov, if_pos rfl, ln_mk, if_pos rfl]
    have fls : ∀ r k, r ≠ 38 → r ≠ 64 * (l + 1) + 19 + 4 * j → fl (mov (mk h 38 20 (fct n) (fct n)) (64 * (l + 1) + 16 + 4 * j) 1 (64 * (l + 1) + 19 + 4 * j) 38) r k = fl h r k := by
      intro r k h1 h2
      rw [fl_mov]
      by_cases e : r = 64 * (l + 1) + 16 + 4 * j ∧ k = 1
      · rw [if_pos e, e.1, e.2, fm]
      · rw [if_neg e, if_neg h2, fl_mk, if_neg h1]
    have gr0 : Gr (fun r => r == 38 || r == 64 * (l + 1) + 19 + 4 * j) h (mov (mk h 38 20 (fct n) (fct n)) (64 * (l + 1) + 16 + 4 * j) 1 (64 * (l + 1) + 19 + 4 * j) 38) := by
      intro r hr
      simp only [Bool.or_eq_false_iff, beq_eq_false_iff_ne] at hr
      exact ⟨tgs r, lns r hr.2 hr.1, fun k => by rw [iv_mov, if_neg hr.2, iv_mk, if_neg hr.1], fun k => fls r k hr.1 hr.2⟩
    have co : Co h (mov (mk h 38 20 (fct n) (fct n)) (64 * (l + 1) + 16 + 4 * j) 1 (64 * (l + 1) + 19 + 4 * j) 38) := ⟨CoN.wide (nxL ⟨l, hl⟩ ⟨j, hj⟩) (fun r h1 h2 => lns r h1 h2) lnq hdbl (fct2 hn) rfl rfl, fun r => ⟨tgs r, fun h0 h38 => lns r (fun e => by rw [e, tq] at h0; omega) h38⟩⟩
    refine ⟨?_, Or.inr rfl, fun e => absurd e nq, fun _ => ⟨?_, Ne.symm nq, ?_, ?_, ?_, ?_⟩⟩
    · rw [tg_mk, if_neg nm]; exact tm
    · have g0 : ∀ (L : List Value), ng L = true → (mv 58 && gw (64 * (l + 1) + 19 + 4 * j) && !gw (64 * (l + 1) + 16 + 4 * j) && decide (64 * (l + 1) + 19 + 4 * j < 37 ∨ 38 < 64 * (l + 1) + 19 + 4 * j) && tg (mk h 38 20 ((fct n : Nat) : Int).toNat ((fct n : Nat) : Int).toNat) 38 == 20 && ng L && ng []) = true := by
        intro L hL
        rw [gq, gm, hL, decide_eq_true (Or.inr (by omega)), tg_mk, if_pos rfl]
        rfl
      refine g0 _ ?_
      show (ngv _ && (ngv _ && true)) = true
      rw [hnm]; rfl
    · exact (tgs _).trans tm
    · refine (fls _ _ nm nmq).trans fm
    · rw [show tg _ _ = _ from tgs (64 * (l + 1) + 19 + 4 * j)]; omega
    refine s_fill4 (a := 64 * (l + 1) + 19 + 4 * j) (to_ := fct n) (v := 0) (by decide) ((tgs _).trans tq) (by rw [lnq]; exact Nat.le_refl _) (by rw [lnq]; exact f5) fun h' f1 f2 f3 => t_Motion_forget_22 (kk h' (gr0.tr (f1.g.mono fun r hr => ?_)) ⟨fun r => (f1.t r).trans (tgs r), fun r k z q => ?_⟩ ?_ ?_ (fun z hz => f2 z hz) (co.tr f1.co))
    · simp only [Bool.or_eq_false_iff] at hr; exact hr.2
    · rw [f1.f]
      rw [fls r k z.1 (by omega)]
      exact q
    · rw [f1.l, lnq]; exact Nat.le_refl _
    · rw [f1.l, lnq]; exact Or.inr ⟨n, hn.1, hn.2, rfl⟩
end MOT
