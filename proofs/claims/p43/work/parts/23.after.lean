/-! Motions of the class: found out once, asked often. -/
/-- where a lie goes -/
noncomputable def nxt (d : Nat → Nat → Int) (n l j lie : Nat) : Nat := cl n (shk (chg d l (j + 1 : Nat) (-9)) n (rw_ n lie))
theorem nxt_row {d : Nat → Nat → Int} {n l j lie : Nat} (hn : 2 ≤ n ∧ n ≤ 7) (hl : lie < fct n) : nxt d n l j lie < fct n ∧ rw_ n (nxt d n l j lie) = shk (chg d l (j + 1 : Nat) (-9)) n (rw_ n lie) := (shk_ok hn ⟨lie, hl, rfl⟩).cl hn
/-- a motion that is known -/
def MF (l j : Nat) (h : Hp) : Prop := iv h (64 * (l + 1) + 16 + 4 * j) 2 = iv h 1 3
theorem wr0 {a : Int} (h : 0 ≤ a ∧ a < 1000000) : wr a = a := wr_eq (by omega)
theorem SM_f {l j r : Nat} (h : SM l j r = false) : r ≠ 38 ∧ (r < 64 * (l + 1) + 16 + 4 * j ∨ 64 * (l + 1) + 19 + 4 * j < r) := by
  simp only [SM, Bool.or_eq_false_iff, beq_eq_false_iff_ne] at h
  refine ⟨h.1, ?_⟩
  apply Classical.byContradiction
  intro q
  have h2 := h.2
  rw [Nat.ble_eq_true_of_le (by omega), Nat.ble_eq_true_of_le (by omega)] at h2
  cases h2
section AFTER
variable {d : Nat → Nat → Int} {P : Value → Hp → Prop} {n l j : Nat} {h : Hp}
theorem s_motionOf (hn : 2 ≤ n) (rb : RB n d h) (hl : (l : Int) < d 0 3) (hj : j < 3) (kk : ∀ h', RB n d h' → Gr (SM l j) h h' → Tf h h' → Co h h' → MF l j h' → P (.ref (64 * (l + 1) + 16 + 4 * j)) h') :
    R 55 0 [.ref 0, .ref (64 * (l + 1)), .int (I ((j + 1 : Nat) : Int)), .retAddr 0] [] h P := by
  obtain ⟨⟨b1, b2, b3, b4, b5, b6, b7, b8⟩, c, g, gg, gb, nb, ls, lw⟩ := id rb
  have bx := rb.bx hn
  have hn7 := bx.2.1
  have hl4 : l < 4 := by omega
  obtain ⟨l1, ⟨⟨w1, w2, w3, w4, w5, w6, w7⟩, wc, wm⟩, l3, l4⟩ := lw l hl
  obtain ⟨m1, m2, m3, m4, m5, m6, m7, m8, m9, m10⟩ := wm j hj
  obtain ⟨⟨mc1, mc2⟩, ol⟩ := l4 j hj
  obtain ⟨ch1, ch2, ch3, ch4'⟩ := chlm hl4 hj
  have ej : (((j + 1 : Nat) : Int) - 1).toNat = j := by omega
  refine t_X_motionOf b1 ?_
  rw [chl1 hl4, w7, ej, ch1]
  refine ⟨w1, w3, by omega, by omega, by omega, by omega, by omega, m1, by omega, m2, by omega, by omega, fun e => ?_, fun e => ⟨m2, m2, m3, ?_, ?_, ?_⟩⟩
  · exact kk h rb (Gr.rf _ _) (Tf.rf _) (Co.rf _) e
  · show tg h _ ≠ 0
    rw [ch2]; omega
  · show tg h _ = 8
    rw [ch2]; exact m5
  · rw [wr0 (by omega), ch2]
    have fr : Fr (fun r => r == 64 * (l + 1) + 16 + 4 * j) h (setI h (64 * (l + 1) + 16 + 4 * j) 2 (iv h 1 3)) := Fr.set h _ _ (beq_self_eq_true _)
    have sn : ∀ r, r ≠ 64 * (l + 1) + 16 + 4 * j → (fun r => r == 64 * (l + 1) + 16 + 4 * j) r = false := fun r hr => by simpa using hr
    have cr : child (64 * (l + 1) + 17 + 4 * j) 0 = 64 * (l + 1) + 18 + 4 * j := ch4'
    have le : LE n d l (64 * (l + 1) + 17 + 4 * j) (setI h (64 * (l + 1) + 16 + 4 * j) 2 (iv h 1 3)) := by
      refine ⟨bx.fr fr (sn _ (by omega)) (sn _ (by omega)) (sn _ (by omega)), gg.fr fr fun g hg => sn _ (by omega), LW.fr (lw l hl).2.1 fr fun c hc => sn _ (by omega), ?_⟩
      rw [cr]
      exact ⟨m5, m6, by omega, m7, m8⟩
    refine s_learn hl4 (Or.inr ⟨l, j, hl4, hj, cr⟩) l3 gb (by omega) (by decide) le fun h1 f1 ru => ?_
    rw [cr] at f1
    have s1 : ∀ r, r ≠ 64 * (l + 1) + 18 + 4 * j → (fun r => r == 64 * (l + 1) + 18 + 4 * j) r = false := fun r hr => by simpa using hr
    have i12 : iv h1 1 2 = (fct n : Nat) := by
      rw [f1.i (s1 1 (by omega)), iv_setI, if_neg (by omega)]
      exact bx.2.2.2.1
    have t1 : ∀ r, tg h1 r = tg h r := fun r => by rw [f1.t]; rfl
    have x1 : XS h1 := f1.x (fr.x b1)
    refine t_X_motionOf_49 x1 ?_
    rw [i12]
    obtain ⟨gm, gr_, gs, gq⟩ := gwm hl4 hj
    have gl := gwl hl4
    refine ⟨okg_i rfl rfl rfl rfl ?_, by rw [t1]; exact m2, ?_⟩
    · simp only [ng, List.all_cons, List.all_nil, ngv, gl, gm, Bool.not_false, Bool.and_true]
      rfl
    refine s_forget hl4 hj hn7 (by rw [t1]; exact b8) (by rw [t1]; exact m2) (by rw [f1.f]; exact m4) (by rw [t1]; exact m9) (by rw [f1.l]; exact ol) fun h2 f2 f3 f4 f5 f6 f7 => ?_
    have g2 : ∀ r, r ≠ 38 → r ≠ 64 * (l + 1) + 19 + 4 * j → (fun r => r == 38 || r == 64 * (l + 1) + 19 + 4 * j) r = false := fun r ha hb => by
      show (_ || _) = false
      rw [Bool.or_eq_false_iff]
      exact ⟨by simpa using ha, by simpa using hb⟩
    have x2 : XS h2 := x1.gr f2 (fun r hr => g2 r (by omega) (by omega)) ⟨(f3.1 3).trans x1.t3, fun k hk => by
      rw [f3.1]
      have : k = 0 ∨ k = 1 ∨ k = 2 ∨ k = 3 ∨ k = 4 ∨ k = 5 ∨ k = 6 := by omega
      rcases this with rfl | rfl | rfl | rfl | rfl | rfl | rfl
      · exact x1.t20
      · exact x1.t21
      · exact x1.t22
      · exact x1.t23
      · exact x1.t24
      · exact x1.t25
      · exact x1.t26⟩
    have gA : Gr (SM l j) h (setI h (64 * (l + 1) + 16 + 4 * j) 2 (iv h 1 3)) := fr.g.mono fun r hr => sn r (by have := SM_f hr; omega)
    have gB : Gr (SM l j) (setI h (64 * (l + 1) + 16 + 4 * j) 2 (iv h 1 3)) h1 := f1.g.mono fun r hr => s1 r (by have := SM_f hr; omega)
    have gC : Gr (SM l j) h1 h2 := f2.mono fun r hr => g2 r (SM_f hr).1 (by have := SM_f hr; omega)
    have gAll := (gA.tr gB).tr gC
    have tfA : Tf h h2 := (fr.tf.tr f1.tf).tr f3
    have k17 := g2 (64 * (l + 1) + 17 + 4 * j) (by omega) (by omega)
    have k18 := g2 (64 * (l + 1) + 18 + 4 * j) (by omega) (by omega)
    have k16 := g2 (64 * (l + 1) + 16 + 4 * j) (by omega) (by omega)
    have i16 : iv h2 (64 * (l + 1) + 16 + 4 * j) 2 = iv h 1 3 := by
      rw [(f2 _ k16).2.2.1, f1.i (s1 _ (by omega)), iv_setI, if_pos ⟨rfl, rfl⟩]
    have i13 : iv h2 1 3 = iv h 1 3 := (gAll 1 (SM_no (by omega) (by omega))).2.2.1 3
    have mc : MC n d l j h2 := by
      refine ⟨by rw [i16, i13]; omega, fun _ _ => ⟨ru.gr f2 k17 (by rw [cr]; exact k18), f4, fun i hi => Or.inl (f6 i (by omega))⟩⟩
    have rb2 : RB n d h2 := rb.mo hl hj gAll tfA (by rw [(f2 _ k18).2.1, f1.l]; exact m8) f5 mc
    refine t_X_motionOf_60 x2 (kk h2 rb2 gAll tfA ((fr.co.tr f1.co).tr f7) ?_)
    unfold MF
    rw [i16, i13]
/-- the roles that asking changes -/
def SA (l j : Nat) (r : Nat) : Bool := r == 3 || r == 64 * (l + 1) + 17 + 4 * j || r == 64 * (l + 1) + 19 + 4 * j
theorem SA_no {l j r : Nat} (h1 : r ≠ 3) (h2 : r ≠ 64 * (l + 1) + 17 + 4 * j) (h3 : r ≠ 64 * (l + 1) + 19 + 4 * j) : SA l j r = false := by
  unfold SA
  rw [Bool.or_eq_false_iff, Bool.or_eq_false_iff]
  exact ⟨⟨by simpa using h1, by simpa using h2⟩, by simpa using h3⟩
theorem s_after (hn : 2 ≤ n) (rb : RB n d h) (hl : (l : Int) < d 0 3) (hj : j < 3) (mf : MF l j h) {lie : Nat} (hlie : lie < fct n) (kk : ∀ h', RB n d h' → Fr (SA l j) h h' → MF l j h' → P (.int (I (nxt d n l j lie : Nat))) h') :
    R 74 0 [.ref (64 * (l + 1) + 16 + 4 * j), .ref 1, .int (I (lie : Nat))] [] h P := by
  obtain ⟨⟨b1, b2, b3, b4, b5, b6, b7, b8⟩, c, g, gg, gb, nb, ls, lw⟩ := id rb
  have bx := rb.bx hn
  have hn7 := bx.2.1
  have hl4 : l < 4 := by omega
  obtain ⟨l1, ⟨⟨w1, w2, w3, w4, w5, w6, w7⟩, wc, wm⟩, l3, l4⟩ := lw l hl
  obtain ⟨m1, m2, m3, m4, m5, m6, m7, m8, m9, m10⟩ := wm j hj
  obtain ⟨⟨mc1, mc2⟩, ol⟩ := l4 j hj
  obtain ⟨ch1, ch2, ch3, ch4'⟩ := chlm hl4 hj
  obtain ⟨ru, fl5, ent⟩ := mc2 mf hn
  have f5 := fct_le hn7.2
  obtain ⟨nx1, nx2⟩ := nxt_row (d := d) (l := l) (j := j) hn7 hlie
  have entl := ent lie hlie
  refine t_Motion_after ?_
  rw [ch2, ch3]
  have hent : rng (iv h (64 * (l + 1) + 19 + 4 * j) lie) := by
    rcases entl with q | q
    · rw [q]; decide
    · rw [q]
      have : cl n (shk (chg d l (j + 1 : Nat) (-9)) n (rw_ n lie)) < fct n := nx1
      omega
  refine ⟨m2, m4, by omega, Or.inl m9, by omega, by omega, by omega, hent, fun e => ⟨m2, m4, by omega, m2, m3, by omega, b1.t1, ?_⟩, fun e => ⟨m2, m4, by omega, Or.inl m9, by omega, by omega, by omega, ?_⟩⟩
  · refine s_rowOf bx hlie fun h1 f1 bx1 => ?_
    have rb1 := rb.rows hn f1 bx1
    have s3 : ∀ r, r ≠ 3 → (fun r : Nat => r == 3) r = false := fun r hr => by simpa using hr
    have ru1 : RU n (chg d l (j + 1 : Nat) (-9)) h1 (64 * (l + 1) + 17 + 4 * j) := ru.fr f1 (by rw [ch4']; exact s3 _ (by omega))
    refine t_Motion_after_24 ?_
    rw [bx1.2.2.1]
    refine ⟨bx1.1.t1, ru1.1, ?_⟩
    refine s_shaken hn7 ru1 ⟨lie, hlie, rfl⟩ fun h2 f2 _ => ?_
    have s17 : ∀ r, r ≠ 64 * (l + 1) + 17 + 4 * j → (fun r : Nat => r == 64 * (l + 1) + 17 + 4 * j) r = false := fun r hr => by simpa using hr
    have bx2 : BX n h2 := bx1.fr f2 (s17 _ (by omega)) (s17 _ (by omega)) (s17 _ (by omega))
    refine t_Motion_after_31 ⟨bx2.1.t1, ?_⟩
    refine s_lieOf bx2 (shk_ok hn7 ⟨lie, hlie, rfl⟩) ?_
    refine t_Motion_after_34 ?_
    have hnx : cl n (shk (chg d l (j + 1 : Nat) (-9)) n (rw_ n lie)) = nxt d n l j lie := rfl
    have tA : ∀ r, tg h2 r = tg h r := fun r => (f2.t r).trans (f1.t r)
    have lA : ∀ r, ln h2 r = ln h r := fun r => (f2.l r).trans (f1.l r)
    have fA : ∀ r k, fl h2 r k = fl h r k := fun r k => (f2.f r k).trans (f1.f r k)
    rw [hnx, wr_eq (show rng ((nxt d n l j lie : Nat) + 1) by omega), ch3]
    have fr3 : Fr (fun r => r == 64 * (l + 1) + 19 + 4 * j) h2 (setI h2 (64 * (l + 1) + 19 + 4 * j) lie ((nxt d n l j lie : Nat) + 1)) := Fr.set h2 _ _ (beq_self_eq_true _)
    have frA : Fr (SA l j) h (setI h2 (64 * (l + 1) + 19 + 4 * j) lie ((nxt d n l j lie : Nat) + 1)) := by
      refine ((f1.mono fun r hr => ?_).tr (f2.mono fun r hr => ?_)).tr (fr3.mono fun r hr => ?_)
      · simp only [SA, Bool.or_eq_false_iff] at hr; exact hr.1.1
      · simp only [SA, Bool.or_eq_false_iff] at hr; exact hr.1.2
      · simp only [SA, Bool.or_eq_false_iff] at hr; exact hr.2
    refine ⟨by rw [tA]; exact m9, by rw [lA]; omega, by omega, by rw [lA]; omega, by rw [fr3.t, tA]; exact m2, by rw [fr3.f, fA]; exact m4, by rw [fr3.t, tA]; omega, by rw [fr3.t, tA]; exact Or.inl m9, by rw [fr3.l, lA]; omega, by omega, by rw [fr3.l, lA]; omega, ?_⟩
    rw [iv_setI, if_pos ⟨rfl, rfl⟩, Int.add_sub_cancel]
    have iA : ∀ r, r ≠ 3 → r ≠ 64 * (l + 1) + 17 + 4 * j → ∀ k, iv h2 r k = iv h r k := fun r q1 q2 k => (f2.i (s17 r q2) k).trans (f1.i (s3 r q1) k)
    refine kk _ ?_ frA ?_
    · -- all that holds still holds
      have s19 : ∀ r, r ≠ 64 * (l + 1) + 19 + 4 * j → (fun r : Nat => r == 64 * (l + 1) + 19 + 4 * j) r = false := fun r hr => by simpa using hr
      have g23 : Gr (SM l j) h1 (setI h2 (64 * (l + 1) + 19 + 4 * j) lie ((nxt d n l j lie : Nat) + 1)) := by
        refine (f2.g.mono fun r hr => ?_).tr (fr3.g.mono fun r hr => ?_)
        · exact s17 r (by have := SM_f hr; omega)
        · exact s19 r (by have := SM_f hr; omega)
      refine rb1.mo hl hj g23 (f2.tf.tr fr3.tf) (by rw [fr3.l, lA]; exact m8) (by rw [fr3.l, lA]; exact ol) ?_
      have e16 : iv (setI h2 (64 * (l + 1) + 19 + 4 * j) lie ((nxt d n l j lie : Nat) + 1)) (64 * (l + 1) + 16 + 4 * j) 2 = iv h (64 * (l + 1) + 16 + 4 * j) 2 := by
        rw [iv_setI, if_neg (by omega)]; exact iA _ (by omega) (by omega) 2
      have e13 : iv (setI h2 (64 * (l + 1) + 19 + 4 * j) lie ((nxt d n l j lie : Nat) + 1)) 1 3 = iv h 1 3 := by
        rw [iv_setI, if_neg (by omega)]; exact iA _ (by omega) (by omega) 3
      unfold MC
      rw [e16, e13]
      refine ⟨mc1, fun _ _ => ⟨(ru1.fr f2 (by rw [ch4']; exact s17 _ (by omega))).fr fr3 (by rw [ch4']; exact s19 _ (by omega)), by rw [fr3.l, lA]; exact fl5, fun i hi => ?_⟩⟩
      rw [iv_setI]
      by_cases z : i = lie
      · rw [if_pos ⟨rfl, by rw [z]⟩, z]
        exact Or.inr rfl
      · rw [if_neg (by omega), iA _ (by omega) (by omega)]
        exact ent i hi
    · unfold MF
      rw [iv_setI, if_neg (by omega), iv_setI, if_neg (by omega), iA _ (by omega) (by omega), iA _ (by omega) (by omega)]
      exact mf
  · rcases entl with q | q
    · exact absurd q e
    · rw [q, Int.add_sub_cancel]
      exact kk h rb (Fr.rf _ _) mf
end AFTER
