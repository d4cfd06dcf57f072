/-! A law is made. -/
theorem Gr.mk1 {S : Nat → Bool} {h : Hp} {q : Nat} (t n u : Nat) (hq : S q = true) : Gr S h (mk h q t n u) := fun r hr => by
  have e : r ≠ q := fun z => by rw [z, hq] at hr; cases hr
  exact ⟨by rw [tg_mk, if_neg e], by rw [ln_mk, if_neg e], fun k => by rw [iv_mk, if_neg e], fun k => by rw [fl_mk, if_neg e]⟩
theorem Gr.setF1 {S : Nat → Bool} {h : Hp} {q : Nat} (k : Nat) (hq : S q = true) : Gr S h (setF h q k) := fun r hr => by
  have e : r ≠ q := fun z => by rw [z, hq] at hr; cases hr
  exact ⟨rfl, rfl, fun _ => rfl, fun j => by rw [fl_setF, if_neg (fun z => e z.1)]⟩
theorem Gr.setI1 {S : Nat → Bool} {h : Hp} {q : Nat} (k v : Int) (hq : S q = true) : Gr S h (setI h q k v) := fun r hr => by
  have e : r ≠ q := fun z => by rw [z, hq] at hr; cases hr
  exact ⟨rfl, rfl, fun _ => iv_ne e, fun _ => rfl⟩
def SB (l r : Nat) : Bool := Nat.ble (64 * (l + 1)) r && Nat.blt r (64 * (l + 1) + 64)
theorem SB_y {l r : Nat} (h1 : 64 * (l + 1) ≤ r) (h2 : r < 64 * (l + 1) + 64) : SB l r = true := by
  unfold SB
  rw [Nat.ble_eq_true_of_le h1, Nat.blt_eq.mpr h2]
  rfl
theorem SB_n {l r : Nat} (h : r < 64 * (l + 1) ∨ 64 * (l + 1) + 64 ≤ r) : SB l r = false := by
  cases hc : SB l r with
  | false => rfl
  | true =>
    simp only [SB, Bool.and_eq_true, Nat.ble_eq, Nat.blt_eq] at hc
    omega
theorem LTs.gr {S : Nat → Bool} {h h1 : Hp} (L : LTs h) (a : Gr S h h1) (s : S 501 = false) : LTs h1 := by
  obtain ⟨t, l, v⟩ := L
  exact ⟨by rw [(a _ s).1]; exact t, by rw [(a _ s).2.1]; exact l, fun k hk => by rw [(a _ s).2.2.1]; exact v k hk⟩
def LA0 (l M : Nat) (hc : Hp) : Prop := tg hc (64 * (l + 1)) = 4 ∧ fl hc (64 * (l + 1)) 0 = true ∧ fl hc (64 * (l + 1)) 1 = true ∧ tg hc (64 * (l + 1) + 1) = 24 ∧ ln hc (64 * (l + 1) + 1) = M ∧ tg hc (64 * (l + 1) + 2) = 25 ∧ ln hc (64 * (l + 1) + 2) = 3
theorem LA0.gp {l M : Nat} {h h1 : Hp} (w : LA0 l M h) (a : ∀ r, 64 * (l + 1) ≤ r → r ≤ 64 * (l + 1) + 2 → Gp h h1 r) : LA0 l M h1 := by
  have p0 := a (64 * (l + 1)) (by omega) (by omega)
  have p1 := a (64 * (l + 1) + 1) (by omega) (by omega)
  have p2 := a (64 * (l + 1) + 2) (by omega) (by omega)
  unfold LA0 at *
  rw [p0.1, p1.1, p2.1, p1.2.1, p2.2.1]
  exact ⟨w.1, p0.2.2.2 _ w.2.1, p0.2.2.2 _ w.2.2.1, w.2.2.2⟩
def LAc (l : Nat) (H : Nat → Int) (hc : Hp) (c : Nat) : Prop := fl hc (64 * (l + 1) + 1) c = true ∧ tg hc (64 * (l + 1) + 3 + c) = 2 ∧ iv hc (64 * (l + 1) + 3 + c) 0 = ltc (H (4 * c)) ∧ iv hc (64 * (l + 1) + 3 + c) 1 = H (4 * c + 1) - 48 ∧ iv hc (64 * (l + 1) + 3 + c) 2 = H (4 * c + 2) - 48
theorem LAc.gp {l c : Nat} {H : Nat → Int} {h h1 : Hp} (w : LAc l H h c) (a1 : Gp h h1 (64 * (l + 1) + 1)) (a : Gp h h1 (64 * (l + 1) + 3 + c)) : LAc l H h1 c := by
  unfold LAc at *
  rw [a.1, a.2.2.1, a.2.2.1, a.2.2.1]
  exact ⟨a1.2.2.2 _ w.1, w.2⟩
def LAj (l : Nat) (hc : Hp) (j : Nat) : Prop := fl hc (64 * (l + 1) + 2) j = true ∧ tg hc (64 * (l + 1) + 16 + 4 * j) = 6 ∧ fl hc (64 * (l + 1) + 16 + 4 * j) 0 = true ∧ fl hc (64 * (l + 1) + 16 + 4 * j) 1 = true ∧ tg hc (64 * (l + 1) + 17 + 4 * j) = 8 ∧ fl hc (64 * (l + 1) + 17 + 4 * j) 0 = true ∧ tg hc (64 * (l + 1) + 18 + 4 * j) = 20 ∧ ln hc (64 * (l + 1) + 18 + 4 * j) = 64 ∧ tg hc (64 * (l + 1) + 19 + 4 * j) = 20 ∧ ln hc (64 * (l + 1) + 19 + 4 * j) = 0 ∧ iv hc (64 * (l + 1) + 16 + 4 * j) 2 = 0
theorem LAj.gp {l j : Nat} {h h1 : Hp} (w : LAj l h j) (a2 : Gp h h1 (64 * (l + 1) + 2)) (a : ∀ k, k < 4 → Gp h h1 (64 * (l + 1) + (16 + k) + 4 * j)) : LAj l h1 j := by
  have q6 := a 0 (by decide)
  have q7 := a 1 (by decide)
  have q8 := a 2 (by decide)
  have q9 := a 3 (by decide)
  rw [show 64 * (l + 1) + (16 + 0) + 4 * j = 64 * (l + 1) + 16 + 4 * j by omega] at q6
  rw [show 64 * (l + 1) + (16 + 1) + 4 * j = 64 * (l + 1) + 17 + 4 * j by omega] at q7
  rw [show 64 * (l + 1) + (16 + 2) + 4 * j = 64 * (l + 1) + 18 + 4 * j by omega] at q8
  rw [show 64 * (l + 1) + (16 + 3) + 4 * j = 64 * (l + 1) + 19 + 4 * j by omega] at q9
  unfold LAj at *
  obtain ⟨m1, m2, m3, m4, m5, m6, m7, m8, m9, m10, m11⟩ := w
  rw [q6.1, q7.1, q8.1, q9.1, q8.2.1, q9.2.1, q6.2.2.1]
  exact ⟨a2.2.2.2 _ m1, m2, q6.2.2.2 _ m3, q6.2.2.2 _ m4, m5, q7.2.2.2 _ m6, m7, m8, m9, m10, m11⟩
def LA (h : Hp) (l M c : Nat) (H : Nat → Int) (hc : Hp) : Prop := Gr (SB l) h hc ∧ (ck hc = ck h + 3 + c ∧ cu hc = cu h + 5 + M + 3 * c) ∧ LA0 l M hc ∧ (∀ c', c' < c → LAc l H hc c') ∧ ∀ r, 64 * (l + 1) + 3 + c ≤ r → r < 64 * (l + 1) + 64 → tg hc r = 0 ∧ ln hc r = 0
def LJ (h : Hp) (l M j : Nat) (H : Nat → Int) (hc : Hp) : Prop := Gr (SB l) h hc ∧ (ck hc = ck h + 3 + M + 4 * j ∧ cu hc = cu h + 5 + 4 * M + 69 * j) ∧ LA0 l M hc ∧ (∀ c', c' < M → LAc l H hc c') ∧ (∀ j', j' < j → LAj l hc j') ∧ ∀ r, 64 * (l + 1) + 16 + 4 * j ≤ r → r < 64 * (l + 1) + 28 → tg hc r = 0 ∧ ln hc r = 0
theorem tg_setF (h : Hp) (r k q : Nat) : tg (setF h r k) q = tg h q := rfl
theorem iv_setF (h : Hp) (r k q : Nat) (z : Int) : iv (setF h r k) q z = iv h q z := rfl
section NEWLAW
variable {P : Value → Hp → Prop} {h : Hp}
theorem nl_causes {l M k i m : Nat} {H : Nat → Int} (hl : l < 4) (hM : M ≤ 6) (hk : k < 4) (L : LTs h) (ta : tg h (12 + k) = 20) (la : ln h (12 + k) = 60) (him : i + 4 * M ≤ 61) (hv : ∀ p, p + 1 < 4 * M → iv h (12 + k) ((i : Int) + (p : Nat)) = H p ∧ rng (H p)) (hd : ∀ c, c < M → (48 ≤ H (4 * c + 1) ∧ H (4 * c + 1) ≤ 57) ∧ 49 ≤ H (4 * c + 2) ∧ H (4 * c + 2) ≤ 51)
    (kk : ∀ hc a5, ngv a5 = true → LA h l M M H hc → R 44 93 [.ref (64 * (l + 1)), .ref (12 + k), .int (I (i : Nat)), .int (I (m : Nat)), .int (I 0), a5] [] hc P) : ∀ (r c : Nat) (hc : Hp) (a5 : Value), c + r = M → ngv a5 = true → LA h l M c H hc →
    R 44 27 [.ref (64 * (l + 1)), .ref (12 + k), .int (I (i : Nat)), .int (I (m : Nat)), .int (I (c : Nat)), a5] [] hc P := by
  intro r
  induction r with
  | zero =>
    intro c hc a5 hr h5 la_
    have e : c = M := by omega
    subst e
    have ⟨w1, w2, w3, w4, w5, w6, w7⟩ := la_.2.2.1
    refine t_Law_init_27 ?_
    rw [chl0 hl, w5]
    exact ⟨w1, w2, by omega, Or.inl (by omega), by omega, by omega, fun q => absurd q (by omega), fun _ => kk hc a5 h5 la_⟩
  | succ r ih =>
    intro c hc a5 hr h5 la_
    obtain ⟨g, cn, w, lc, z⟩ := id la_
    have ⟨w1, w2, w3, w4, w5, w6, w7⟩ := w
    have zq := z (64 * (l + 1) + 3 + c) (by omega) (by omega)
    have s12 : SB l (12 + k) = false := SB_n (by omega)
    have g12 := g _ s12
    have n1 : ¬ 12 + k = 64 * (l + 1) + 3 + c := by omega
    refine t_Law_init_27 ?_
    rw [chl0 hl, w5, wr_eq (show rng (c : Nat) by omega), show ((c : Nat) : Int).toNat = c from rfl]
    have e4 : ((i : Int) + 4 * (c : Int)) = (i : Int) + ((4 * c : Nat) : Int) := by omega
    obtain ⟨v1, r1⟩ := hv (4 * c) (by omega)
    obtain ⟨v2, r2⟩ := hv (4 * c + 1) (by omega)
    obtain ⟨v3, r3⟩ := hv (4 * c + 2) (by omega)
    obtain ⟨d1, d2⟩ := hd c (by omega)
    have i0 : ∀ x, iv (mk hc (64 * (l + 1) + 3 + c) 2 0 3) (12 + k) x = iv h (12 + k) x := fun x => by rw [iv_mk, if_neg n1]; exact g12.2.2.1 x
    rw [e4, i0, v1]
    have t0 : tg (mk hc (64 * (l + 1) + 3 + c) 2 0 3) (12 + k) = 20 := by rw [tg_mk, if_neg n1, g12.1]; exact ta
    have l0 : ln (mk hc (64 * (l + 1) + 3 + c) 2 0 3) (12 + k) = 60 := by rw [ln_mk, if_neg n1, g12.2.1]; exact la
    refine ⟨w1, w2, by omega, Or.inl (by omega), by omega, by omega, fun _ => ⟨w1, w2, by omega, zq.1, by omega, Or.inl t0, by omega, by omega, by omega, ?_⟩, fun q => absurd (by omega) q⟩
    have L1 : LTs (mk hc (64 * (l + 1) + 3 + c) 2 0 3) := (L.gr g (SB_n (by omega))).gr (Gr.mk1 (S := SB l) 2 0 3 (SB_y (by omega) (by omega))) (SB_n (by omega))
    refine s_letterOf L1 r1 (t_Law_init_62 ?_)
    have e5 : ((i : Int) + ((4 * c : Nat) : Int) + 1) = (i : Int) + ((4 * c + 1 : Nat) : Int) := by omega
    have e6 : ((i : Int) + ((4 * c : Nat) : Int) + 2) = (i : Int) + ((4 * c + 2 : Nat) : Int) := by omega
    rw [e5, e6, i0, i0, v2, v3, l0]
    refine ⟨Or.inl t0, by omega, by omega, by omega, Or.inl t0, by omega, by omega, by omega, t_Cause_init ?_⟩
    have tq : tg (mk hc (64 * (l + 1) + 3 + c) 2 0 3) (64 * (l + 1) + 3 + c) = 2 := by rw [tg_mk, if_pos rfl]
    have lb := ltc_bd (H (4 * c))
    rw [wr_eq (show rng (ltc (H (4 * c))) by omega), wr_eq (show rng (H (4 * c + 1) - 48) by omega), wr_eq (show rng (H (4 * c + 2) - 48) by omega)]
    refine ⟨tq, tq, tq, t_Law_init_83 ?_⟩
    have gp : ∀ x, x ≠ 64 * (l + 1) + 3 + c → Gp hc (setF (setI (setI (setI (mk hc (64 * (l + 1) + 3 + c) 2 0 3) (64 * (l + 1) + 3 + c) 0 (ltc (H (4 * c)))) (64 * (l + 1) + 3 + c) 1 (H (4 * c + 1) - 48)) (64 * (l + 1) + 3 + c) 2 (H (4 * c + 2) - 48)) (64 * (l + 1) + 1) c) x := fun x hx => ((((Gp.mk 2 0 3 hx).tr (Gp.setI _ _ hx)).tr (Gp.setI _ _ hx)).tr (Gp.setI _ _ hx)).tr (Gp.setF _ _ _ _)
    have g1 := gp (64 * (l + 1) + 1) (by omega)
    refine ⟨?_, ?_, by omega, ?_, (chlc hl (by omega)), ?_⟩
    · have t1 : tg (setI (setI (setI (mk hc (64 * (l + 1) + 3 + c) 2 0 3) (64 * (l + 1) + 3 + c) 0 (ltc (H (4 * c)))) (64 * (l + 1) + 3 + c) 1 (H (4 * c + 1) - 48)) (64 * (l + 1) + 3 + c) 2 (H (4 * c + 2) - 48)) (64 * (l + 1) + 1) = 24 := g1.1.trans w4
      have t2 : tg (setI (setI (setI (mk hc (64 * (l + 1) + 3 + c) 2 0 3) (64 * (l + 1) + 3 + c) 0 (ltc (H (4 * c)))) (64 * (l + 1) + 3 + c) 1 (H (4 * c + 1) - 48)) (64 * (l + 1) + 3 + c) 2 (H (4 * c + 2) - 48)) (64 * (l + 1) + 3 + c) = 2 := tq
      rw [t1, t2]
      rfl
    · have := g1.2.1
      show (ln _ _ : Int) ≤ _
      have e : ln (setI (setI (setI (mk hc (64 * (l + 1) + 3 + c) 2 0 3) (64 * (l + 1) + 3 + c) 0 (ltc (H (4 * c)))) (64 * (l + 1) + 3 + c) 1 (H (4 * c + 1) - 48)) (64 * (l + 1) + 3 + c) 2 (H (4 * c + 2) - 48)) (64 * (l + 1) + 1) = M := g1.2.1.trans w5
      rw [e]; omega
    · have e : ln (setI (setI (setI (mk hc (64 * (l + 1) + 3 + c) 2 0 3) (64 * (l + 1) + 3 + c) 0 (ltc (H (4 * c)))) (64 * (l + 1) + 3 + c) 1 (H (4 * c + 1) - 48)) (64 * (l + 1) + 3 + c) 2 (H (4 * c + 2) - 48)) (64 * (l + 1) + 1) = M := g1.2.1.trans w5
      rw [e]; omega
    · refine ih (c + 1) _ _ (by omega) rfl ⟨?_, ?_, w.gp fun x h1 h2 => gp x (by omega), fun c' hc' => ?_, fun x h1 h2 => ?_⟩
      · have sq : SB l (64 * (l + 1) + 3 + c) = true := SB_y (by omega) (by omega)
        exact ((((g.tr (Gr.mk1 2 0 3 sq)).tr (Gr.setI1 _ _ sq)).tr (Gr.setI1 _ _ sq)).tr (Gr.setI1 _ _ sq)).tr (Gr.setF1 _ (SB_y (by omega) (by omega)))
      · show ck hc + 1 = _ ∧ cu hc + 3 = _
        omega
      · by_cases e : c' = c
        · subst e
          refine ⟨by rw [fl_setF]; exact if_pos ⟨rfl, rfl⟩, tq, ?_, ?_, ?_⟩
          · show iv (setI _ _ _ _) _ _ = _
            rw [iv_nk (by decide), iv_nk (by decide), iv_eq]
          · show iv (setI _ _ _ _) _ _ = _
            rw [iv_nk (by decide), iv_eq]
          · show iv (setI _ _ _ _) _ _ = _
            rw [iv_eq]
        · exact (lc c' (by omega)).gp g1 (gp _ (by omega))
      · obtain ⟨z1, z2⟩ := z x (by omega) h2
        have q := gp x (by omega)
        exact ⟨q.1.trans z1, q.2.1.trans z2⟩
theorem nl_motions {l M k : Nat} {H : Nat → Int} (hl : l < 4) (hM : M ≤ 6) (hk : k < 4) {a2 a3 : Int} (kk : ∀ hc, LJ h l M 3 H hc → P .null hc) : ∀ (r j : Nat) (hc : Hp) (a5 : Value), j + r = 3 → ngv a5 = true → LJ h l M j H hc →
    R 44 93 [.ref (64 * (l + 1)), .ref (12 + k), .int (I a2), .int (I a3), .int (I (j : Nat)), a5] [] hc P := by
  intro r
  induction r with
  | zero =>
    intro j hc a5 hr h5 la_
    have e : j = 3 := by omega
    subst e
    exact t_Law_init_93 ⟨by omega, fun q => absurd q (by omega), fun _ => kk hc la_⟩
  | succ r ih =>
    intro j hc a5 hr h5 la_
    obtain ⟨g, cn, w, lc, lj, z⟩ := id la_
    have ⟨w1, w2, w3, w4, w5, w6, w7⟩ := w
    have hj : j < 3 := by omega
    obtain ⟨ch1, ch2, ch3, ch4'⟩ := chlm hl hj
    obtain ⟨gm, gr_, gs, gq⟩ := gwm hl hj
    have z6 := z (64 * (l + 1) + 16 + 4 * j) (by omega) (by omega)
    have z7 := z (64 * (l + 1) + 16 + 4 * j + 1) (by omega) (by omega)
    have z8 := z (64 * (l + 1) + 16 + 4 * j + 1 + 1) (by omega) (by omega)
    have z9 := z (64 * (l + 1) + 16 + 4 * j + 3) (by omega) (by omega)
    have e17 : 64 * (l + 1) + 17 + 4 * j = 64 * (l + 1) + 16 + 4 * j + 1 := by omega
    have e18 : 64 * (l + 1) + 18 + 4 * j = 64 * (l + 1) + 16 + 4 * j + 1 + 1 := by omega
    have e19 : 64 * (l + 1) + 19 + 4 * j = 64 * (l + 1) + 16 + 4 * j + 3 := by omega
    rw [e17] at ch2 gr_ ch4'
    rw [e18] at ch4'
    rw [e19] at ch3
    have gb := gwl hl
    refine t_Law_init_93 ⟨by omega, fun _ => ?_, fun q => absurd (by omega) q⟩
    rw [chl1 hl, wr_eq (show rng (j : Nat) by omega), show ((j : Nat) : Int).toNat = j from rfl]
    have g2b : gw (64 * (l + 1) + 2) = false := by
      have e : l = 0 ∨ l = 1 ∨ l = 2 ∨ l = 3 := by omega
      rcases e with rfl | rfl | rfl | rfl <;> rfl
    refine ⟨w1, w3, by omega, z6.1, by omega, okg_i rfl rfl rfl rfl ?_, t_Motion_init ⟨?_, by omega, okg_i rfl rfl rfl rfl ?_, t_Rule_init ⟨?_, by omega, ?_, ch4', t_Motion_init_12 ⟨?_, Or.inl ch2.symm, fun _ => ⟨?_, by omega, ?_, ch3, ?_⟩, fun q => absurd q (by omega)⟩⟩⟩⟩
    · simp only [ng, List.all_cons, List.all_nil, h5]
      simp only [ngv, gb, gw12 hk, gm, g2b, Bool.not_false, Bool.and_true]
      rfl
    · rw [tg_mk, if_neg (by omega)]; exact z7.1
    · simp only [ng, List.all_cons, List.all_nil, ngv, gm, gr_, Bool.not_false, Bool.and_true]
      rfl
    · rw [tg_mk, if_neg (by omega), tg_mk, if_neg (by omega)]; exact z8.1
    · rw [tg_mk, if_neg (by omega), tg_mk, if_pos rfl]
    · rw [tg_setF, tg_mk, if_neg (by omega), tg_mk, if_neg (by omega), tg_mk, if_pos rfl]
    · rw [tg_setF, tg_setF, tg_mk, if_neg (by omega), tg_mk, if_neg (by omega), tg_mk, if_neg (by omega)]
      exact z9.1
    · rw [tg_mk, if_neg (by omega), tg_setF, tg_setF, tg_mk, if_neg (by omega), tg_mk, if_neg (by omega), tg_mk, if_pos rfl]
    · show R 44 112 _ _ (setF (mk (setF (setF (mk (mk (mk hc (64 * (l + 1) + 16 + 4 * j) 6 0 3) (64 * (l + 1) + 16 + 4 * j + 1) 8 0 2) (64 * (l + 1) + 16 + 4 * j + 1 + 1) 20 64 64) (64 * (l + 1) + 16 + 4 * j + 1) 0) (64 * (l + 1) + 16 + 4 * j) 0) (64 * (l + 1) + 16 + 4 * j + 3) 20 0 0) (64 * (l + 1) + 16 + 4 * j) 1) P
      have gp : ∀ x, x ≠ 64 * (l + 1) + 16 + 4 * j → x ≠ 64 * (l + 1) + 16 + 4 * j + 1 → x ≠ 64 * (l + 1) + 16 + 4 * j + 1 + 1 → x ≠ 64 * (l + 1) + 16 + 4 * j + 3 → Gp hc (setF (setF (mk (setF (setF (mk (mk (mk hc (64 * (l + 1) + 16 + 4 * j) 6 0 3) (64 * (l + 1) + 16 + 4 * j + 1) 8 0 2) (64 * (l + 1) + 16 + 4 * j + 1 + 1) 20 64 64) (64 * (l + 1) + 16 + 4 * j + 1) 0) (64 * (l + 1) + 16 + 4 * j) 0) (64 * (l + 1) + 16 + 4 * j + 3) 20 0 0) (64 * (l + 1) + 16 + 4 * j) 1) (64 * (l + 1) + 2) j) x := fun x q6 q7 q8 q9 => (((((((Gp.mk 6 0 3 q6).tr (Gp.mk 8 0 2 q7)).tr (Gp.mk 20 64 64 q8)).tr (Gp.setF _ _ _ _)).tr (Gp.setF _ _ _ _)).tr (Gp.mk 20 0 0 q9)).tr (Gp.setF _ _ _ _)).tr (Gp.setF _ _ _ _)
      have g2 := gp (64 * (l + 1) + 2) (by omega) (by omega) (by omega) (by omega)
      have tt : ∀ x, tg (setF (setF (mk (setF (setF (mk (mk (mk hc (64 * (l + 1) + 16 + 4 * j) 6 0 3) (64 * (l + 1) + 16 + 4 * j + 1) 8 0 2) (64 * (l + 1) + 16 + 4 * j + 1 + 1) 20 64 64) (64 * (l + 1) + 16 + 4 * j + 1) 0) (64 * (l + 1) + 16 + 4 * j) 0) (64 * (l + 1) + 16 + 4 * j + 3) 20 0 0) (64 * (l + 1) + 16 + 4 * j) 1) (64 * (l + 1) + 2) j) x = if x = 64 * (l + 1) + 16 + 4 * j + 3 then 20 else if x = 64 * (l + 1) + 16 + 4 * j + 1 + 1 then 20 else if x = 64 * (l + 1) + 16 + 4 * j + 1 then 8 else if x = 64 * (l + 1) + 16 + 4 * j then 6 else tg hc x := fun _ => rfl
      have ll : ∀ x, ln (setF (setF (mk (setF (setF (mk (mk (mk hc (64 * (l + 1) + 16 + 4 * j) 6 0 3) (64 * (l + 1) + 16 + 4 * j + 1) 8 0 2) (64 * (l + 1) + 16 + 4 * j + 1 + 1) 20 64 64) (64 * (l + 1) + 16 + 4 * j + 1) 0) (64 * (l + 1) + 16 + 4 * j) 0) (64 * (l + 1) + 16 + 4 * j + 3) 20 0 0) (64 * (l + 1) + 16 + 4 * j) 1) (64 * (l + 1) + 2) j) x = if x = 64 * (l + 1) + 16 + 4 * j + 3 then 0 else if x = 64 * (l + 1) + 16 + 4 * j + 1 + 1 then 64 else if x = 64 * (l + 1) + 16 + 4 * j + 1 then 0 else if x = 64 * (l + 1) + 16 + 4 * j then 0 else ln hc x := fun _ => rfl
      have tb : ∀ x, tg (setF (mk (setF (setF (mk (mk (mk hc (64 * (l + 1) + 16 + 4 * j) 6 0 3) (64 * (l + 1) + 16 + 4 * j + 1) 8 0 2) (64 * (l + 1) + 16 + 4 * j + 1 + 1) 20 64 64) (64 * (l + 1) + 16 + 4 * j + 1) 0) (64 * (l + 1) + 16 + 4 * j) 0) (64 * (l + 1) + 16 + 4 * j + 3) 20 0 0) (64 * (l + 1) + 16 + 4 * j) 1) x = if x = 64 * (l + 1) + 16 + 4 * j + 3 then 20 else if x = 64 * (l + 1) + 16 + 4 * j + 1 + 1 then 20 else if x = 64 * (l + 1) + 16 + 4 * j + 1 then 8 else if x = 64 * (l + 1) + 16 + 4 * j then 6 else tg hc x := fun _ => rfl
      have lb : ln (setF (mk (setF (setF (mk (mk (mk hc (64 * (l + 1) + 16 + 4 * j) 6 0 3) (64 * (l + 1) + 16 + 4 * j + 1) 8 0 2) (64 * (l + 1) + 16 + 4 * j + 1 + 1) 20 64 64) (64 * (l + 1) + 16 + 4 * j + 1) 0) (64 * (l + 1) + 16 + 4 * j) 0) (64 * (l + 1) + 16 + 4 * j + 3) 20 0 0) (64 * (l + 1) + 16 + 4 * j) 1) (64 * (l + 1) + 2) = 3 := g2.2.1.trans w7
      refine t_Law_init_112 ⟨?_, ?_, by omega, ?_, ch1, ?_⟩
      · rw [tb, tb, if_neg (by omega), if_neg (by omega), if_neg (by omega), if_neg (by omega), w6, if_neg (by omega), if_neg (by omega), if_neg (by omega), if_pos rfl]
        rfl
      · rw [lb]; decide
      · rw [lb]; omega
      · have sq : ∀ x, 64 * (l + 1) ≤ x → x < 64 * (l + 1) + 64 → SB l x = true := fun x h1 h2 => SB_y h1 h2
        rw [show ((j : Nat) : Int).toNat = j from rfl]
        refine ih (j + 1) _ _ (by omega) h5 ⟨?_, ?_, w.gp fun x h1 h2 => gp x (by omega) (by omega) (by omega) (by omega), fun c' hc' => ?_, fun j' hj' => ?_, fun x h1 h2 => ?_⟩
        · exact (((((((g.tr (Gr.mk1 6 0 3 (sq _ (by omega) (by omega)))).tr (Gr.mk1 8 0 2 (sq _ (by omega) (by omega)))).tr (Gr.mk1 20 64 64 (sq _ (by omega) (by omega)))).tr (Gr.setF1 _ (sq _ (by omega) (by omega)))).tr (Gr.setF1 _ (sq _ (by omega) (by omega)))).tr (Gr.mk1 20 0 0 (sq _ (by omega) (by omega)))).tr (Gr.setF1 _ (sq _ (by omega) (by omega)))).tr (Gr.setF1 _ (sq _ (by omega) (by omega)))
        · show ck hc + 1 + 1 + 1 + 1 = _ ∧ cu hc + 3 + 2 + 64 + 0 = _
          omega
        · exact (lc c' hc').gp (gp _ (by omega) (by omega) (by omega) (by omega)) (gp _ (by omega) (by omega) (by omega) (by omega))
        · by_cases e : j' = j
          · subst e
            unfold LAj
            rw [e17, e18, e19, tt, tt, tt, tt, ll, ll, if_neg (by omega), if_neg (by omega), if_neg (by omega), if_pos rfl, if_neg (by omega), if_neg (by omega), if_pos rfl, if_neg (by omega), if_pos rfl, if_pos rfl, if_neg (by omega), if_pos rfl, if_pos rfl]
            refine ⟨by rw [fl_setF]; exact if_pos ⟨rfl, rfl⟩, rfl, ?_, ?_, rfl, ?_, rfl, rfl, rfl, rfl, ?_⟩
            · rw [fl_setF, if_neg (by omega), fl_setF, if_neg (by omega), fl_mk, if_neg (by omega), fl_setF, if_pos ⟨rfl, rfl⟩]
            · rw [fl_setF, if_neg (by omega), fl_setF, if_pos ⟨rfl, rfl⟩]
            · rw [fl_setF, if_neg (by omega), fl_setF, if_neg (by omega), fl_mk, if_neg (by omega), fl_setF, if_neg (by omega), fl_setF, if_pos ⟨rfl, rfl⟩]
            · rw [iv_setF, iv_setF, iv_mk, if_neg (by omega), iv_setF, iv_setF, iv_mk, if_neg (by omega), iv_mk, if_neg (by omega), iv_mk, if_pos rfl]
          · refine (lj j' (by omega)).gp g2 fun k hk => gp _ (by omega) (by omega) (by omega) (by omega)
        · obtain ⟨z1, z2⟩ := z x (by omega) h2
          have q := gp x (by omega) (by omega) (by omega) (by omega)
          exact ⟨q.1.trans z1, q.2.1.trans z2⟩
end NEWLAW
