/-! The law's soon: how soon a grain is on top. -/
theorem gw4 {r : Nat} (h : 10000 ≤ r) : gw r = false := by
  cases hx : gw r with
  | false => rfl
  | true =>
    simp only [gw, Bool.or_eq_true, Bool.and_eq_true, beq_iff_eq, decide_eq_true_eq] at hx
    omega
theorem nv {r : Nat} (h : 10000 ≤ r) : ngv (.ref r) = true := by
  show (!gw r) = true
  rw [gw4 h]
  rfl
theorem ng_c {v : Value} {l : List Value} (h : ngv v = true) (hl : ng l = true) : ng (v :: l) = true := by
  show (ngv v && ng l) = true
  rw [h, hl]
  rfl
theorem ng_ok {m : Nat} {ls : List Value} (hm : mv m = true) (h : ng ls = true) : (mv m && ng ls && ng []) = true := by
  rw [hm, h]
  rfl
theorem itr_add {f : Nat → Nat} (x b : Nat) : ∀ a, itr f (a + b) x = itr f a (itr f b x)
  | 0 => by rw [Nat.zero_add]; rfl
  | a + 1 => by
    rw [Nat.add_right_comm]
    show f _ = f _
    rw [itr_add x b a]
theorem FZ.fr {S : Nat → Bool} {h h1 : Hp} (z : FZ h) (a : Fr S h h1) : FZ h1 := fun r hr => by
  rw [a.c.1] at hr
  rw [a.t]
  exact z r hr
theorem FZ.mk {h : Hp} (z : FZ h) (t n u : Nat) : FZ (mk h (10000 + ck h) t n u) := fun r hr => by
  have hr : 10000 + (ck h + 1) ≤ r := hr
  rw [tg_mk, if_neg (by omega)]
  exact z r (by omega)
/-- what was there stays; so many are made -/
def NW (h h' : Hp) (c : Nat) : Prop := (∀ r, r < 10000 + ck h → Gp h h' r) ∧ FZ h' ∧ (ck h ≤ ck h' ∧ ck h' ≤ ck h + c) ∧ cu h ≤ cu h' ∧ cu h' ≤ cu h + 7 * c
theorem NW.tr {h h1 h2 : Hp} {a b : Nat} (p : NW h h1 a) (q : NW h1 h2 b) : NW h h2 (a + b) := by
  obtain ⟨p1, p2, ⟨p3, p4⟩, p5, p6⟩ := p
  obtain ⟨q1, q2, ⟨q3, q4⟩, q5, q6⟩ := q
  exact ⟨fun r hr => (p1 r hr).tr (q1 r (by omega)), q2, ⟨by omega, by omega⟩, by omega, by omega⟩
theorem NW.le {h h1 : Hp} {a b : Nat} (p : NW h h1 a) (e : a ≤ b) : NW h h1 b := by
  obtain ⟨p1, p2, ⟨p3, p4⟩, p5, p6⟩ := p
  exact ⟨p1, p2, ⟨p3, by omega⟩, p5, by omega⟩
/-- only what was made since changes -/
theorem NW.fr {h h1 h2 : Hp} {a Q : Nat} (p : NW h h1 a) (q : Fr (fun r => r == Q) h1 h2) (hQ : 10000 + ck h ≤ Q) : NW h h2 a := by
  obtain ⟨p1, p2, ⟨p3, p4⟩, p5, p6⟩ := p
  have c := q.c
  exact ⟨fun r hr => (p1 r hr).tr (q.gp1 (by omega)), p2.fr q, ⟨by omega, by omega⟩, by omega, by omega⟩
theorem NW.mk7 {h : Hp} (z : FZ h) : NW h (mk h (10000 + ck h) 20 (7 : Int).toNat (7 : Int).toNat) 1 := by
  have e1 : ck (mk h (10000 + ck h) 20 (7 : Int).toNat (7 : Int).toNat) = ck h + 1 := rfl
  have e2 : cu (mk h (10000 + ck h) 20 (7 : Int).toNat (7 : Int).toNat) = cu h + 7 := rfl
  exact ⟨fun r hr => Gp.mk _ _ _ (by omega), z.mk _ _ _, ⟨by omega, by omega⟩, by omega, by omega⟩
theorem mk7 (h : Hp) (Q : Nat) : tg (mk h Q 20 (7 : Int).toNat (7 : Int).toNat) Q = 20 ∧ ln (mk h Q 20 (7 : Int).toNat (7 : Int).toNat) Q = 7 := ⟨by rw [tg_mk, if_pos rfl], by rw [ln_mk, if_pos rfl]; rfl⟩
section SOON
variable {n : Nat} {d : Nat → Nat → Int} {P : Value → Hp → Prop} {h : Hp}
theorem AR.cl {r W : Nat} (hn : 2 ≤ n ∧ n ≤ 7) (ar : AR n r W h) : iv h W ((n : Int) - 1) = (dg r (n - 1) : Nat) := by
  have := ar.2 (n - 1) (by omega)
  rw [← this]
  congr 1
  omega
theorem fh_row {l lie : Nat} {hd lo : Int} (hn : 2 ≤ n ∧ n ≤ 7) (hl : lie < fct n) : fh d n l hd lo lie < fct n ∧ rw_ n (fh d n l hd lo lie) = shk (chg d l hd lo) n (rw_ n lie) := nxc_row hn hl
def Rnd (f : Nat → Nat) (Q : Nat → Prop) (y : Nat) : Prop := ∃ j, itr f (j + 1) y = y ∧ ∀ i, 1 ≤ i → i ≤ j + 1 → ¬ Q (itr f i y)
theorem Lround_loop {G L W Q l y : Nat} {g hard lo : Int} {h0 : Hp} (hn : 2 ≤ n ∧ n ≤ 7) (hb : GB n d) (lb : LB d l) (hh : rng hard) (hlo : rng lo) (hg : rng g) (hQ : Q = 10000 + ck h0) (hG : G < Q) (hL : L < Q) (hW : W < Q) (ag0 : AG n d G h0) (al0 : AL d l L h0) (hy : y < fct n) (ar0 : AR n (rw_ n y) W h0)
    (kk : ∀ h' v, NW h0 h' 1 → (v = 0 ∨ (v = 1 ∧ Rnd (fh d n l hard lo) (topQ n g) y)) → P (.int (I v)) h') : ∀ (k i : Nat) (h : Hp), i + k = 40 → NW h0 h 1 → AR n (rw_ n (itr (fh d n l hard lo) i y)) Q h → (∀ t, 1 ≤ t → t ≤ i → ¬ topQ n g (itr (fh d n l hard lo) t y)) →
    R 98 34 [.ref G, .ref L, .int (I lo), .ref W, .int (I g), .int (I hard), .ref Q, .int (I (i : Nat))] [] h P := by
  intro k
  induction k with
  | zero =>
    intro i h hi nw ar no
    exact t_L_isRound_34 ⟨by omega, fun q => absurd q (by omega), fun _ => kk h 0 nw (Or.inl rfl)⟩
  | succ k ih =>
    intro i h hi nw ar no
    refine t_L_isRound_34 ⟨by omega, fun _ => ?_, fun q => absurd (by omega) q⟩
    have hx : itr (fh d n l hard lo) i y < fct n := itr_lt (fh_lt hn) hy i
    refine s_Lshake hn hb lb (by omega) (by omega) hh hlo (ag0.gp (nw.1 G (by omega))) (al0.gp (nw.1 L (by omega))) ⟨_, hx, rfl⟩ ar fun h1 f1 r1 => ?_
    rw [← (fh_row hn hx).2] at r1
    have r1 : AR n (rw_ n (itr (fh d n l hard lo) (i + 1) y)) Q h1 := r1
    have nw1 : NW h0 h1 1 := nw.fr f1 (by omega)
    have ag1 := ag0.gp (nw1.1 G (by omega))
    obtain ⟨⟨gt, gl⟩, g24, ga⟩ := id ag1
    obtain ⟨⟨wt, wl⟩, wa⟩ := id r1
    have hx1 : itr (fh d n l hard lo) (i + 1) y < fct n := itr_lt (fh_lt hn) hy (i + 1)
    have b := dg_lt (rw_ n (itr (fh d n l hard lo) (i + 1) y)) (n - 1)
    refine t_L_isRound_51 ?_
    rw [g24, gl, wl, r1.cl hn]
    refine ⟨Or.inl gt, by omega, by omega, Or.inl wt, by omega, by omega, by omega, by omega, hg, fun _ => kk h1 0 nw1 (Or.inl rfl), fun q => ?_⟩
    have ar1 := ar0.gp (nw1.1 W (by omega))
    have no1 : ∀ t, 1 ≤ t → t ≤ i + 1 → ¬ topQ n g (itr (fh d n l hard lo) t y) := fun t t1 t2 => by
      by_cases c : t ≤ i
      · exact no t t1 c
      · rw [show t = i + 1 by omega]; exact q
    refine s_Lnumber hn ag1 r1 (t_L_isRound_74 (s_Lnumber hn ag1 ar1 (t_L_isRound_79 ?_)))
    rw [(rank_facts hn hx1).1, (rank_facts hn hy).1]
    have f5 := fct_le hn.2
    refine ⟨by omega, by omega, fun q2 => kk h1 1 nw1 (Or.inr ⟨rfl, i, Int.ofNat.inj q2, no1⟩), fun _ => ?_⟩
    exact ih (i + 1) h1 (by omega) nw1 r1 no1
theorem Lround_copy {G L W Q y : Nat} {g hard lo : Int} {h0 : Hp} (hQ : Q = 10000 + ck h0) (hW : W < Q) (ar0 : AR n y W h0) (hn : n ≤ 7)
    (kk : ∀ h, NW h0 h 1 → AR n y Q h → R 98 34 [.ref G, .ref L, .int (I lo), .ref W, .int (I g), .int (I hard), .ref Q, .int (I 0)] [] h P) : ∀ (k p : Nat) (h : Hp), p + k = 7 → NW h0 h 1 → tg h Q = 20 → ln h Q = 7 → (∀ q : Nat, q < p → q < n → iv h Q (q : Nat) = (dg y q : Nat)) →
    R 98 9 [.ref G, .ref L, .int (I lo), .ref W, .int (I g), .int (I hard), .ref Q, .int (I (p : Nat))] [] h P := by
  intro k
  induction k with
  | zero =>
    intro p h hp nw t l hv
    exact t_L_isRound_9 ⟨by omega, fun q => absurd q (by omega), fun _ => kk h nw ⟨⟨t, l⟩, fun q hq => hv q (by omega) hq⟩⟩
  | succ k ih =>
    intro p h hp nw t l hv
    have ar := ar0.gp (nw.1 W (by omega))
    obtain ⟨⟨wt, wl⟩, wa⟩ := id ar
    refine t_L_isRound_9 ?_
    rw [wl, l]
    refine ⟨by omega, fun _ => ⟨Or.inl wt, by omega, by omega, by omega, t, by omega, by omega, by omega, ?_⟩, fun q => absurd (by omega) q⟩
    have fr : Fr (fun q => q == Q) h (setI h Q (p : Nat) (wr (iv h W (p : Nat)))) := Fr.set (S := fun q => q == Q) h _ _ (beq_self_eq_true Q)
    refine ih (p + 1) _ (by omega) (nw.fr fr (by omega)) t l fun q hq hqn => ?_
    rw [iv_setI]
    by_cases c : q = p
    · have b := dg_lt y p
      rw [if_pos ⟨rfl, by omega⟩, c, wa p (by omega), wr_eq (by omega)]
    · rw [if_neg (by omega)]; exact hv q (by omega) hqn
theorem s_LisRound {G L W l y : Nat} {g hard lo : Int} (hn : 2 ≤ n ∧ n ≤ 7) (hb : GB n d) (lb : LB d l) (hh : rng hard) (hlo : rng lo) (hg : rng g) (z : FZ h) (hG : G < 10000 + ck h) (hL : L < 10000 + ck h) (hW : W < 10000 + ck h) (ag : AG n d G h) (al : AL d l L h) (hy : y < fct n) (ar : AR n (rw_ n y) W h)
    (kk : ∀ h' v, NW h h' 1 → (v = 0 ∨ (v = 1 ∧ Rnd (fh d n l hard lo) (topQ n g) y)) → P (.int (I v)) h') : R 98 0 [.ref G, .ref L, .int (I lo), .ref W, .int (I g), .int (I hard), .retAddr 0, .retAddr 0] [] h P := by
  obtain ⟨m1, m2⟩ := mk7 h (10000 + ck h)
  refine t_L_isRound ⟨z _ (Nat.le_refl _), ?_⟩
  exact Lround_copy rfl hW ar hn.2 (fun h1 nw ar1 => Lround_loop hn hb lb hh hlo hg rfl hG hL hW ag al hy ar kk 40 0 h1 (by omega) nw ar1 fun t t1 t2 => by omega) 7 0 _ (by omega) (NW.mk7 z) m1 m2 fun q hq => absurd hq (Nat.not_lt_zero q)
theorem Lsoon_prod {G L W : Nat} {g hard lo : Int} {a4 : Value} (hn : 2 ≤ n ∧ n ≤ 7) (ag : AG n d G h) (kk : R 97 45 [.ref G, .ref L, .int (I lo), .int (I g), a4, .int (I hard), .ref W, .int (I (fct n : Nat)), .int (I 0)] [] h P) : ∀ (j m : Nat), 1 ≤ m → m + j = n →
    R 97 20 [.ref G, .ref L, .int (I lo), .int (I g), a4, .int (I hard), .ref W, .int (I (fct m : Nat)), .int (I ((m : Nat) + 1))] [] h P := by
  obtain ⟨⟨gt, gl⟩, g24, ga⟩ := id ag
  intro j
  induction j with
  | zero =>
    intro m h1 hm
    refine t_L_soon_20 ?_
    rw [g24, gl]
    refine ⟨Or.inl gt, by omega, by omega, by omega, by omega, fun _ => ?_, fun q => absurd (by omega) q⟩
    rw [show m = n by omega]
    exact kk
  | succ j ih =>
    intro m h1 hm
    refine t_L_soon_20 ?_
    rw [g24, gl]
    refine ⟨Or.inl gt, by omega, by omega, by omega, by omega, fun q => absurd q (by omega), fun _ => ?_⟩
    have z := ih (m + 1) (by omega) (by omega)
    have e : ((fct (m + 1) : Nat) : Int) = (fct m : Nat) * ((m : Nat) + 1) := by
      rw [fct, Int.natCast_mul, Int.natCast_add, Int.mul_comm]
      rfl
    rw [e, Int.natCast_add] at z
    exact z
theorem Lsoon_loop {G L W l x : Nat} {g hard lo : Int} {a4 : Int} {h0 : Hp} (hn : 2 ≤ n ∧ n ≤ 6) (hb : GB n d) (lb : LB d l) (hh : rng hard) (hlo : rng lo) (hg : rng g) (hW : W = 10000 + ck h0) (hG : 10000 ≤ G ∧ G < W) (hL : 10000 ≤ L ∧ L < W) (ag0 : AG n d G h0) (al0 : AL d l L h0) (hx : x < fct n)
    (kk : ∀ h', NW h0 h' 100 → P (.int (I (cnt9 (fstV (fh d n l hard lo) (topQ n g) x)))) h') : ∀ (k s : Nat) (h : Hp), s + k = fct n + 1 → NW h0 h (1 + (s + 7) / 8) → 10000 + ck h0 < 10000 + ck h → AR n (rw_ n (itr (fh d n l hard lo) s x)) W h → (∀ i, i < s → ¬ topQ n g (itr (fh d n l hard lo) i x)) →
    R 97 45 [.ref G, .ref L, .int (I lo), .int (I g), .int (I a4), .int (I hard), .ref W, .int (I (fct n : Nat)), .int (I (s : Nat))] [] h P := by
  have hn7 : 2 ≤ n ∧ n ≤ 7 := ⟨hn.1, by omega⟩
  have f5 : fct n ≤ 720 := by
    have : n = 2 ∨ n = 3 ∨ n = 4 ∨ n = 5 ∨ n = 6 := by omega
    rcases this with rfl | rfl | rfl | rfl | rfl <;> decide
  intro k
  induction k with
  | zero =>
    intro s h hs nw hc ar no
    refine t_L_soon_45 ⟨by omega, by omega, fun _ => ?_, fun q => absurd (by omega) q⟩
    have e := fstV_eq (Fst.all (f := fh d n l hard lo) (Q := topQ n g) (fh_lt hn7) hx fun i hi => no i (by omega))
    have := kk h (nw.le (by omega))
    rw [← e] at this
    exact this
  | succ k ih =>
    intro s h hs nw hc ar no
    have ag := ag0.gp (nw.1 G (by omega))
    have al := al0.gp (nw.1 L (by omega))
    obtain ⟨⟨gt, gl⟩, g24, ga⟩ := id ag
    obtain ⟨⟨wt, wl⟩, wa⟩ := id ar
    have hxs : itr (fh d n l hard lo) s x < fct n := itr_lt (fh_lt hn7) hx s
    have b := dg_lt (rw_ n (itr (fh d n l hard lo) s x)) (n - 1)
    refine t_L_soon_45 ?_
    rw [g24, gl, wl, ar.cl hn7]
    have nt : ¬ topQ n g (itr (fh d n l hard lo) s x) → ∀ (h1 : Hp), NW h0 h1 (1 + (s + 1 + 7) / 8) → 10000 + ck h0 < 10000 + ck h1 → AG n d G h1 → AL d l L h1 → AR n (rw_ n (itr (fh d n l hard lo) s x)) W h1 → R 97 101 [.ref G, .ref L, .int (I lo), .int (I g), .int (I a4), .int (I hard), .ref W, .int (I (fct n : Nat)), .int (I (s : Nat))] [] h1 P := fun q h1 nw1 hc1 ag1 al1 ar1 => by
      refine t_L_soon_101 (s_Lshake hn7 hb lb (by omega) (by omega) hh hlo ag1 al1 ⟨_, hxs, rfl⟩ ar1 fun h2 f2 r2 => t_L_soon_111 ?_)
      rw [← (fh_row hn7 hxs).2] at r2
      have cc := f2.c
      refine ih (s + 1) h2 (by omega) (nw1.fr f2 (by omega)) (by omega) r2 fun i hi => ?_
      by_cases c : i < s
      · exact no i c
      · rw [show i = s by omega]; exact q
    refine ⟨by omega, by omega, fun q => absurd q (by omega), fun _ => ⟨Or.inl gt, by omega, by omega, Or.inl wt, by omega, by omega, by omega, by omega, hg, fun q => ?_, fun q => ⟨by omega, fun q2 => ⟨by omega, by omega, fun q3 => ?_, fun q3 => nt q h (nw.le (by omega)) hc ag al ar⟩, fun q2 => nt q h (nw.le (by omega)) hc ag al ar⟩⟩⟩
    · have e := fstV_eq (f := fh d n l hard lo) (Q := topQ n g) (x := x) (Or.inr ⟨s, rfl, q, no⟩)
      have := kk h (nw.le (by omega))
      rw [← e] at this
      unfold cnt9 at this
      rw [if_neg (by omega)] at this
      exact this
    · have s8 : s % 8 = 0 := by omega
      refine ⟨okg_i rfl rfl rfl rfl (ng_ok rfl (ng_c (nv hG.1) (ng_c (nv hL.1) (ng_c rfl (ng_c rfl (ng_c rfl (ng_c rfl (ng_c (nv (by omega)) (ng_c rfl (ng_c rfl rfl)))))))))), s_LisRound hn7 hb lb hh hlo hg nw.2.1 (by omega) (by omega) (by omega) ag al hxs ar fun h1 v nw1 hv => ?_⟩
      have nw2 : NW h0 h1 (1 + (s + 1 + 7) / 8) := (nw.tr nw1).le (by omega)
      refine t_L_soon_94 ⟨by omega, fun q4 => ?_, fun q4 => ?_⟩
      · have c1 := nw1.2.2.1.1
        exact nt q h1 nw2 (by omega) (ag.gp (nw1.1 G (by omega))) (al.gp (nw1.1 L (by omega))) (ar.gp (nw1.1 W (by omega)))
      · obtain ⟨j, j1, j2⟩ : Rnd (fh d n l hard lo) (topQ n g) (itr (fh d n l hard lo) s x) := by
          rcases hv with hv | hv
          · exact absurd hv q4
          · exact hv.2
        have e1 : itr (fh d n l hard lo) s x = itr (fh d n l hard lo) (j + 1 + s) x := by rw [itr_add]; exact j1.symm
        have e := fstV_eq (Fst.none (f := fh d n l hard lo) (Q := topQ n g) (x := x) (t := s) (s := j + 1 + s) (by omega) e1 fun i hi => by
          by_cases c : i < s
          · exact no i c
          · by_cases c2 : i = s
            · rw [c2]; exact q
            · have := j2 (i - s) (by omega) (by omega)
              rw [← itr_add, Nat.sub_add_cancel (by omega)] at this
              exact this)
        have := kk h1 (nw2.le (by omega))
        rw [← e] at this
        exact this
theorem s_Lsoon {G L l x : Nat} {g hard lo : Int} (hn : 2 ≤ n ∧ n ≤ 6) (hb : GB n d) (lb : LB d l) (hh : rng hard) (hlo : rng lo) (hg : rng g) (z : FZ h) (hG : 10000 ≤ G ∧ G < 10000 + ck h) (hL : 10000 ≤ L ∧ L < 10000 + ck h) (ag : AG n d G h) (al : AL d l L h) (hx : x < fct n)
    (kk : ∀ h', NW h h' 100 → P (.int (I (cnt9 (fstV (fh d n l hard lo) (topQ n g) x)))) h') : R 97 0 [.ref G, .ref L, .int (I lo), .int (I g), .int (I (x : Nat)), .int (I hard), .retAddr 0, .retAddr 0, .retAddr 0] [] h P := by
  have hn7 : 2 ≤ n ∧ n ≤ 7 := ⟨hn.1, by omega⟩
  obtain ⟨m1, m2⟩ := mk7 h (10000 + ck h)
  have n1 := NW.mk7 z
  have c1 : ck (mk h (10000 + ck h) 20 (7 : Int).toNat (7 : Int).toNat) = ck h + 1 := rfl
  refine t_L_soon ⟨z _ (Nat.le_refl _), s_Lopen hn7 (by omega) hx (ag.gp (n1.1 G hG.2)) m1 m2 fun h1 f1 r1 => t_L_soon_14 ?_⟩
  have n2 := n1.fr f1 (Nat.le_refl _)
  have cc := f1.c
  refine Lsoon_prod hn7 (ag.gp (n2.1 G hG.2)) ?_ (n - 1) 1 (by omega) (by omega)
  exact Lsoon_loop hn hb lb hh hlo hg rfl hG hL ag al hx kk (fct n + 1) 0 h1 (by omega) (n2.le (by omega)) (by omega) r1 fun i hi => absurd hi (Nat.not_lt_zero i)
end SOON
