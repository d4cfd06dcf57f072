/-! The reference: what a sheet does; which laws do it. -/
section YDO
variable {n : Nat} {d : Nat → Nat → Int} {P : Value → Hp → Prop} {h : Hp}
theorem ref1 (d : Nat → Nat → Int) {k : Int} (s i m : Int) (hk : k < 0 ∨ 3 < k) : refV d k s i m = -1 := if_pos hk
theorem ref2 (d : Nat → Nat → Int) {k s : Int} (i m : Int) (hk : ¬ (k < 0 ∨ 3 < k)) (hs : s < 0 ∨ 2 < s) : refV d k s i m = -2 := by
  unfold refV
  rw [if_neg hk, if_pos hs]
theorem ydo_loop (hn2 : 2 ≤ n) {l : Nat} (el : (l : Int) = d 0 4) (hl : (l : Int) < d 0 3) {k i m : Nat} (hk : k < 4) (him : i + m ≤ 60) {x0 : Nat} (hx : x0 < fct n) {a1 a2 a3 a5 : Value} : ∀ (r s : Nat) (h : Hp), s + r = m → RY n d h → RW n (rw_ n (goL d n l (celH d (k : Nat) (i : Nat)) x0 s)) h → I (iv h 400 26) = I (goC d n l (celH d (k : Nat) (i : Nat)) x0 s) →
    (∀ h', KY n (shD d (goL d n l (celH d (k : Nat) (i : Nat)) x0 m : Nat) (wr (d 0 2 + (m : Nat)))) h h' → P (.int (I (goC d n l (celH d (k : Nat) (i : Nat)) x0 m))) h') → R 162 102 [.ref 400, a1, a2, a3, .int (I (m : Nat)), a5, .int (I (60 * (k : Int) + (i : Int))), .int (I (s : Nat))] [] h P := by
  intro r
  induction r with
  | zero =>
    intro s h hs x w hc kk
    have hn := x.n7
    have hn7 : 2 ≤ n ∧ n ≤ 7 := by omega
    have e : s = m := by omega
    subst e
    have hy := goL_lt (d := d) (l := l) (H := celH d (k : Nat) (i : Nat)) hn7 hx s
    refine t_Y_doing_102 x.S ⟨by omega, by omega, fun q => absurd q (by omega), fun _ => y_closed x ⟨_, hy, rfl⟩ w ?_⟩
    refine t_Y_doing_138 x.S ?_
    rw [(rank_facts hn7 hy).1]
    exact y_end x hn2 hy hc kk
  | succ r ih =>
    intro s h hs x w hc kk
    have hn := x.n7
    have hn7 : 2 ≤ n ∧ n ≤ 7 := by omega
    have hy := goL_lt (d := d) (l := l) (H := celH d (k : Nat) (i : Nat)) hn7 hx s
    obtain ⟨c1, c2⟩ := (x.sh hk).2.2.2.2 (i + s) (by omega)
    rw [← Nat.add_assoc] at c1 c2
    refine t_Y_doing_102 x.S ?_
    rw [show 60 * (k : Int) + (i : Int) + (s : Int) = ((60 * k + i + s : Nat) : Int) by omega, c1, x.l4.1, ← el]
    refine ⟨by omega, by omega, fun _ => ⟨by omega, by omega, ?_⟩, fun q => absurd (by omega) q⟩
    refine y_shaken x (by decide) hn2 hl c2 ⟨_, hy, rfl⟩ w fun h1 f1 w1 c1 => ?_
    have x1 := x.ks f1.ks
    refine t_Y_doing_127 x1.S ?_
    have w2 : RW n (rw_ n (goL d n l (celH d (k : Nat) (i : Nat)) x0 (s + 1))) h1 := by
      have := (nxc_row (c := chg d l (d 12 (60 * k + i + s)) (-9)) hn7 hy).2
      show RW n (rw_ n (nxc (chg d l (d 12 (60 * k + i + s)) (-9)) n (goL d n l (celH d (k : Nat) (i : Nat)) x0 s))) h1
      rw [this]
      exact w1
    refine ih (s + 1) h1 (by omega) x1 w2 ?_ fun h' k2 => kk h' ((x.k f1.ks).tr k2)
    rw [c1, ← I_add, hc, I_add]
    rfl
theorem y_doing (x : RY n d h) {k s i m : Int} (hk : rng k) (hs : rng s) (hi : rng i) (hm : rng m) (kk : ∀ h', KY n (doD n d k s i m) h h' → P (.int (I (doV n d k s i m))) h') : R 162 0 [.ref 400, .int (I k), .int (I s), .int (I i), .int (I m), .retAddr 0, .retAddr 0, .retAddr 0] [] h P := by
  unfold doV doD at kk
  have k1 := x.up7 (v := 0) (by decide)
  have x1 := k1.1
  refine t_Y_doing x.S (y_isSheet hk (fun c => ?_) (fun c => ?_))
  · refine t_Y_doing_9 x1.S ⟨by decide, fun q => absurd q (by decide), fun _ => y_isSort hs (fun c2 => ?_) (fun c2 => ?_)⟩
    · obtain ⟨k, rfl⟩ : ∃ q : Nat, k = q := ⟨k.toNat, by omega⟩
      refine t_Y_doing_18 x1.S ⟨by decide, fun q => absurd q (by decide), fun _ => y_against x1 (by omega) hs hi hm ?_⟩
      rcases agC_ref (up d 0 7 0) (k := k) i m (by omega) c2 with ⟨a1, a2⟩ | ⟨a1, a2, a3, a4⟩
      · rw [refV_up] at a2
        rw [a2, if_neg (fun z => z rfl), if_neg (fun z => z rfl)] at kk
        obtain ⟨q1, q2, q3, q4, q5, q6, q7⟩ := refV_ok a2
        have q0 := (x.sh (k := k) (by omega)).2.2.2.1
        have em : ((k : Nat) : Int).toNat = k := rfl
        rw [em] at q6 q7
        obtain ⟨i, rfl⟩ : ∃ q : Nat, i = q := ⟨i.toNat, by omega⟩
        obtain ⟨m, rfl⟩ : ∃ q : Nat, m = q := ⟨m.toNat, by omega⟩
        generalize up d 0 7 0 = e at *
        have hn := x1.n7
        have l3 := x1.l3
        unfold doW doE at kk
        rw [a1]
        refine t_Y_doing_33 x1.S ⟨by decide, fun _ => y_areHard x1 (by omega) (by omega) (fun c3 => ?_) (fun c3 => ?_), fun q => absurd rfl q⟩
        · rw [if_pos c3, if_pos c3] at kk
          refine t_Y_doing_63 x1.S ?_
          rw [x1.g, l3.1, iv_nk (by decide)]
          have no : (n = 0 ∨ e 0 3 = 0) → P (.int (I (-3))) (setI h 400 0 0) := fun c1 => by
            rw [if_pos c1, if_pos c1] at kk; exact kk _ k1
          refine ⟨by decide, fun q => absurd q (by decide), fun _ => ⟨by omega, fun c4 => no (by omega), fun c4 => ⟨by omega, fun c5 => no (by omega), fun c5 => ?_⟩⟩⟩
          have c1 : ¬ (n = 0 ∨ e 0 3 = 0) := by omega
          rw [if_neg c1, if_neg c1] at kk
          have hn2 : 2 ≤ n := by omega
          obtain ⟨l2, el, hl2, e2⟩ := x1.inF c5
          obtain ⟨l, l1, l2', l3'⟩ := x1.l1 hn2
          have em1 : ((l : Nat) : Int).toNat = l := rfl
          have em2 : ((m : Nat) : Int).toNat = m := rfl
          rw [e2, l1, em1, em2] at kk
          rw [l3']
          have k0 : KS (setI h 400 0 0) (setI (setI h 400 0 0) 400 26 0) := KS.set0 (by decide) 0
          refine y_open8 (x1.ks k0) hn2 l2' fun h1 f1 w1 => ?_
          have x2 := (x1.ks k0).ks f1.fr.ks
          have e26 : iv h1 400 26 = 0 := (Fr.i f1 rfl 26).trans (iv_eq _ _ _ _)
          refine t_Y_doing_99 x2.S ?_
          exact ydo_loop (P := P) hn2 el hl2 (k := k) (i := i) (m := m) (by omega) (by omega) l2' m 0 h1 (by omega) x2 w1 (congrArg I e26) fun h' k2 => kk h' ((k1.tr (x1.k (k0.tr f1.fr.ks))).tr k2)
        · rw [if_neg c3, if_neg c3] at kk
          exact t_Y_doing_63 x1.S ⟨by decide, fun _ => kk _ k1, fun q => absurd rfl q⟩
      · rw [refV_up] at a2 a3 a4
        rw [if_pos a4, if_pos a4, a3, a2] at kk
        refine t_Y_doing_33 x1.S ⟨by omega, fun q => absurd q (by omega), fun _ => y_fails x1 (by omega) fun h2 k2 => ?_⟩
        have k3 := k1.tr k2
        rw [up_up] at k3
        exact t_Y_doing_46 k3.1.S (kk h2 k3)
    · rw [ref2 d i m (by omega) (by omega), if_pos (by decide), if_pos (by decide)] at kk
      exact t_Y_doing_18 x1.S ⟨by decide, fun _ => kk _ k1, fun q => absurd rfl q⟩
  · rw [ref1 d s i m (by omega), if_pos (by decide), if_pos (by decide)] at kk
    exact t_Y_doing_9 x1.S ⟨by decide, fun _ => kk _ k1, fun q => absurd rfl q⟩
theorem ywh_in (hn2 : 2 ≤ n) {l : Nat} (hl : (l : Int) < d 0 3) {k i m : Nat} (hk : k < 4) (him : i + m ≤ 60) {x0 : Nat} (hx : x0 < fct n) {b acc : Int} {a1 : Int} {a3 a4 a5 a7 : Value} : ∀ (r s : Nat) (h : Hp), s + r = m → RY n d h → RW n (rw_ n (goL d n l (celH d (k : Nat) (i : Nat)) x0 s)) h →
    (∀ h' a9 a11, KY n d h h' → R 193 147 [.ref 400, .int (I a1), .int (I b), a3, a4, a5, .int (I (m : Nat)), a7, .int (I (60 * (k : Int) + (i : Int))), a9, .int (I (l : Nat)), a11] [.int (I (goL d n l (celH d (k : Nat) (i : Nat)) x0 m : Nat)), .int (I acc)] h' P) → R 193 112 [.ref 400, .int (I a1), .int (I b), a3, a4, a5, .int (I (m : Nat)), a7, .int (I (60 * (k : Int) + (i : Int))), .int (I acc), .int (I (l : Nat)), .int (I (s : Nat))] [] h P := by
  intro r
  induction r with
  | zero =>
    intro s h hs x w kk
    have hn := x.n7
    have hn7 : 2 ≤ n ∧ n ≤ 7 := by omega
    have e : s = m := by omega
    subst e
    have hy := goL_lt (d := d) (l := l) (H := celH d (k : Nat) (i : Nat)) hn7 hx s
    refine t_Y_which_112 x.S ⟨by omega, by omega, fun q => absurd q (by omega), fun _ => y_closed x ⟨_, hy, rfl⟩ w ?_⟩
    rw [(rank_facts hn7 hy).1]
    exact kk h _ _ (KY.rf x)
  | succ r ih =>
    intro s h hs x w kk
    have hn := x.n7
    have hn7 : 2 ≤ n ∧ n ≤ 7 := by omega
    have hy := goL_lt (d := d) (l := l) (H := celH d (k : Nat) (i : Nat)) hn7 hx s
    obtain ⟨c1, c2⟩ := (x.sh hk).2.2.2.2 (i + s) (by omega)
    rw [← Nat.add_assoc] at c1 c2
    refine t_Y_which_112 x.S ?_
    rw [show 60 * (k : Int) + (i : Int) + (s : Int) = ((60 * k + i + s : Nat) : Int) by omega, c1]
    refine ⟨by omega, by omega, fun _ => ⟨by omega, by omega, ?_⟩, fun q => absurd (by omega) q⟩
    refine y_shaken x (by decide) hn2 hl c2 ⟨_, hy, rfl⟩ w fun h1 f1 w1 c1 => ?_
    have x1 := x.ks f1.ks
    refine t_Y_which_135 x1.S ?_
    have w2 : RW n (rw_ n (goL d n l (celH d (k : Nat) (i : Nat)) x0 (s + 1))) h1 := by
      have := (nxc_row (c := chg d l (d 12 (60 * k + i + s)) (-9)) hn7 hy).2
      show RW n (rw_ n (nxc (chg d l (d 12 (60 * k + i + s)) (-9)) n (goL d n l (celH d (k : Nat) (i : Nat)) x0 s))) h1
      rw [this]
      exact w1
    exact ih (s + 1) h1 (by omega) x1 w2 fun h' a9 a11 k2 => kk h' a9 a11 ((x.k f1.ks).tr k2)
theorem ywh_out (hn2 : 2 ≤ n) {k i m : Nat} (hk : k < 4) (him : i + m ≤ 60) {x0 : Nat} (hx : x0 < fct n) {b : Int} (hb : rng b) {a3 a4 a5 a7 : Value} : ∀ (r l : Nat) (h : Hp) (a11 : Value), (l : Int) + r = d 0 3 → RY n d h →
    (∀ h', KY n d h h' → P (.int (I (fts (fun l => ((goL d n l (celH d (k : Nat) (i : Nat)) x0 m : Nat) : Int) = b) (d 0 3).toNat : Nat))) h') → R 193 95 [.ref 400, .int (I (x0 : Nat)), .int (I b), a3, a4, a5, .int (I (m : Nat)), a7, .int (I (60 * (k : Int) + (i : Int))), .int (I (fts (fun l => ((goL d n l (celH d (k : Nat) (i : Nat)) x0 m : Nat) : Int) = b) l : Nat)), .int (I (l : Nat)), a11] [] h P := by
  intro r
  induction r with
  | zero =>
    intro l h a11 hl x kk
    have l3 := x.l3
    have e : l = (d 0 3).toNat := by omega
    subst e
    refine t_Y_which_95 x.S ?_
    rw [l3.1]
    exact ⟨by omega, by omega, fun q => absurd q (by omega), fun _ => kk h (KY.rf x)⟩
  | succ r ih =>
    intro l h a11 hl x kk
    have l3 := x.l3
    have hn := x.n7
    have hn7 : 2 ≤ n ∧ n ≤ 7 := by omega
    have f31 := fts_31 (fun l => ((goL d n l (celH d (k : Nat) (i : Nat)) x0 m : Nat) : Int) = b) (k := l) (by omega)
    refine t_Y_which_95 x.S ?_
    rw [l3.1]
    refine ⟨by omega, by omega, fun _ => y_open x hn2 hx fun h1 f1 w1 => ?_, fun q => absurd (by omega) q⟩
    have x1 := x.ks f1.ks
    refine t_Y_which_109 x1.S (ywh_in (P := P) hn2 (l := l) (by omega) hk him hx m 0 h1 (by omega) x1 w1 fun h2 a9 a11 k2 => ?_)
    have gl := goL_lt (d := d) (l := l) (H := celH d (k : Nat) (i : Nat)) hn7 hx m
    have f5 := fct_le hn7.2
    refine t_Y_which_147 k2.1.S ⟨by omega, hb, fun c => ?_, fun c => ?_⟩
    · have z := ih (l + 1) h2 a11 (by omega) k2.1 fun h' k3 => kk h' (((x.k f1.ks).tr k2).tr k3)
      rw [fts_y (Q := fun l => ((goL d n l (celH d (k : Nat) (i : Nat)) x0 m : Nat) : Int) = b) c] at z
      rw [fts_bit _ (show l < 31 by omega)]
      exact z
    · have z := ih (l + 1) h2 a11 (by omega) k2.1 fun h' k3 => kk h' (((x.k f1.ks).tr k2).tr k3)
      rw [fts_n (Q := fun l => ((goL d n l (celH d (k : Nat) (i : Nat)) x0 m : Nat) : Int) = b) c] at z
      rw [bor_0 f31]
      exact z
theorem y_which (x : RY n d h) {a b k s i m : Int} (ha : rng a) (hb : rng b) (hk : rng k) (hs : rng s) (hi : rng i) (hm : rng m) (kk : ∀ h', KY n (whD n d a b k s i m) h h' → P (.int (I (whV n d a b k s i m))) h') : R 193 0 [.ref 400, .int (I a), .int (I b), .int (I k), .int (I s), .int (I i), .int (I m), .retAddr 0, .retAddr 0, .retAddr 0, .retAddr 0, .retAddr 0] [] h P := by
  unfold whV whD at kk
  have k1 := x.up7 (v := 0) (by decide)
  have x1 := k1.1
  have bad : (a < 0 ∨ (lies n : Int) ≤ a ∨ b < 0 ∨ (lies n : Int) ≤ b) → P (.int (I (-1))) (setI h 400 0 0) := fun c0 => by
    rw [if_pos c0, if_pos c0] at kk; exact kk _ k1
  refine t_Y_which x.S (y_isSheet hk (fun c => ?_) (fun c => ?_))
  · refine t_Y_which_9 x1.S ⟨by decide, fun q => absurd q (by decide), fun _ => y_isLie x1 ha (fun ca => ?_) (fun ca => t_Y_which_17 x1.S ⟨by decide, fun _ => bad (by omega), fun q => absurd rfl q⟩)⟩
    refine t_Y_which_17 x1.S ⟨by decide, fun q => absurd q (by decide), fun _ => y_isLie x1 hb (fun cb => ?_) (fun cb => t_Y_which_25 x1.S ⟨by decide, fun _ => bad (by omega), fun q => absurd rfl q⟩)⟩
    have c0 : ¬ (a < 0 ∨ (lies n : Int) ≤ a ∨ b < 0 ∨ (lies n : Int) ≤ b) := by omega
    rw [if_neg c0, if_neg c0] at kk
    refine t_Y_which_25 x1.S ⟨by decide, fun q => absurd q (by decide), fun _ => y_isSort hs (fun c2 => ?_) (fun c2 => ?_)⟩
    · obtain ⟨k, rfl⟩ : ∃ q : Nat, k = q := ⟨k.toNat, by omega⟩
      refine t_Y_which_35 x1.S ⟨by decide, fun q => absurd q (by decide), fun _ => y_against x1 (by omega) hs hi hm ?_⟩
      rcases agC_ref (up d 0 7 0) (k := k) i m (by omega) c2 with ⟨a1, a2⟩ | ⟨a1, a2, a3, a4⟩
      · rw [refV_up] at a2
        have rf0 : refF 0 = 0 := rfl
        rw [a2, if_neg (fun z => z rfl), rf0] at kk
        obtain ⟨q1, q2, q3, q4, q5, q6, q7⟩ := refV_ok a2
        have q0 := (x.sh (k := k) (by omega)).2.2.2.1
        have em : ((k : Nat) : Int).toNat = k := rfl
        rw [em] at q6 q7
        obtain ⟨i, rfl⟩ : ∃ q : Nat, i = q := ⟨i.toNat, by omega⟩
        obtain ⟨m, rfl⟩ : ∃ q : Nat, m = q := ⟨m.toNat, by omega⟩
        generalize up d 0 7 0 = e at *
        have hn2 := lie_n x.n7 ca
        have hn := x.n7
        rw [lies_pos hn2] at ca
        obtain ⟨a, rfl⟩ : ∃ q : Nat, a = q := ⟨a.toNat, by omega⟩
        unfold whW at kk
        have em1 : ((a : Nat) : Int).toNat = a := rfl
        have em2 : ((m : Nat) : Int).toNat = m := rfl
        rw [em1, em2] at kk
        rw [a1]
        refine t_Y_which_52 x1.S ⟨by decide, fun _ => y_areHard x1 (by omega) (by omega) (fun c3 => ?_) (fun c3 => ?_), fun q => absurd rfl q⟩
        · rw [if_pos c3] at kk
          refine t_Y_which_83 x1.S ⟨by decide, fun q => absurd q (by decide), fun _ => ?_⟩
          exact ywh_out (P := P) hn2 (k := k) (i := i) (m := m) (by omega) (by omega) (x0 := a) (by omega) hb (e 0 3).toNat 0 _ _ (by have := x1.l3; omega) x1 fun h' k2 => kk h' (k1.tr k2)
        · rw [if_neg c3] at kk
          exact t_Y_which_83 x1.S ⟨by decide, fun _ => kk _ k1, fun q => absurd rfl q⟩
      · rw [refV_up] at a2 a3 a4
        rw [if_pos a4, a3, a2] at kk
        refine t_Y_which_52 x1.S ⟨by omega, fun q => absurd q (by omega), fun _ => y_fails x1 (by omega) fun h2 k2 => ?_⟩
        have k3 := k1.tr k2
        rw [up_up] at k3
        exact t_Y_which_65 k3.1.S (kk h2 k3)
    · rw [ref2 d i m (by omega) (by omega), if_pos (by decide)] at kk
      exact t_Y_which_35 x1.S ⟨by decide, fun _ => kk _ k1, fun q => absurd rfl q⟩
  · have kk2 : P (.int (I (-1))) (setI h 400 0 0) := by
      by_cases c0 : a < 0 ∨ (lies n : Int) ≤ a ∨ b < 0 ∨ (lies n : Int) ≤ b
      · exact bad c0
      · rw [if_neg c0, if_neg c0, ref1 d s i m (by omega), if_pos (by decide)] at kk
        exact kk _ k1
    exact t_Y_which_9 x1.S ⟨by decide, fun _ => kk2, fun q => absurd rfl q⟩
end YDO
