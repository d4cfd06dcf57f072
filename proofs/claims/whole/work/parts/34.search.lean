/-! The class's search. -/
def XR (m : Nat) (s : St) (h : Hp) : Prop := iv h 19 4 = s 4 0 ∧ (∀ i : Nat, i < m → iv h 21 (i : Nat) = s 0 i ∧ (1 ≤ s 0 i → iv h 22 (i : Nat) = s 1 i ∧ iv h 23 (i : Nat) = s 2 i)) ∧ ∀ i : Nat, (i : Int) < s 4 0 → iv h 20 (i : Nat) = s 3 i
theorem XR.cg {m : Nat} {s : St} {h h' : Hp} (x : XR m s h) (e : ∀ r, 19 ≤ r → r ≤ 23 → ∀ k, iv h' r k = iv h r k) : XR m s h' := by
  unfold XR
  refine ⟨?_, fun i hi => ?_, fun i hi => ?_⟩
  · rw [e 19 (by decide) (by decide)]; exact x.1
  · rw [e 21 (by decide) (by decide), e 22 (by decide) (by decide), e 23 (by decide) (by decide)]; exact x.2.1 i hi
  · rw [e 20 (by decide) (by decide)]; exact x.2.2 i hi
section SEARCH
variable {n : Nat} {d : Nat → Nat → Int} {P : Value → Hp → Prop} {l : Nat} {h : Hp}
theorem s_reach (X : RX n d h) (hn2 : 2 ≤ n) {s : St} (xr : XR (fct n) s h) (w : WF (fct n) s) {lie fr act : Nat} (hl : lie < fct n) (hf : fr < fct n) (h0 : 0 ≤ s 0 fr) (ha : 1 ≤ act ∧ act ≤ 5) (kk : ∀ h', KX n d h h' → XR (fct n) (rch s lie fr (act : Nat)) h' → P .null h') :
    R 92 0 [.ref 19, .int (I (lie : Nat)), .int (I (fr : Nat)), .int (I (act : Nat))] [] h P := by
  have bx := X.1.bx hn2
  have hn := bx.2.1
  have f5 := fct_le hn.2
  obtain ⟨m20, n20⟩ := X.m26 hn2 (q := 20) (by decide)
  obtain ⟨m21, n21⟩ := X.m26 hn2 (q := 21) (by decide)
  obtain ⟨m22, n22⟩ := X.m26 hn2 (q := 22) (by decide)
  obtain ⟨m23, n23⟩ := X.m26 hn2 (q := 23) (by decide)
  have e1 := (xr.2.1 lie hl).1
  have e2 := (xr.2.1 fr hf).1
  have wl := w.2.2.2 lie hl
  have wf := w.2.2.2 fr hf
  have w1 := w.1
  have E1 : ∀ v1 v2 v3, iv (setI (setI (setI h 21 (lie : Nat) v1) 22 (lie : Nat) v2) 23 (lie : Nat) v3) 19 4 = s 4 0 := fun v1 v2 v3 => by rw [iv_ne (by decide), iv_ne (by decide), iv_ne (by decide)]; exact xr.1
  have E2 : ∀ v1 v2 v3 k v4, iv (setI (setI (setI (setI h 21 (lie : Nat) v1) 22 (lie : Nat) v2) 23 (lie : Nat) v3) 20 k v4) 19 4 = s 4 0 := fun v1 v2 v3 k v4 => by rw [iv_ne (by decide)]; exact E1 v1 v2 v3
  refine t_Search_reach X.S ?_
  rw [e1, e2, E1, E2, wr_eq (show rng (s 0 fr + 1) by omega), wr_eq (show rng (fr : Nat) by omega), wr_eq (show rng (act : Nat) by omega), wr_eq (show rng (lie : Nat) by omega), wr_eq (show rng (s 4 0 + 1) by omega)]
  refine ⟨by omega, by omega, by omega, by omega, fun c => ?_, fun c => ?_⟩
  · have room := wf_room w hl c
    refine ⟨by omega, by omega, by omega, by omega, by omega, by omega, by show (ln h 22 : Int) ≤ _; omega, by omega, by show _ < (ln h 22 : Int); omega, by show (ln h 23 : Int) ≤ _; omega, by omega, by show _ < (ln h 23 : Int); omega, by show (ln h 20 : Int) ≤ _; omega, by omega, by show _ < (ln h 20 : Int); omega, ?_⟩
    have k1 := X.kset hn2 (q := 21) (by decide) (lie : Nat) (s 0 fr + 1)
    have k2 := k1.1.kset hn2 (q := 22) (by decide) (lie : Nat) (fr : Nat)
    have k3 := k2.1.kset hn2 (q := 23) (by decide) (lie : Nat) (act : Nat)
    have k4 := k3.1.kset hn2 (q := 20) (by decide) (s 4 0) (lie : Nat)
    have k5 := k4.1.kset hn2 (q := 19) (by decide) 4 (s 4 0 + 1)
    refine kk _ ((((k1.tr k2).tr k3).tr k4).tr k5) ?_
    obtain ⟨r0, r1, r2, r3, r4⟩ := rchN (fr := fr) (act := (act : Nat)) c
    refine ⟨by rw [iv_eq, r4], fun i hi => ?_, fun i hi => ?_⟩
    · have q := xr.2.1 i hi
      rw [iv_ne (by decide), iv_ne (by decide), iv_ne (by decide), iv_ne (by decide), iv_setI, iv_ne (by decide), iv_ne (by decide), iv_ne (by decide), iv_setI, iv_ne (by decide), iv_ne (by decide), iv_ne (by decide), iv_setI, iv_ne (by decide), iv_ne (by decide), r0, r1, r2]
      by_cases e : i = lie
      · subst e
        rw [if_pos ⟨rfl, rfl⟩, if_pos rfl, if_pos ⟨rfl, rfl⟩, if_pos rfl, if_pos ⟨rfl, rfl⟩, if_pos rfl]
        exact ⟨rfl, fun _ => ⟨rfl, rfl⟩⟩
      · have ne : ¬ ((i : Nat) : Int) = (lie : Nat) := fun z => e (Int.ofNat.inj z)
        rw [if_neg (fun z => ne z.2), if_neg e, if_neg (fun z => ne z.2), if_neg e, if_neg (fun z => ne z.2), if_neg e]
        exact q
    · rw [r4] at hi
      rw [iv_ne (by decide), iv_setI, iv_ne (by decide), iv_ne (by decide), iv_ne (by decide), r3]
      by_cases e : i = (s 4 0).toNat
      · rw [if_pos ⟨rfl, by omega⟩, if_pos e]
      · rw [if_neg (by omega), if_neg e]
        exact xr.2.2 i (by omega)
  · rw [rchY (by omega)] at kk
    exact kk h (KX.rf X) xr
theorem s_begin (X : RX n d h) (hn2 : 2 ≤ n) {x : Nat} (hx : x < fct n) (kk : ∀ h', KX n d h h' → XR (fct n) (ini x) h' → P .null h') : R 90 0 [.ref 19, .int (I (x : Nat)), .int (I (fct n : Nat))] [] h P := by
  have bx := X.1.bx hn2
  have hn := bx.2.1
  have f5 := fct_le hn.2
  have f1 := fct_pos n
  obtain ⟨m20, n20⟩ := X.m26 hn2 (q := 20) (by decide)
  obtain ⟨m21, n21⟩ := X.m26 hn2 (q := 21) (by decide)
  refine t_Search_begin X.S (s_fill4 (a := 21) (v := -1) (by decide) bx.1.t21 m21 n21 fun h1 f1 g1 g2 => ?_)
  have k0 := X.ks hn2 f1 (fun r hr => by
        have : r = 21 := by simpa using hr
        omega)
  refine t_Search_begin_10 k0.1.S ?_
  rw [wr_eq (show rng (x : Nat) by omega)]
  refine ⟨by rw [f1.l]; omega, by rw [f1.l]; omega, by show (ln h1 21 : Int) ≤ _; rw [f1.l]; omega, by omega, by show _ < (ln h1 21 : Int); rw [f1.l]; omega, ?_⟩
  have k1 := k0.1.kset hn2 (q := 20) (by decide) 0 (x : Nat)
  have k2 := k1.1.kset hn2 (q := 21) (by decide) (x : Nat) 0
  have k3 := k2.1.kset hn2 (q := 19) (by decide) 4 1
  refine kk _ (((k0.tr k1).tr k2).tr k3) ⟨by rw [iv_eq]; rfl, fun i hi => ?_, fun i hi => ?_⟩
  · have e0 : ini x 0 i = if i = x then 0 else -1 := rfl
    rw [iv_ne (by decide), iv_setI, iv_ne (by decide), e0]
    by_cases e : i = x
    · rw [if_pos ⟨rfl, by rw [e]⟩, if_pos e]
      exact ⟨rfl, fun z => absurd z (by decide)⟩
    · rw [if_neg (fun z => e (Int.ofNat.inj z.2)), if_neg e]
      exact ⟨g1 i (by omega), fun z => absurd z (by decide)⟩
  · have e4 : ini x 4 0 = 1 := rfl
    rw [e4] at hi
    have : i = 0 := by omega
    subst this
    rw [iv_ne (by decide), iv_ne (by decide), iv_setI, if_pos ⟨rfl, rfl⟩]
    rfl
theorem s_moved (X : RX n d h) (hn2 : 2 ≤ n) (hl : (l : Int) < d 0 3) {lie a : Nat} (hlie : lie < fct n) (ha : 1 ≤ a ∧ a ≤ 5) (kk : ∀ h', KX n d h h' → (∀ r, 19 ≤ r → r ≤ 23 → ∀ k, iv h' r k = iv h r k) → P (.int (I (mvf n d l a lie : Nat))) h') :
    R 91 0 [.ref 0, .ref (64 * (l + 1)), .int (I (lie : Nat)), .int (I (a : Nat))] [] h P := by
  unfold mvf at kk
  have l4 := X.l4 hl
  refine t_X_moved X.S ⟨by omega, fun c => ?_, fun c => ⟨by omega, fun c2 => ?_, fun c2 => ⟨okg_i rfl rfl rfl rfl ?_, ?_⟩⟩⟩
  · rw [if_pos (by omega)] at kk
    exact s_turned3 X hn2 hlie fun h1 k1 f1 _ => t_X_moved_10 k1.1.S (kk h1 k1 fun r h1 h2 k => f1.i (by simp; omega) k)
  · rw [if_neg (by omega), if_pos (by omega)] at kk
    exact s_spooned3 X hn2 hlie fun h1 k1 f1 _ => t_X_moved_21 k1.1.S (kk h1 k1 fun r h1 h2 k => f1.i (by simp; omega) k)
  · simp only [ng, List.all_cons, List.all_nil, ngv, gwl l4, Bool.not_false, Bool.and_true]
    rfl
  · rw [if_neg (by omega), if_neg (by omega)] at kk
    refine s_motion X hn2 hl (hd := (a : Nat)) (by omega) fun h1 k1 mf g1 => ?_
    have hj : ((a : Nat) : Int).toNat - 1 < 3 := by omega
    have hm := k1.1.wm hl hj
    refine t_X_moved_30 k1.1.S ⟨hm.2.1, ?_⟩
    refine s_go k1.1 hn2 hl hj mf hlie fun h2 k2 mf2 f2 => t_X_moved_38 k2.1.S ?_
    rw [nxt_fh (by omega)]
    refine kk h2 (k1.tr k2) fun r q1 q2 k => ?_
    rw [f2.i (SA_no (by omega) (by omega) (by omega)), (g1 r (SM_no (by omega) (by omega))).2.2.1]
theorem spread_in (hn2 : 2 ≤ n) (hl : (l : Int) < d 0 3) {A : Nat} (hA : A ≤ 5) {lie : Nat} (hlie : lie < fct n) {a2 a3 a5 a6 : Int} : ∀ (k a : Nat) (s : St) (h : Hp), 1 ≤ a → a + k = A + 1 → RX n d h → XR (fct n) s h → WF (fct n) s → 0 ≤ s 0 lie → s 0 lie + 1 ≤ s 4 0 →
    (∀ h' a8, KX n d h h' → XR (fct n) (xpd (mvf n d l) lie k a s) h' → R 89 18 [.ref 0, .ref (64 * (l + 1)), .int (I a2), .int (I a3), .int (I (A : Nat)), .int (I a5), .int (I (a6 + 1)), .int (I (lie : Nat)), a8] [] h' P) →
    R 89 79 [.ref 0, .ref (64 * (l + 1)), .int (I a2), .int (I a3), .int (I (A : Nat)), .int (I a5), .int (I a6), .int (I (lie : Nat)), .int (I (a : Nat))] [] h P := by
  intro k
  induction k with
  | zero =>
    intro a s h ha hk X xr w h0 h1 kk
    exact t_X_spread_79 X.S ⟨by omega, by omega, fun _ => kk h _ (KX.rf X) xr, fun c => absurd (by omega) c⟩
  | succ k ih =>
    intro a s h ha hk X xr w h0 h1 kk
    have l4 := X.l4 hl
    have hn := (X.1.bx hn2).2.1
    refine t_X_spread_79 X.S ⟨by omega, by omega, fun c => absurd c (by omega), fun _ => ⟨okg_i rfl rfl rfl rfl ?_, ?_⟩⟩
    · simp only [ng, List.all_cons, List.all_nil, ngv, gwl l4, Bool.not_false, Bool.and_true]
      rfl
    refine s_moved X hn2 hl hlie (a := a) (by omega) fun h2 k2 e2 => t_X_spread_99 k2.1.S ?_
    have ml := mvf_lt (d := d) (l := l) hn a lie ha (by omega) hlie
    refine s_reach k2.1 hn2 (xr.cg e2) w ml hlie h0 (by omega) fun h3 k3 xr3 => t_X_spread_106 k3.1.S ?_
    have e := rch_ext s (mvf n d l a lie) lie (a : Nat) w.1.1
    have w3 := rch_wf w ml hlie h0 h1 (act := (a : Nat)) (by omega)
    have e0 := (e.1 lie h0).1
    exact ih (a + 1) _ h3 (by omega) (by omega) k3.1 xr3 w3 (by omega) (by have := e.2.1; omega) fun h' a8 k4 x4 => kk h' a8 ((k2.tr k3).tr k4) x4
theorem spread_out (hn2 : 2 ≤ n) (hl : (l : Int) < d 0 3) {A : Nat} (hA : A ≤ 5) {a2 goal most : Int} (hg : rng goal) (hm : rng most) : ∀ (k f : Nat) (s : St) (h : Hp) (a7 a8 : Value), f + k = fct n → RX n d h → XR (fct n) s h → WF (fct n) s →
    (∀ h', KX n d h h' → XR (fct n) (bfs (mvf n d l) A goal most k f s) h' → P .null h') →
    R 89 18 [.ref 0, .ref (64 * (l + 1)), .int (I a2), .int (I goal), .int (I (A : Nat)), .int (I most), .int (I (f : Nat)), a7, a8] [] h P := by
  intro k
  induction k with
  | zero =>
    intro f s h a7 a8 hf X xr w kk
    have bx := X.1.bx hn2
    have f5 := fct_le bx.2.1.2
    refine t_X_spread_18 X.S ?_
    rw [bx.2.2.2.1]
    exact ⟨by omega, by omega, fun c => absurd c (by omega), fun _ => kk h (KX.rf X) xr⟩
  | succ k ih =>
    intro f s h a7 a8 hf X xr w kk
    have bx := X.1.bx hn2
    have f5 := fct_le bx.2.1.2
    obtain ⟨m20, n20⟩ := X.m26 hn2 (q := 20) (by decide)
    obtain ⟨m21, n21⟩ := X.m26 hn2 (q := 21) (by decide)
    have w1 := w.1
    rw [bfs] at kk
    refine t_X_spread_18 X.S ?_
    rw [bx.2.2.2.1, xr.1]
    refine ⟨by omega, by omega, fun _ => ⟨by omega, by omega, fun c => ?_, fun c => ?_⟩, fun c => absurd (by omega) c⟩
    · rw [if_pos c] at kk
      obtain ⟨v1, v2, v3⟩ := w.2.1 f c
      have eq := xr.2.2 f c
      have ev : s 3 f = ((s 3 f).toNat : Nat) := by omega
      have ed := (xr.2.1 (s 3 f).toNat (by omega)).1
      rw [← ev] at ed
      rw [eq, ed]
      refine ⟨by omega, by omega, by omega, by omega, hg, fun c2 => ?_, fun c2 => ⟨by omega, by omega, by omega, by omega, hm, fun c3 => ?_, fun c3 => ?_⟩⟩
      · rw [if_pos c2] at kk; exact kk h (KX.rf X) xr
      · rw [if_neg c2, if_pos c3] at kk
        have hn := (X.1.bx hn2).2.1
        have g1 := (xpd_wf (mv := mvf n d l) (lie := (s 3 f).toNat) (by omega) (fun a h1 h2 => mvf_lt (d := d) (l := l) hn a _ h1 h2 (by omega)) A 1 s (by omega) (by omega) w v2 (by omega)).1
        have z := spread_in (P := P) (a2 := a2) (a3 := goal) (a5 := most) (a6 := (f : Nat)) hn2 hl hA (lie := (s 3 f).toNat) (by omega) A 1 s h (by omega) (by omega) X xr w v2 (by omega) fun h1 a8 k1 x1 => ih (f + 1) _ h1 _ a8 (by omega) k1.1 x1 g1 fun h' k2 x2 => kk h' (k1.tr k2) x2
        rw [← ev] at z
        exact z
      · rw [if_neg c2, if_neg c3] at kk; exact kk h (KX.rf X) xr
    · rw [if_neg c] at kk; exact kk h (KX.rf X) xr
theorem s_spread (X : RX n d h) (hn2 : 2 ≤ n) (hl : (l : Int) < d 0 3) {A x : Nat} (hA : A ≤ 5) (hx : x < fct n) {goal most : Int} (hg : rng goal) (hm : rng most) (kk : ∀ h', KX n d h h' → XR (fct n) (bfs (mvf n d l) A goal most (fct n) 0 (ini x)) h' → P .null h') :
    R 89 0 [.ref 0, .ref (64 * (l + 1)), .int (I (x : Nat)), .int (I goal), .int (I (A : Nat)), .int (I most), .retAddr 0, .retAddr 0, .retAddr 0] [] h P := by
  refine t_X_spread X.S ?_
  rw [(X.1.bx hn2).2.2.2.1]
  refine s_begin X hn2 hx fun h1 k1 x1 => t_X_spread_15 k1.1.S ?_
  exact spread_out hn2 hl hA hg hm (fct n) 0 (ini x) h1 _ _ (by omega) k1.1 x1 (ini_wf hx) fun h' k2 x2 => kk h' (k1.tr k2) x2
theorem step_loop (X : RX n d h) (hn2 : 2 ≤ n) {s : St} (xr : XR (fct n) s h) (w : WF (fct n) s) {b : Nat} (hb : b < fct n) {q : Int} (hq : 0 ≤ q ∧ q < 2147483648) : ∀ (k y : Nat) (a4 : Int), (a4 - q).toNat = k → rng a4 → y < fct n → (q < s 0 b → s 0 y = a4 + 1 ∧ q ≤ a4) → (¬ q < s 0 b → a4 ≤ q) → P (.int (I (if q < s 0 b then s 2 (pth s k y) else -9))) h →
    R 93 12 [.ref 19, .int (I (b : Nat)), .int (I q), .int (I (y : Nat)), .int (I a4)] [] h P := by
  have bx := X.1.bx hn2
  have f5 := fct_le bx.2.1.2
  obtain ⟨m21, n21⟩ := X.m26 hn2 (q := 21) (by decide)
  obtain ⟨m22, n22⟩ := X.m26 hn2 (q := 22) (by decide)
  obtain ⟨m23, n23⟩ := X.m26 hn2 (q := 23) (by decide)
  have wb := w.2.2.2 b hb
  have eb := (xr.2.1 b hb).1
  intro k
  induction k with
  | zero =>
    intro y a4 hk ra hy h1 h2 kk
    have ey := xr.2.1 y hy
    refine t_Search_stepTo_12 X.S ?_
    rw [eb]
    refine ⟨ra, by omega, fun c => absurd c (by omega), fun _ => ⟨by omega, by omega, by omega, by omega, by omega, fun c => ⟨by omega, by omega, by omega, ?_⟩, fun c => ?_⟩⟩
    · rw [if_pos c] at kk
      rw [(ey.2 (by have := h1 c; omega)).2]
      exact kk
    · rw [if_neg c] at kk; exact kk
  | succ k ih =>
    intro y a4 hk ra hy h1 h2 kk
    have hqb : q < s 0 b := by
      apply Classical.byContradiction
      intro hc
      have := h2 hc
      omega
    obtain ⟨h3, h4⟩ := h1 hqb
    have ey := xr.2.1 y hy
    obtain ⟨u1, u2, u3⟩ := (w.2.2.2 y hy).2.2 (by omega)
    have e1 := (ey.2 (by omega)).1
    refine t_Search_stepTo_12 X.S ?_
    rw [e1]
    refine ⟨ra, by omega, fun c => ⟨by omega, by omega, by omega, ?_⟩, fun c => absurd (by omega) c⟩
    have z := ih (s 1 y).toNat (a4 + (-1)) (by omega) (by omega) (by omega) (fun _ => ⟨by omega, by omega⟩) (fun hc => absurd hqb hc) kk
    rw [show (((s 1 y).toNat : Nat) : Int) = s 1 y by omega] at z
    exact z
theorem s_stepTo (X : RX n d h) (hn2 : 2 ≤ n) {s : St} (xr : XR (fct n) s h) (w : WF (fct n) s) {b : Nat} (hb : b < fct n) (h0 : 0 ≤ s 0 b) {q : Int} (hq : 0 ≤ q ∧ q < 2147483648) (kk : P (.int (I (stA s b q))) h) : R 93 0 [.ref 19, .int (I (b : Nat)), .int (I q), .retAddr 0, .retAddr 0] [] h P := by
  have bx := X.1.bx hn2
  have f5 := fct_le bx.2.1.2
  obtain ⟨m21, n21⟩ := X.m26 hn2 (q := 21) (by decide)
  have wb := w.2.2.2 b hb
  have eb := (xr.2.1 b hb).1
  refine t_Search_stepTo X.S ?_
  rw [eb]
  exact ⟨by omega, by omega, by omega, step_loop X hn2 xr w hb hq (s 0 b - 1 - q).toNat b (s 0 b - 1) rfl (by omega) hb (fun c => ⟨by omega, by omega⟩) (fun c => by omega) kk⟩
theorem valA_bd {d : Nat → Nat → Int} {n lie : Nat} {w : Int} (hn : 2 ≤ n ∧ n ≤ 7) (gb : GB n d) (hl : lie < fct n) : 0 ≤ valA n d lie w ∧ valA n d lie w ≤ 49 := by
  unfold valA
  have h1 := mxv_bd (sz := d 1) hn (fun g hg => (gb g hg).1) ⟨lie, hl, rfl⟩
  have h2 := ptv_bd (sz := d 1) (r := rw_ n lie) hn
  split <;> omega
def plE (V : Nat → Int) (S : St) (q : Int) (b : Nat) : Int := if q = -1 then V b else if q = -2 then S 0 b else stA S b q
theorem plan_loop (hn2 : 2 ≤ n) {S : St} (w : WF (fct n) S) {aim q : Int} (haim : rng aim) (hq : -2 ≤ q ∧ q < 9) {a2 a4 : Value} : ∀ (k f b : Nat) (h : Hp) (a8 : Value), ((f : Nat) : Int) + k = S 4 0 → 1 ≤ f → RX n d h → XR (fct n) S h → b < fct n → 0 ≤ S 0 b →
    (∀ h', KX n d h h' → P (.int (I (plE (fun y => valA n d y aim) S q (bst (fun y => valA n d y aim) (fun i => (S 3 i).toNat) k f b)))) h') →
    R 88 91 [.ref 0, .int (I aim), a2, .int (I q), a4, .int (I (b : Nat)), .int (I (valA n d b aim)), .int (I (f : Nat)), a8] [] h P := by
  intro k
  induction k with
  | zero =>
    intro f b h a8 hf hf1 X xr hb h0 kk
    have bx := X.1.bx hn2
    have hn := bx.2.1
    have f5 := fct_le hn.2
    have w1 := w.1
    obtain ⟨m21, n21⟩ := X.m26 hn2 (q := 21) (by decide)
    have eb := (xr.2.1 b hb).1
    have kk := kk h (KX.rf X)
    unfold plE at kk
    rw [bst] at kk
    refine t_X_plan_91 X.S ?_
    rw [xr.1, eb]
    refine ⟨by omega, by omega, fun c => absurd c (by omega), fun _ => ⟨by omega, fun c => ?_, fun c => ⟨by omega, fun c2 => ⟨by omega, by omega, by omega, ?_⟩, fun c2 => ?_⟩⟩⟩
    · rw [if_pos c] at kk; exact kk
    · rw [if_neg c, if_pos c2] at kk; exact kk
    · rw [if_neg c, if_neg c2] at kk
      exact s_stepTo X hn2 xr w hb h0 (by omega) (t_X_plan_186 X.S kk)
  | succ k ih =>
    intro f b h a8 hf hf1 X xr hb h0 kk
    have bx := X.1.bx hn2
    have hn := bx.2.1
    have f5 := fct_le hn.2
    have w1 := w.1
    obtain ⟨m20, n20⟩ := X.m26 hn2 (q := 20) (by decide)
    have fl_ : ((f : Nat) : Int) < S 4 0 := by omega
    have eq := xr.2.2 f fl_
    obtain ⟨v1, v2, v3⟩ := w.2.1 f fl_
    have ev : S 3 f = ((S 3 f).toNat : Nat) := by omega
    have gb := X.1.2.2.2.2.1
    have vb := valA_bd (d := d) (w := aim) hn gb hb
    have vq := valA_bd (d := d) (w := aim) hn gb (lie := (S 3 f).toNat) (by omega)
    rw [bst] at kk
    refine t_X_plan_91 X.S ?_
    rw [xr.1, eq]
    refine ⟨by omega, by omega, fun _ => ⟨by omega, by omega, by omega, ?_⟩, fun c => absurd (by omega) c⟩
    rw [ev]
    refine s_measured3 X hn2 (l := (S 3 f).toNat) (by omega) haim fun h1 k1 f1 => ?_
    have x1 : XR (fct n) S h1 := xr.cg fun r q1 q2 k => f1.i (by simp; omega) k
    have eq1 := x1.2.2 f fl_
    refine t_X_plan_118 k1.1.S ?_
    rw [eq1, f1.l]
    refine ⟨by omega, by omega, fun c => ⟨by omega, by omega, by omega, ?_⟩, fun c => ?_⟩
    · rw [if_pos c] at kk
      have z := ih (f + 1) (S 3 f).toNat h1 (.int (I (valA n d (S 3 f).toNat aim))) (by omega) (by omega) k1.1 x1 (by omega) v2 fun h' k2 => kk h' (k1.tr k2)
      rw [← ev] at z
      exact z
    · rw [if_neg c] at kk
      exact ih (f + 1) b h1 (.int (I (valA n d (S 3 f).toNat aim))) (by omega) (by omega) k1.1 x1 hb h0 fun h' k2 => kk h' (k1.tr k2)
theorem s_plan (x : RX n d h) {aim K q : Int} (hai : rng aim) (hK : rng K) (hq : rng q) (k : ∀ h', KX n d h h' → P (.int (I (planA n d aim K q))) h') : R 88 0 [.ref 0, .int (I aim), .int (I K), .int (I q), .retAddr 0, .retAddr 0, .retAddr 0, .retAddr 0, .retAddr 0] [] h P := by
  unfold planA at k
  refine t_X_plan x.S ⟨hai, fun c => ?_, fun c1 => ⟨hai, fun c => ?_, fun c2 => ⟨hK, fun c => ?_, fun c3 => ⟨hK, fun c => ?_, fun c4 => ⟨hq, fun c => ?_, fun c5 => ⟨hq, fun c6 => s_lawInForce x (fun c7 => ?_) (fun l2 c7 c8 => ?_), fun c => ?_⟩⟩⟩⟩⟩⟩
  · rw [if_pos (by omega)] at k; exact k h (KX.rf x)
  · rw [if_pos (by omega)] at k; exact k h (KX.rf x)
  · rw [if_pos (by omega)] at k; exact k h (KX.rf x)
  · rw [if_pos (by omega)] at k; exact k h (KX.rf x)
  · rw [if_neg (by omega), if_pos (by omega)] at k; exact k h (KX.rf x)
  · rw [if_neg (by omega), if_neg (by omega), if_pos (by omega)] at k
    exact t_X_plan_40b x.S (s_noBox x (fun c => t_X_plan_46b x.S ⟨by decide, fun _ => k h (KX.rf x), fun _ => k h (KX.rf x)⟩) (fun c => t_X_plan_46b x.S ⟨by decide, fun _ => k h (KX.rf x), fun _ => k h (KX.rf x)⟩))
  · rw [if_neg (by omega), if_neg (by omega)] at k
    refine t_X_plan_40 x.S (s_noBox x (fun c => ?_) (fun c => ?_))
    · rw [if_pos (by omega)] at k
      exact t_X_plan_46 x.S ⟨by decide, fun q => absurd q (by decide), fun _ => k h (KX.rf x)⟩
    rw [if_neg (by omega)] at k
    have l4 := x.l4 c8
    have el : (d 0 4).toNat = l2 := by omega
    have ln := x.ln_ c
    rw [lies_pos c] at ln
    have e : d 0 1 = ((d 0 1).toNat : Nat) := by omega
    have hn := (x.1.bx c).2.1
    have f5 := fct_le hn.2
    have wf := bfs_wf (mv := mvf n d l2) (A := 3) (by decide) (mvf_lt (d := d) (l := l2) hn) (goal := -9) (most := K) (fct n) 0 _ (ini_wf (x := (d 0 1).toNat) (by omega))
    have hS : planS n d K = bfs (mvf n d l2) 3 (-9) K (fct n) 0 (ini (d 0 1).toNat) := by unfold planS; rw [el]
    have sp := fun (P' : Value → Hp → Prop) kk' => s_spread (P := P') x c c8 (A := 3) (by decide) (x := (d 0 1).toNat) (by omega) (goal := -9) (most := K) (by decide) hK kk'
    unfold planB at k
    rw [hS] at k
    generalize bfs (mvf n d l2) 3 (-9) K (fct n) 0 (ini (d 0 1).toNat) = S at *
    refine t_X_plan_46 x.S ⟨by decide, fun _ => ⟨okg_i rfl rfl rfl rfl ?_, ?_⟩, fun q => absurd rfl q⟩
    · simp only [ng, List.all_cons, List.all_nil, ngv, gwl l4, Bool.not_false, Bool.and_true]
      rfl
    have e0 : ini (d 0 1).toNat 0 (d 0 1).toNat = 0 := by
      show (if (d 0 1).toNat = (d 0 1).toNat then (0 : Int) else -1) = 0
      exact if_pos rfl
    have S0 := (wf.2.1 (d 0 1).toNat (by omega)).1
    have w1 := wf.1.1
    rw [x.2.1.1]
    have z := sp (fun _ h2 => R 88 71 [.ref 0, .int (I aim), .int (I K), .int (I q), .ref (64 * (l2 + 1)), .retAddr 0, .retAddr 0, .retAddr 0, .retAddr 0] [] h2 P) fun h1 k1 x1 => by
      refine t_X_plan_71 k1.1.S ?_
      rw [k1.1.2.1.1]
      have z2 := s_measured3 (P := fun v h2 => R 88 86 [.ref 0, .int (I aim), .int (I K), .int (I q), .ref (64 * (l2 + 1)), .int (I ((d 0 1).toNat : Nat)), .retAddr 0, .retAddr 0, .retAddr 0] (v :: []) h2 P) k1.1 c (l := (d 0 1).toNat) (by omega) hai fun h2 k2 f2 => by
        refine t_X_plan_86 k2.1.S ?_
        exact plan_loop (P := P) c wf.1 hai (by omega) (S 4 0 - 1).toNat 1 (d 0 1).toNat h2 _ (by omega) (Nat.le_refl _) k2.1 (x1.cg fun r q1 q2 k => f2.i (by simp; omega) k) (by omega) (by omega) fun h' k3 => k h' ((k1.tr k2).tr k3)
      rw [← e] at z2
      exact z2
    rw [← e] at z
    exact z
  · rw [if_neg (by omega), if_pos (by omega)] at k; exact k h (KX.rf x)
theorem s_way (x : RX n d h) {a b q : Int} (ha : rng a) (hb : rng b) (hq : rng q) (k : ∀ h', KX n d h h' → P (.int (I (wayA n d a b q))) h') : R 94 0 [.ref 0, .int (I a), .int (I b), .int (I q), .retAddr 0] [] h P := by
  unfold wayA at k
  refine t_X_way x.S (s_noLie x ha (fun c => ?_) (fun c => ?_))
  · rw [if_pos (by omega)] at k
    exact t_X_way_5 x.S ⟨by decide, fun q => absurd q (by decide), fun _ => k h (KX.rf x)⟩
  refine t_X_way_5 x.S ⟨by decide, fun _ => s_noLie x hb (fun c2 => ?_) (fun c2 => ?_), fun q => absurd rfl q⟩
  · rw [if_pos (by omega)] at k
    exact t_X_way_13 x.S ⟨by decide, fun q => absurd q (by decide), fun _ => k h (KX.rf x)⟩
  refine t_X_way_13 x.S ⟨by decide, fun _ => ⟨hq, fun c3 => ?_, fun c3 => s_lawInForce x (fun c4 => ?_) (fun l2 c4 c5 => ?_)⟩, fun q => absurd rfl q⟩
  · rw [if_pos (by omega)] at k; exact k h (KX.rf x)
  · rw [if_neg (by omega), if_pos c4] at k
    exact t_X_way_27b x.S (k h (KX.rf x))
  rw [if_neg (by omega), if_neg (by omega)] at k
  have l4 := x.l4 c5
  have el : (d 0 4).toNat = l2 := by omega
  have c := lie_n x.n7 c
  have e := lies_pos c
  have hn := (x.1.bx c).2.1
  have f5 := fct_le hn.2
  have ea : a = (a.toNat : Nat) := by omega
  have eb : b = (b.toNat : Nat) := by omega
  have gl := bfs_goal (mv := mvf n d l2) (A := 5) (by decide) f5 (mvf_lt (d := d) (l := l2) hn) (b := b.toNat) (fct n) 0 _ (ini_wf (m := fct n) (x := a.toNat) (by omega)) (by omega)
  have wf := bfs_wf (mv := mvf n d l2) (A := 5) (by decide) (mvf_lt (d := d) (l := l2) hn) (goal := (b.toNat : Nat)) (most := (fct n : Nat)) (fct n) 0 _ (ini_wf (x := a.toNat) (by omega))
  have sp := fun (P' : Value → Hp → Prop) kk' => s_spread (P := P') x c c5 (A := 5) (by decide) (x := a.toNat) (by omega) (goal := (b.toNat : Nat)) (most := (fct n : Nat)) (by omega) (by omega) kk'
  have hS : wayS n d a = bfs (mvf n d l2) 5 (-9) 5040 (fct n) 0 (ini a.toNat) := by unfold wayS; rw [el]
  rw [hS] at k
  generalize bfs (mvf n d l2) 5 (-9) 5040 (fct n) 0 (ini a.toNat) = T at *
  generalize bfs (mvf n d l2) 5 (b.toNat : Nat) (fct n : Nat) (fct n) 0 (ini a.toNat) = S at *
  refine t_X_way_27 x.S ⟨okg_i rfl rfl rfl rfl ?_, ?_⟩
  · simp only [ng, List.all_cons, List.all_nil, ngv, gwl l4, Bool.not_false, Bool.and_true]
    rfl
  rw [(x.1.bx c).2.2.2.1]
  have z := sp (fun _ h2 => R 94 53 [.ref 0, .int (I a), .int (I b), .int (I q), .ref (64 * (l2 + 1))] [] h2 P) fun h1 k1 x1 => by
    obtain ⟨m21, n21⟩ := k1.1.m26 c (q := 21) (by decide)
    have hbl : b.toNat < fct n := by omega
    have ed := (x1.2.1 b.toNat hbl).1
    have wb := wf.1.2.2.2 b.toNat hbl
    rw [← eb] at ed
    have k := k h1 (k1)
    refine t_X_way_53 k1.1.S ?_
    rw [ed]
    have key : S 0 b.toNat < 0 → T = S := fun hlt => by
      rcases gl with q1 | ⟨q1, -⟩
      · exact q1.symm
      · omega
    have key2 : 0 ≤ S 0 b.toNat → T 0 b.toNat = S 0 b.toNat ∧ ∀ q : Int, 0 ≤ q → stA T b.toNat q = stA S b.toNat q := fun h0 => by
      rcases gl with q1 | ⟨-, q1⟩
      · rw [q1]; exact ⟨rfl, fun _ _ => rfl⟩
      · exact ⟨(q1.1 _ h0).1, fun q hq => stA_ext wf.1 q1 hbl h0 hq⟩
    refine ⟨by omega, by omega, by omega, by omega, fun c6 => ?_, fun c6 => ⟨hq, fun c7 => ⟨by omega, by omega, by omega, ?_⟩, fun c7 => ?_⟩⟩
    · rw [key c6, if_pos c6] at k; exact k
    · rw [(key2 (by omega)).1, if_neg c6, if_pos c7] at k; exact k
    · rw [(key2 (by omega)).1, if_neg c6, if_neg c7, (key2 (by omega)).2 q (by omega)] at k
      have z2 := s_stepTo (P := fun v h2 => R 94 94 [.ref 0, .int (I a), .int (I b), .int (I q), .ref (64 * (l2 + 1))] (v :: []) h2 P) k1.1 c x1 wf.1 hbl (by omega) (q := q) (by omega) (t_X_way_94 k1.1.S k)
      rw [← eb] at z2
      exact z2
  rw [← ea, ← eb] at z
  exact z
end SEARCH
