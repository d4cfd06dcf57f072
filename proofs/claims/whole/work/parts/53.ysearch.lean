/-! The reference's search. -/
def YR (m : Nat) (s : St) (h : Hp) : Prop := iv h 400 31 = s 4 0 ∧ (∀ i : Nat, i < m → iv h 428 (i : Nat) = (if s 0 i < 0 then -9 else s 0 i) ∧ (1 ≤ s 0 i → iv h 430 (i : Nat) = s 1 i ∧ iv h 431 (i : Nat) = s 2 i)) ∧ ∀ i : Nat, (i : Int) < s 4 0 → iv h 429 (i : Nat) = s 3 i
theorem YR.fr {m : Nat} {s : St} {h h' : Hp} (x : YR m s h) (f : FR h h') : YR m s h' := by
  unfold YR
  refine ⟨?_, fun i hi => ?_, fun i hi => ?_⟩
  · rw [f.2 31 (by decide)]; exact x.1
  · rw [f.i (by decide) (by decide), f.i (by decide) (by decide), f.i (by decide) (by decide)]; exact x.2.1 i hi
  · rw [f.i (by decide) (by decide)]; exact x.2.2 i hi
section YSEARCH
variable {n : Nat} {d : Nat → Nat → Int} {P : Value → Hp → Prop} {h : Hp} {lo : Int}
theorem comes_ks (h : Hp) (lie : Int) (v1 v2 v3 v4 v5 v6 : Int) : KS h (setI (setI (setI (setI (setI h 428 lie v1) 430 lie v2) 431 lie v3) 429 v4 v5) 400 31 v6) := ((((KS.set (by decide) _ _).tr (KS.set (by decide) _ _)).tr (KS.set (by decide) _ _)).tr (KS.set (by decide) _ _)).tr (KS.set0 (by decide) _)
theorem comes_iv (h : Hp) (lie v1 v2 v3 v4 v5 v6 : Int) : (∀ i, iv (setI (setI (setI (setI (setI h 428 lie v1) 430 lie v2) 431 lie v3) 429 v4 v5) 400 31 v6) 428 i = if i = lie then v1 else iv h 428 i) ∧ (∀ i, iv (setI (setI (setI (setI (setI h 428 lie v1) 430 lie v2) 431 lie v3) 429 v4 v5) 400 31 v6) 430 i = if i = lie then v2 else iv h 430 i) ∧ (∀ i, iv (setI (setI (setI (setI (setI h 428 lie v1) 430 lie v2) 431 lie v3) 429 v4 v5) 400 31 v6) 431 i = if i = lie then v3 else iv h 431 i) ∧ (∀ i, iv (setI (setI (setI (setI (setI h 428 lie v1) 430 lie v2) 431 lie v3) 429 v4 v5) 400 31 v6) 429 i = if i = v4 then v5 else iv h 429 i) ∧ iv (setI (setI (setI (setI (setI h 428 lie v1) 430 lie v2) 431 lie v3) 429 v4 v5) 400 31 v6) 400 31 = v6 := by
  refine ⟨fun i => ?_, fun i => ?_, fun i => ?_, fun i => ?_, iv_eq _ _ _ _⟩
  · rw [iv_ne (by decide), iv_ne (by decide), iv_ne (by decide), iv_ne (by decide)]
    by_cases e : i = lie
    · rw [if_pos e, e, iv_eq]
    · rw [if_neg e, iv_nk e]
  · rw [iv_ne (by decide), iv_ne (by decide), iv_ne (by decide)]
    by_cases e : i = lie
    · rw [if_pos e, e, iv_eq]
    · rw [if_neg e, iv_nk e, iv_ne (by decide)]
  · rw [iv_ne (by decide), iv_ne (by decide)]
    by_cases e : i = lie
    · rw [if_pos e, e, iv_eq]
    · rw [if_neg e, iv_nk e, iv_ne (by decide), iv_ne (by decide)]
  · rw [iv_ne (by decide)]
    by_cases e : i = v4
    · rw [if_pos e, e, iv_eq]
    · rw [if_neg e, iv_nk e, iv_ne (by decide), iv_ne (by decide), iv_ne (by decide)]
theorem y_comes (x : RY n d h lo) (hn2 : 2 ≤ n) {s : St} (yr : YR (fct n) s h) (w : WF (fct n) s) {lie fr act : Nat} (hl : lie < fct n) (hf : fr < fct n) (h0 : 0 ≤ s 0 fr) (ha : 1 ≤ act ∧ act ≤ 5) (kk : ∀ h', KS h h' → YR (fct n) (rch s lie fr (act : Nat)) h' → P .null h') :
    R 181 0 [.ref 400, .int (I (lie : Nat)), .int (I (fr : Nat)), .int (I (act : Nat))] [] h P := by
  have hn := x.n7
  have f5 := fct_le (k := n) (by omega)
  have e1 := (yr.2.1 lie hl).1
  have e2 := (yr.2.1 fr hf).1
  have wl := w.2.2.2 lie hl
  have wf := w.2.2.2 fr hf
  have w1 := w.1
  have E1 : ∀ v1 v2 v3, iv (setI (setI (setI h 428 (lie : Nat) v1) 430 (lie : Nat) v2) 431 (lie : Nat) v3) 400 31 = s 4 0 := fun v1 v2 v3 => by rw [iv_ne (by decide), iv_ne (by decide), iv_ne (by decide)]; exact yr.1
  have E2 : ∀ v1 v2 v3 k v4, iv (setI (setI (setI (setI h 428 (lie : Nat) v1) 430 (lie : Nat) v2) 431 (lie : Nat) v3) 429 k v4) 400 31 = s 4 0 := fun v1 v2 v3 k v4 => by rw [iv_ne (by decide)]; exact E1 v1 v2 v3
  rw [if_neg (by omega)] at e2
  refine t_Y_comes x.S ?_
  rw [e1, e2, E1, E2, E1, E2, wr_eq (show rng (s 0 fr + 1) by omega), wr_eq (show rng (fr : Nat) by omega), wr_eq (show rng (act : Nat) by omega), wr_eq (show rng (lie : Nat) by omega), wr_eq (show rng (s 4 0 + 1) by omega)]
  by_cases c : s 0 lie < 0
  · rw [if_pos c]
    have room := wf_room w hl c
    refine ⟨by omega, by omega, by decide, fun _ => ⟨by omega, fun q => absurd q (by omega), fun _ => ⟨by omega, by omega, by omega, by omega, by omega, by omega, by omega, by omega, by omega, by omega, ?_⟩⟩, fun q => absurd rfl q⟩
    obtain ⟨g1, g2, g3, g4, g5⟩ := comes_iv h (lie : Nat) (s 0 fr + 1) (fr : Nat) (act : Nat) (s 4 0) (lie : Nat) (s 4 0 + 1)
    refine kk _ (comes_ks _ _ _ _ _ _ _ _) ?_
    obtain ⟨r0, r1, r2, r3, r4⟩ := rchN (fr := fr) (act := ((act : Nat) : Int)) c
    refine ⟨by rw [g5, r4], fun i hi => ?_, fun i hi => ?_⟩
    · rw [g1, g2, g3, r0, r1, r2]
      by_cases e : i = lie
      · have e2 : (i : Int) = (lie : Nat) := by rw [e]
        rw [if_pos e2, if_pos e2, if_pos e2, if_pos e, if_pos e, if_pos e, if_neg (by omega)]
        exact ⟨rfl, fun _ => ⟨rfl, rfl⟩⟩
      · have e2 : ¬ (i : Int) = (lie : Nat) := fun z => e (Int.ofNat.inj z)
        rw [if_neg e2, if_neg e2, if_neg e2, if_neg e, if_neg e, if_neg e]
        exact yr.2.1 i hi
    · rw [r4] at hi
      rw [g4, r3]
      by_cases e : i = (s 4 0).toNat
      · rw [if_pos (by omega), if_pos e]
      · rw [if_neg (by omega), if_neg e]
        exact yr.2.2 i (by omega)
  · rw [if_neg c]
    refine ⟨by omega, by omega, by omega, fun q => absurd q (by omega), fun _ => ?_⟩
    have z := kk h (KS.rf h)
    rw [rchY (by omega)] at z
    exact z yr
theorem ysearch_in (hn2 : 2 ≤ n) {l : Nat} (el : (l : Int) = d 0 4) (hl : (l : Int) < d 0 3) {A : Nat} (hA : A ≤ 5) {lie : Nat} (hlie : lie < fct n) {a1 : Value} {K f : Int} : ∀ (k a : Nat) (s : St) (h : Hp), 1 ≤ a → a + k = A + 1 → RY n d h → YR (fct n) s h → WF (fct n) s → 0 ≤ s 0 lie → s 0 lie + 1 ≤ s 4 0 →
    (∀ h' a5 a6, KS h h' → YR (fct n) (xpd (mvf n d l) lie k a s) h' → R 180 20 [.ref 400, a1, .int (I K), .int (I (A : Nat)), .int (I (f + 1)), a5, a6] [] h' P) →
    R 180 57 [.ref 400, a1, .int (I K), .int (I (A : Nat)), .int (I f), .int (I (lie : Nat)), .int (I (a : Nat))] [] h P := by
  intro k
  induction k with
  | zero =>
    intro a s h ha hk x yr w h0 h1 kk
    exact t_Y_search_57 x.S ⟨by omega, by omega, fun _ => kk h _ _ (KS.rf h) yr, fun q => absurd (by omega) q⟩
  | succ k ih =>
    intro a s h ha hk x yr w h0 h1 kk
    have hn := x.n7
    have hn7 : 2 ≤ n ∧ n ≤ 7 := by omega
    have go : ∀ (m : Nat) (pc : Nat) (h1 : Hp), (pc = 82 ∨ pc = 97 ∨ pc = 106) → mvf n d l a lie = m → FR h h1 → R 180 pc [.ref 400, a1, .int (I K), .int (I (A : Nat)), .int (I f), .int (I (lie : Nat)), .int (I (a : Nat))] [.int (I (m : Nat)), .ref 400] h1 P := by
      intro m pc h2 hpc hm f1
      have x1 := x.ks f1.ks
      have ml := mvf_lt (d := d) (l := l) hn7 a lie ha (by omega) hlie
      rw [hm] at ml
      have z : R 181 0 [.ref 400, .int (I (m : Nat)), .int (I (lie : Nat)), .int (I (a : Nat))] [] h2 (fun _ h2 => R 180 113 [.ref 400, a1, .int (I K), .int (I (A : Nat)), .int (I f), .int (I (lie : Nat)), .int (I (a : Nat))] [] h2 P) := by
        refine y_comes x1 hn2 (yr.fr f1) w ml hlie h0 (by omega) fun h3 k3 yr3 => ?_
        have x3 := x1.ks k3
        refine t_Y_search_113 x3.S ?_
        have e := rch_ext s m lie ((a : Nat) : Int) w.1.1
        have w1 := rch_wf w ml hlie h0 h1 (act := ((a : Nat) : Int)) (by omega)
        have e0 := (e.1 lie h0).1
        refine ih (a + 1) _ h3 (by omega) (by omega) x3 yr3 w1 (by omega) (by have := e.2.1; omega) fun h' a5 a6 k4 yr4 => kk h' a5 a6 ((f1.ks.tr k3).tr k4) ?_
        rw [xpd, hm]
        exact yr4
      rcases hpc with rfl | rfl | rfl
      · exact t_Y_search_82 x1.S z
      · exact t_Y_search_97 x1.S z
      · exact t_Y_search_106 x1.S z
    refine t_Y_search_57 x.S ?_
    rw [x.l4.1, ← el]
    refine ⟨by omega, by omega, fun q => absurd q (by omega), fun _ => ⟨by omega, fun c => ?_, fun c => ⟨by omega, fun c2 => ?_, fun c2 => ?_⟩⟩⟩
    · refine y_nextOf x (by decide) hn2 hl (by omega) hlie fun h1 f1 => go _ 82 h1 (Or.inl rfl) ?_ f1
      unfold mvf
      rw [if_neg (by omega), if_neg (by omega)]
    · refine y_turned x hn2 hlie fun h1 f1 => go _ 97 h1 (by decide) ?_ f1
      unfold mvf
      rw [if_pos (by omega)]
    · refine y_spooned x hn2 hlie fun h1 f1 w1 => go _ 106 h1 (by decide) ?_ f1
      unfold mvf
      rw [if_neg (by omega), if_pos (by omega)]
theorem ysearch_out (hn2 : 2 ≤ n) {l : Nat} (el : (l : Int) = d 0 4) (hl : (l : Int) < d 0 3) {A : Nat} (hA : A ≤ 5) {K : Int} (hK : rng K) {a1 : Value} : ∀ (k f : Nat) (s : St) (h : Hp) (a5 a6 : Value), f + k = fct n → RY n d h → YR (fct n) s h → WF (fct n) s → (∀ h', KS h h' → YR (fct n) (bfs (mvf n d l) A (-9) K k f s) h' → P .null h') →
    R 180 20 [.ref 400, a1, .int (I K), .int (I (A : Nat)), .int (I (f : Nat)), a5, a6] [] h P := by
  intro k
  induction k with
  | zero =>
    intro f s h a5 a6 hf x yr w kk
    have hn := x.n7
    have f5 := fct_le (k := n) (by omega)
    have w1 := w.1
    refine t_Y_search_20 x.S ?_
    rw [yr.1]
    exact ⟨by omega, by omega, fun q => absurd q (by omega), fun _ => kk h (KS.rf h) yr⟩
  | succ k ih =>
    intro f s h a5 a6 hf x yr w kk
    have hn := x.n7
    have hn7 : 2 ≤ n ∧ n ≤ 7 := by omega
    have f5 := fct_le (k := n) (by omega)
    have w1 := w.1
    rw [bfs] at kk
    refine t_Y_search_20 x.S ?_
    rw [yr.1]
    refine ⟨by omega, by omega, fun c => ?_, fun c => ?_⟩
    · rw [if_pos c] at kk
      obtain ⟨v1, v2, v3⟩ := w.2.1 f c
      have eq := yr.2.2 f c
      obtain ⟨y, ey⟩ : ∃ y : Nat, s 3 f = y := ⟨(s 3 f).toNat, by omega⟩
      rw [ey, show ((y : Nat) : Int).toNat = y from rfl] at v2 v3 kk
      rw [ey] at eq v1
      have ed := (yr.2.1 y (by omega)).1
      rw [if_neg (by omega)] at ed
      rw [if_neg (show ¬ ((y : Nat) : Int) = -9 by omega)] at kk
      rw [eq, ed]
      refine ⟨by omega, by omega, by omega, by omega, by omega, hK, fun c3 => ⟨by omega, by omega, ?_⟩, fun c3 => ?_⟩
      · rw [if_pos c3] at kk
        have g1 := (xpd_wf (mv := mvf n d l) (lie := y) (by omega) (fun a h1 h2 => mvf_lt (d := d) (l := l) hn7 a _ h1 h2 (by omega)) A 1 s (by omega) (by omega) w v2 (by omega)).1
        exact ysearch_in hn2 el hl hA (lie := y) (by omega) A 1 s h (by omega) (by omega) x yr w v2 (by omega) fun h1 a5 a6 k1 y1 => ih (f + 1) _ h1 a5 a6 (by omega) (x.ks k1) y1 g1 fun h' k2 y2 => kk h' (k1.tr k2) y2
      · rw [if_neg c3] at kk; exact kk h (KS.rf h) yr
    · rw [if_neg c] at kk; exact kk h (KS.rf h) yr
theorem y_search (x : RY n d h) (hn2 : 2 ≤ n) {l : Nat} (el : (l : Int) = d 0 4) (hl : (l : Int) < d 0 3) {A : Nat} (hA : A ≤ 5) {K : Int} (hK : rng K) {x0 : Nat} (hx : x0 < fct n) (kk : ∀ h', KS h h' → YR (fct n) (bfs (mvf n d l) A (-9) K (fct n) 0 (ini x0)) h' → P .null h') :
    R 180 0 [.ref 400, .int (I (x0 : Nat)), .int (I K), .int (I (A : Nat)), .retAddr 0, .retAddr 0, .retAddr 0] [] h P := by
  have hn := x.n7
  have f5 := fct_le (k := n) (by omega)
  refine t_Y_search x.S (y_clearMet x hn2 fun h1 k1 g1 => t_Y_search_4 (x.ks k1).S ?_)
  have x1 := x.ks k1
  have k2 : KS h1 (setI h1 400 31 0) := KS.set0 (by decide) 0
  have x2 := x1.ks k2
  have g2 : ∀ y : Nat, y < fct n → iv (setI h1 400 31 0) 428 y = -9 := fun y hy => by rw [iv_ne (by decide)]; exact g1 y hy
  have e31 : iv (setI h1 400 31 0) 400 31 = 0 := iv_eq _ _ _ _
  generalize setI h1 400 31 0 = h2 at *
  have E1 : ∀ v1 v2 v3, iv (setI (setI (setI h2 428 (x0 : Nat) v1) 430 (x0 : Nat) v2) 431 (x0 : Nat) v3) 400 31 = 0 := fun v1 v2 v3 => by rw [iv_ne (by decide), iv_ne (by decide), iv_ne (by decide)]; exact e31
  have E2 : ∀ v1 v2 v3 k v4, iv (setI (setI (setI (setI h2 428 (x0 : Nat) v1) 430 (x0 : Nat) v2) 431 (x0 : Nat) v3) 429 k v4) 400 31 = 0 := fun v1 v2 v3 k v4 => by rw [iv_ne (by decide)]; exact E1 v1 v2 v3
  refine t_Y_comes x2.S ?_
  rw [g2 x0 hx, E1, E2, wr_eq (show rng (x0 : Nat) by omega)]
  refine ⟨by omega, by omega, by decide, fun _ => ⟨by decide, fun _ => ⟨by omega, by omega, by omega, by omega, by omega, by omega, by decide, by decide, ?_⟩, fun q => absurd rfl q⟩, fun q => absurd rfl q⟩
  have k3 := comes_ks h2 (x0 : Nat) 0 (wr (-9)) (wr 0) 0 (x0 : Nat) (wr (0 + 1))
  have yr : YR (fct n) (ini x0) (setI (setI (setI (setI (setI h2 428 (x0 : Nat) 0) 430 (x0 : Nat) (wr (-9))) 431 (x0 : Nat) (wr 0)) 429 0 (x0 : Nat)) 400 31 (wr (0 + 1))) := by
    obtain ⟨g1, g2', g3, g4, g5⟩ := comes_iv h2 (x0 : Nat) 0 (wr (-9)) (wr 0) 0 (x0 : Nat) (wr (0 + 1))
    refine ⟨?_, fun i hi => ?_, fun i hi => ?_⟩
    · rw [g5]
      exact wr_eq (by decide)
    · have e0 : ini x0 0 i = if i = x0 then 0 else -1 := rfl
      rw [e0, g1]
      by_cases e : i = x0
      · have e2 : (i : Int) = (x0 : Nat) := by rw [e]
        rw [if_pos e2, if_pos e]
        exact ⟨rfl, fun q => absurd q (by decide)⟩
      · have e2 : ¬ (i : Int) = (x0 : Nat) := fun z => e (Int.ofNat.inj z)
        rw [if_neg e2, if_neg e, g2 i hi]
        exact ⟨rfl, fun q => absurd q (by decide)⟩
    · have e4 : ini x0 4 0 = 1 := rfl
      have e3 : ini x0 3 i = (x0 : Nat) := rfl
      rw [e4] at hi
      have : i = 0 := by omega
      subst this
      rw [e3, g4]
      exact if_pos rfl
  have x3 := x2.ks k3
  refine t_Y_search_17 x3.S ?_
  exact ysearch_out hn2 el hl hA hK (fct n) 0 (ini x0) _ _ _ (by omega) x3 yr (ini_wf hx) fun h' k4 y4 => kk h' (((k1.tr k2).tr k3).tr k4) y4
theorem act_loop (x : RY n d h) (hn2 : 2 ≤ n) {s : St} (yr : YR (fct n) s h) (w : WF (fct n) s) {q : Int} (hq : 0 ≤ q) {a1 : Value} : ∀ (k y : Nat), y < fct n → (k : Int) + 1 + q = s 0 y → P (.int (I (s 2 (pth s k y)))) h →
    R 182 2 [.ref 400, a1, .int (I q), .int (I (y : Nat))] [] h P := by
  have hn := x.n7
  have f5 := fct_le (k := n) (by omega)
  intro k
  induction k with
  | zero =>
    intro y hy hk kk
    have wy := w.2.2.2 y hy
    obtain ⟨e1, e2⟩ := yr.2.1 y hy
    rw [if_neg (by omega)] at e1
    refine t_Y_actOf_2 x.S ?_
    rw [e1, (e2 (by omega)).2]
    exact ⟨by omega, by omega, by omega, by omega, fun c => absurd c (by omega), fun _ => ⟨by omega, by omega, kk⟩⟩
  | succ k ih =>
    intro y hy hk kk
    have wy := w.2.2.2 y hy
    obtain ⟨e1, e2⟩ := yr.2.1 y hy
    rw [if_neg (by omega)] at e1
    obtain ⟨u1, u2, u3⟩ := wy.2.2 (by omega)
    refine t_Y_actOf_2 x.S ?_
    rw [e1, (e2 (by omega)).1]
    refine ⟨by omega, by omega, by omega, by omega, fun _ => ⟨by omega, by omega, ?_⟩, fun c => absurd (by omega) c⟩
    have z := ih (s 1 y).toNat (by omega) (by omega) kk
    rw [show (((s 1 y).toNat : Nat) : Int) = s 1 y by omega] at z
    exact z
theorem y_actOf (x : RY n d h) (hn2 : 2 ≤ n) {s : St} (yr : YR (fct n) s h) (w : WF (fct n) s) {b : Nat} (hb : b < fct n) {q : Int} (hq : 0 ≤ q) (hlt : q < s 0 b) (kk : P (.int (I (stA s b q))) h) : R 182 0 [.ref 400, .int (I (b : Nat)), .int (I q), .retAddr 0] [] h P := by
  unfold stA at kk
  rw [if_pos hlt] at kk
  exact t_Y_actOf x.S (act_loop x hn2 yr w hq (s 0 b - 1 - q).toNat b hb (by omega) kk)
theorem yplan_loop (hn2 : 2 ≤ n) {S : St} (w : WF (fct n) S) {aim q : Int} (haim : aim = 0 ∨ aim = 1) (hq : -2 ≤ q ∧ q < 9) {a2 : Value} : ∀ (k f b : Nat) (h : Hp) (a8 : Value), ((f : Nat) : Int) + k = S 4 0 → 1 ≤ f → RY n d h → YR (fct n) S h → b < fct n → 0 ≤ S 0 b →
    (∀ h', KY n d h h' → P (.int (I (plE (fun y => valA n d y aim) S q (bst (fun y => valA n d y aim) (fun i => (S 3 i).toNat) k f b)))) h') →
    R 179 82 [.ref 400, .int (I aim), a2, .int (I q), .int (I (b : Nat)), .int (I (valA n d b aim)), .int (I (f : Nat)), a8] [] h P := by
  intro k
  induction k with
  | zero =>
    intro f b h a8 hf hf1 x yr hb h0 kk
    have hn := x.n7
    have f5 := fct_le (k := n) (by omega)
    have w1 := w.1
    have wb := w.2.2.2 b hb
    have eb := (yr.2.1 b hb).1
    rw [if_neg (by omega)] at eb
    have kk := kk h (KY.rf x)
    unfold plE at kk
    rw [bst] at kk
    refine t_Y_plan_82 x.S ?_
    rw [yr.1, eb]
    refine ⟨by omega, by omega, fun c => absurd c (by omega), fun _ => ⟨by omega, fun c => ⟨by omega, fun c2 => ?_, fun c2 => ⟨by omega, by omega, ?_⟩⟩, fun c => ⟨by omega, by omega, by omega, by omega, fun c2 => ?_, fun c2 => ?_⟩⟩⟩
    · rw [if_pos c2] at kk; exact kk
    · rw [if_neg c2, if_pos (by omega)] at kk; exact kk
    · rw [if_neg (by omega), if_neg (by omega)] at kk
      exact y_actOf x hn2 yr w hb (by omega) c2 (t_Y_plan_171 x.S kk)
    · rw [if_neg (by omega), if_neg (by omega)] at kk
      unfold stA at kk
      rw [if_neg c2] at kk
      exact kk
  | succ k ih =>
    intro f b h a8 hf hf1 x yr hb h0 kk
    have hn := x.n7
    have hn7 : 2 ≤ n ∧ n ≤ 7 := by omega
    have f5 := fct_le (k := n) (by omega)
    have w1 := w.1
    have fl_ : ((f : Nat) : Int) < S 4 0 := by omega
    have eq := yr.2.2 f fl_
    obtain ⟨v1, v2, v3⟩ := w.2.1 f fl_
    obtain ⟨y, ey⟩ : ∃ y : Nat, S 3 f = y := ⟨(S 3 f).toNat, by omega⟩
    have ey2 : (S 3 f).toNat = y := by rw [ey]; rfl
    have vb := valA_bd (d := d) (w := aim) hn7 x.gb hb
    have vq := valA_bd (d := d) (w := aim) hn7 x.gb (lie := y) (by omega)
    rw [bst, ey2] at kk
    rw [ey2] at v2
    rw [ey] at eq
    refine t_Y_plan_82 x.S ?_
    rw [yr.1, eq]
    refine ⟨by omega, by omega, fun _ => ⟨by omega, by omega, ?_⟩, fun c => absurd (by omega) c⟩
    refine y_valueOf x hn2 (lie := y) (by omega) haim fun h1 f1 => ?_
    have x1 := x.ks f1.ks
    have y1 := yr.fr f1
    have eq1 := y1.2.2 f fl_
    refine t_Y_plan_103 x1.S ?_
    rw [eq1, ey]
    refine ⟨by omega, by omega, fun c => ⟨by omega, by omega, ?_⟩, fun c => ?_⟩
    · rw [if_pos c] at kk
      exact ih (f + 1) y h1 _ (by omega) (by omega) x1 y1 (by omega) v2 fun h' k2 => kk h' ((x.k f1.ks).tr k2)
    · rw [if_neg c] at kk
      exact ih (f + 1) b h1 _ (by omega) (by omega) x1 y1 hb h0 fun h' k2 => kk h' ((x.k f1.ks).tr k2)
theorem y_plan (x : RY n d h) {aim K q : Int} (hai : rng aim) (hK : rng K) (hq : rng q) (k : ∀ h', KY n d h h' → P (.int (I (planA n d aim K q))) h') : R 179 0 [.ref 400, .int (I aim), .int (I K), .int (I q), .retAddr 0, .retAddr 0, .retAddr 0, .retAddr 0] [] h P := by
  unfold planA at k
  have hn := x.n7
  have l3 := x.l3
  refine t_Y_plan x.S (y_within hai (by decide) (by decide) (fun c => ?_) (fun c => ?_))
  · refine t_Y_plan_6 x.S ⟨by decide, fun q => absurd q (by decide), fun _ => y_within hK (by decide) (by decide) (fun c2 => ?_) (fun c2 => ?_)⟩
    · rw [if_neg (by omega)] at k
      refine t_Y_plan_16 x.S ⟨by decide, fun q => absurd q (by decide), fun _ => y_within hq (by decide) (by decide) (fun c3 => ?_) (fun c3 => ?_)⟩
      · rw [if_neg (by omega)] at k
        refine t_Y_plan_30 x.S ?_
        rw [x.g, l3.1]
        refine ⟨by decide, fun q => absurd q (by decide), fun _ => ⟨by omega, fun c4 => ?_, fun c4 => ⟨by omega, fun c5 => ?_, fun c5 => ?_⟩⟩⟩
        · rw [if_pos (by omega)] at k; exact k h (KY.rf x)
        · rw [if_pos (by omega)] at k; exact k h (KY.rf x)
        · rw [if_neg (by omega)] at k
          have hn2 : 2 ≤ n := by omega
          have hn7 : 2 ≤ n ∧ n ≤ 7 := by omega
          have f5 := fct_le hn7.2
          obtain ⟨l2, el, hl2, e2⟩ := x.inF c5
          obtain ⟨l, l1, l2', l3'⟩ := x.l1 hn2
          have wf := bfs_wf (mv := mvf n d l2) (A := 3) (by decide) (mvf_lt (d := d) (l := l2) hn7) (goal := -9) (most := K) (fct n) 0 _ (ini_wf (x := l) l2')
          have hS : planS n d K = bfs (mvf n d l2) 3 (-9) K (fct n) 0 (ini l) := by
            unfold planS
            rw [e2, l1]
            rfl
          unfold planB at k
          rw [hS, l1, show ((l : Nat) : Int).toNat = l from rfl] at k
          rw [l3']
          refine y_search x hn2 el hl2 (A := 3) (by decide) hK l2' fun h1 k1 y1 => ?_
          generalize bfs (mvf n d l2) 3 (-9) K (fct n) 0 (ini l) = S at *
          have x1 := x.ks k1
          have e0 : ini l 0 l = 0 := by
            show (if l = l then (0 : Int) else -1) = 0
            exact if_pos rfl
          have S0 := (wf.2.1 l (by omega)).1
          have S3 : S 3 0 = (l : Nat) := wf.2.2.2 0 (show ((0 : Nat) : Int) < 1 by decide)
          have w1 := wf.1.1
          have q0 : iv h1 429 0 = (l : Nat) := by
            have := y1.2.2 0 (by omega)
            rw [S3] at this
            exact this
          refine t_Y_plan_62 x1.S ?_
          rw [q0]
          refine y_valueOf x1 hn2 l2' (by omega) fun h2 f2 => ?_
          have x2 := x1.ks f2.ks
          refine t_Y_plan_77 x2.S ?_
          exact yplan_loop (P := P) hn2 wf.1 (by omega) (by omega) (S 4 0 - 1).toNat 1 l h2 _ (by omega) (Nat.le_refl _) x2 (y1.fr f2) l2' (by omega) fun h' k3 => k h' ((x.k (k1.tr f2.ks)).tr k3)
      · rw [if_pos (by omega)] at k
        exact t_Y_plan_30 x.S ⟨by decide, fun _ => k h (KY.rf x), fun q => absurd rfl q⟩
    · rw [if_pos (by omega)] at k
      exact t_Y_plan_16 x.S ⟨by decide, fun _ => k h (KY.rf x), fun q => absurd rfl q⟩
  · rw [if_pos (by omega)] at k
    exact t_Y_plan_6 x.S ⟨by decide, fun _ => k h (KY.rf x), fun q => absurd rfl q⟩
theorem y_way (x : RY n d h) {a b q : Int} (ha : rng a) (hb : rng b) (hq : rng q) (k : ∀ h', KY n d h h' → P (.int (I (wayA n d a b q))) h') : R 183 0 [.ref 400, .int (I a), .int (I b), .int (I q)] [] h P := by
  unfold wayA at k
  have hn := x.n7
  have l3 := x.l3
  refine t_Y_way x.S (y_isLie x ha (fun c => ?_) (fun c => ?_))
  · refine t_Y_way_5 x.S ⟨by decide, fun q => absurd q (by decide), fun _ => y_isLie x hb (fun c2 => ?_) (fun c2 => ?_)⟩
    · refine t_Y_way_13 x.S ?_
      rw [l3.1]
      refine ⟨by decide, fun q => absurd q (by decide), fun _ => ⟨hq, fun c3 => ?_, fun c3 => ⟨by omega, fun c4 => ?_, fun c4 => ?_⟩⟩⟩
      · rw [if_pos (by omega)] at k; exact k h (KY.rf x)
      · rw [if_neg (by omega), if_pos c4] at k; exact k h (KY.rf x)
      · rw [if_neg (by omega), if_neg c4] at k
        have hn2 := lie_n x.n7 c
        have hn7 : 2 ≤ n ∧ n ≤ 7 := by omega
        have f5 := fct_le hn7.2
        rw [lies_pos hn2] at c c2
        obtain ⟨l2, el, hl2, e2⟩ := x.inF c4
        obtain ⟨a, rfl⟩ : ∃ m : Nat, a = m := ⟨a.toNat, by omega⟩
        obtain ⟨b, rfl⟩ : ∃ m : Nat, b = m := ⟨b.toNat, by omega⟩
        have wf := bfs_wf (mv := mvf n d l2) (A := 5) (by decide) (mvf_lt (d := d) (l := l2) hn7) (goal := -9) (most := 5040) (fct n) 0 _ (ini_wf (x := a) (by omega))
        have hS : wayS n d (a : Nat) = bfs (mvf n d l2) 5 (-9) 5040 (fct n) 0 (ini a) := by
          unfold wayS
          rw [e2]
          rfl
        rw [hS, show ((b : Nat) : Int).toNat = b from rfl] at k
        refine y_search x hn2 el hl2 (A := 5) (by decide) (by decide) (x0 := a) (by omega) fun h1 k1 y1 => ?_
        generalize bfs (mvf n d l2) 5 (-9) 5040 (fct n) 0 (ini a) = S at *
        have x1 := x.ks k1
        have wb := wf.1.2.2.2 b (by omega)
        have eb := (y1.2.1 b (by omega)).1
        have k := k h1 (x.k k1)
        refine t_Y_way_42 x1.S ?_
        rw [eb]
        by_cases c6 : S 0 b < 0
        · rw [if_pos c6] at k ⊢
          exact ⟨by omega, by omega, by decide, fun _ => k, fun q => absurd rfl q⟩
        · rw [if_neg c6] at k ⊢
          refine ⟨by omega, by omega, by omega, fun q => absurd q (by omega), fun _ => ⟨hq, fun c7 => ⟨by omega, by omega, ?_⟩, fun c7 => ⟨by omega, by omega, hq, by omega, fun c8 => ?_, fun c8 => ?_⟩⟩⟩
          · rw [if_pos c7] at k; exact k
          · rw [if_neg c7] at k
            exact y_actOf x1 hn2 y1 wf.1 (by omega) (by omega) c8 (t_Y_way_86 x1.S k)
          · rw [if_neg c7] at k
            unfold stA at k
            rw [if_neg c8] at k
            exact k
    · rw [if_pos (by omega)] at k
      exact t_Y_way_13 x.S ⟨by decide, fun _ => k h (KY.rf x), fun q => absurd rfl q⟩
  · rw [if_pos (by omega)] at k
    exact t_Y_way_5 x.S ⟨by decide, fun _ => k h (KY.rf x), fun q => absurd rfl q⟩
end YSEARCH
