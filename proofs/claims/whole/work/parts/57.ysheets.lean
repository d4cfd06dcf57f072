/-! The reference: readings, sheets. -/
section YSHEETS
variable {n : Nat} {d : Nat → Nat → Int} {P : Value → Hp → Prop} {h : Hp}
theorem RY.sht2 {d' : Nat → Nat → Int} {h' : Hp} (x : RY n d h) {k : Nat} (a : Fr (fun r => r == 403 || r == 404 || r == 405) h h') (hd0 : ∀ i, d' 0 i = d 0 i) (hdf : ∀ f, 1 ≤ f → f ≤ 9 → d' f = d f)
    (hk' : ∀ k', k' < 4 → k' ≠ k → d' 10 k' = d 10 k' ∧ d' 11 k' = d 11 k' ∧ iv h' 403 k' = iv h 403 k' ∧ iv h' 404 k' = iv h 404 k' ∧ ∀ i : Nat, i < 60 → d' 12 (60 * k' + i) = d 12 (60 * k' + i) ∧ iv h' 405 ((60 * k' + i : Nat) : Int) = iv h 405 ((60 * k' + i : Nat) : Int)) (o : SHY d' h' k) : KY n d' h h' := by
  have i4 : ∀ z, iv h' 400 z = iv h 400 z := fun z => a.i rfl z
  have c0 := x.2.1
  have c34 := x.2.2.2.2.2.2.2.1
  refine x.st a (fun r hr => ?_) (fun z _ _ => i4 z) (fun f h1 h2 => hdf f h1 (by omega)) (fun i _ _ => hd0 i) ?_ ?_ (fun r hr h8 => ?_) (fun k2 hk2 => ?_)
  · simp only [Bool.or_eq_true, beq_iff_eq] at hr
    omega
  · rw [i4, hd0]; exact c0
  · rw [i4, hd0]; exact c34
  · rw [hd0] at hr
    rw [hdf 8 (by decide) (by decide), hdf 9 (by decide) (by decide), a.i rfl, a.i rfl]
    exact x.rd hr
  · by_cases e : k2 = k
    · rw [e]; exact o
    · obtain ⟨p1, p2, p3, p4, p5⟩ := hk' k2 hk2 e
      obtain ⟨c1, c2, c3, c4, c5⟩ := x.sh hk2
      unfold SHY
      rw [p1, p2, p3, p4]
      refine ⟨c1, c2, c3, c4, fun i hi => ?_⟩
      rw [(p5 i hi).1, (p5 i hi).2]
      exact c5 i hi
theorem FSh (h : Hp) {q : Nat} (hq : q = 403 ∨ q = 404 ∨ q = 405) (k v : Int) : Fr (fun r => r == 403 || r == 404 || r == 405) h (setI h q k v) := Fr.set h k v (by rcases hq with rfl | rfl | rfl <;> rfl)
theorem sheet_loop {k : Nat} (hk : k < 4) {a2 a3 : Value} : ∀ (r c : Nat) (h : Hp), YS h → c + r = 60 → (∀ h', Fr (fun r => r == 403 || r == 404 || r == 405) h h' → (∀ r z, r ≠ 405 → iv h' r z = iv h r z) → (∀ z : Int, iv h' 405 z = if 60 * (k : Int) + (c : Int) ≤ z ∧ z < 60 * (k : Int) + 60 then 0 else iv h 405 z) → P (.int (I 1)) h') →
    R 195 57 [.ref 400, .int (I (k : Nat)), a2, a3, .int (I (c : Nat))] [] h P := by
  intro r
  induction r with
  | zero =>
    intro c h S hc kk
    refine t_Y_sheet_57 S ⟨by omega, fun q => absurd q (by omega), fun _ => kk h (Fr.rf _ _) (fun _ _ _ => rfl) fun z => ?_⟩
    rw [if_neg (by omega)]
  | succ r ih =>
    intro c h S hc kk
    refine t_Y_sheet_57 S ⟨by omega, fun _ => ⟨by omega, by omega, ?_⟩, fun q => absurd (by omega) q⟩
    have f := FSh h (q := 405) (by decide) (60 * (k : Int) + (c : Int)) 0
    refine ih (c + 1) _ (f.y S) (by omega) fun h' f2 g1 g2 => kk h' (f.tr f2) (fun r z hr => (g1 r z hr).trans (iv_ne hr)) fun z => ?_
    rw [g2 z, iv_setI]
    by_cases c1 : z = 60 * (k : Int) + (c : Int)
    · rw [if_neg (by omega), if_pos ⟨rfl, c1⟩, if_pos (by omega)]
    · by_cases c2 : 60 * (k : Int) + ((c + 1 : Nat) : Int) ≤ z ∧ z < 60 * (k : Int) + 60
      · rw [if_pos c2, if_pos (by omega)]
      · rw [if_neg c2, if_neg (by omega), if_neg (by omega)]
theorem y_sheet (x : RY n d h) {k s m : Int} (hk : rng k) (hs : rng s) (hm : rng m) (kk : ∀ h', KY n (sheetD d k s m) h h' → P (.int (I (sheetV k s m))) h') : R 195 0 [.ref 400, .int (I k), .int (I s), .int (I m), .retAddr 0] [] h P := by
  unfold sheetV sheetD at kk
  have k1 := x.up7 (v := 0) (by decide)
  have x1 := k1.1
  refine t_Y_sheet x.S (y_isSheet hk (fun c => ?_) (fun c => ?_))
  · have c0 : ¬ (k < 0 ∨ 3 < k) := by omega
    rw [if_neg c0, if_neg c0] at kk
    have bad : (s < 0 ∨ 2 < s ∨ 60 < m) → P (.int (I (-2))) (setI h 400 0 0) := fun c1 => by
      rw [if_pos c1, if_pos c1] at kk; exact kk _ k1
    refine t_Y_sheet_9 x1.S ⟨by decide, fun q => absurd q (by decide), fun _ => y_isSort hs (fun c2 => ?_) (fun c2 => t_Y_sheet_18 x1.S ⟨by decide, fun _ => bad (by omega), fun q => absurd rfl q⟩)⟩
    refine t_Y_sheet_18 x1.S ⟨by decide, fun q => absurd q (by decide), fun _ => ⟨hm, fun c3 => bad (by omega), fun c3 => ⟨hm, fun c4 => ?_, fun c4 => ?_⟩⟩⟩
    · have c1 : ¬ (s < 0 ∨ 2 < s ∨ 60 < m) := by omega
      rw [if_neg c1, if_neg c1, if_pos c4, if_pos c4] at kk
      refine y_fails x1 (by decide) fun h2 k2 => ?_
      have k3 := k1.tr k2
      rw [up_up] at k3
      exact t_Y_sheet_39 k3.1.S (kk h2 k3)
    · have c1 : ¬ (s < 0 ∨ 2 < s ∨ 60 < m) := by omega
      rw [if_neg c1, if_neg c1, if_neg c4, if_neg c4] at kk
      obtain ⟨k, rfl⟩ : ∃ q : Nat, k = q := ⟨k.toNat, by omega⟩
      have em : ((k : Nat) : Int).toNat = k := rfl
      rw [em] at kk
      rw [wr_eq hs, wr_eq hm]
      have f1 := (FSh (setI h 400 0 0) (q := 403) (by decide) (k : Nat) s).tr (FSh _ (q := 404) (by decide) (k : Nat) m)
      refine ⟨by omega, by omega, by omega, by omega, sheet_loop (P := P) (k := k) (by omega) 60 0 _ (f1.y x1.S) (by decide) fun h' f2 g1 g2 => kk h' (k1.tr ?_)⟩
      have sd : ∀ f i, ¬ (f = 10 ∧ i = k) → ¬ (f = 11 ∧ i = k) → ¬ (f = 12 ∧ 60 * k ≤ i ∧ i < 60 * k + 60) → shtD (up d 0 7 0) k s m f i = up d 0 7 0 f i := fun f i h1 h2 h3 => by
        unfold shtD
        rw [if_neg h1, if_neg h2, if_neg h3]
      have s10 : shtD (up d 0 7 0) k s m 10 k = s := if_pos ⟨rfl, rfl⟩
      have s11 : shtD (up d 0 7 0) k s m 11 k = m := (if_neg (by omega)).trans (if_pos ⟨rfl, rfl⟩)
      refine x1.sht2 (k := k) (f1.tr f2) (fun i => sd _ _ (by omega) (by omega) (by omega)) (fun f h1 h2 => funext fun i => sd _ _ (by omega) (by omega) (by omega)) (fun k' h1 h2 => ⟨sd _ _ (by omega) (by omega) (by omega), sd _ _ (by omega) (by omega) (by omega), ?_, ?_, fun i hi => ⟨sd _ _ (by omega) (by omega) (by omega), ?_⟩⟩) ?_
      · rw [g1 403 _ (by decide), iv_ne (by decide), iv_nk (by omega)]
      · rw [g1 404 _ (by decide), iv_nk (by omega), iv_ne (by decide)]
      · rw [g2, if_neg (by omega), iv_ne (by decide), iv_ne (by decide)]
      · unfold SHY
        rw [s10, s11, g1 403 _ (by decide), iv_ne (by decide), iv_eq, g1 404 _ (by decide), iv_eq]
        refine ⟨rfl, by omega, rfl, by omega, fun i hi => ?_⟩
        have e12 : shtD (up d 0 7 0) k s m 12 (60 * k + i) = 0 := (if_neg (by omega)).trans ((if_neg (by omega)).trans (if_pos ⟨rfl, by omega, by omega⟩))
        rw [g2, if_pos (by omega), e12]
        exact ⟨rfl, by decide⟩
  · have c0 : k < 0 ∨ 3 < k := by omega
    rw [if_pos c0, if_pos c0] at kk
    exact t_Y_sheet_9 x1.S ⟨by decide, fun _ => kk _ k1, fun q => absurd rfl q⟩
theorem y_lose (x : RY n d h) {k : Int} (hk : rng k) (kk : ∀ h', KY n (loseD d k) h h' → P (.int (I (loseV d k))) h') : R 196 0 [.ref 400, .int (I k), .retAddr 0] [] h P := by
  unfold loseV loseD at kk
  refine t_Y_lose x.S (y_isSheet hk (fun c => ?_) (fun c => ?_))
  · have c0 : ¬ (k < 0 ∨ 3 < k) := by omega
    rw [if_neg c0, if_neg c0] at kk
    obtain ⟨k, rfl⟩ : ∃ q : Nat, k = q := ⟨k.toNat, by omega⟩
    have em : ((k : Nat) : Int).toNat = k := rfl
    rw [em] at kk
    obtain ⟨c1, c2, c3, c4, c5⟩ := x.sh (k := k) (by omega)
    have k1 : KY n (up d 10 k (-9)) h (setI h 403 (k : Nat) (-9)) := by
      refine x.sht2 (k := k) (FSh h (by decide) _ _) (fun i => up_ne (by omega)) (fun f h1 h2 => up_f (by omega)) (fun k' h1 h2 => ⟨up_ne (by omega), up_ne (by omega), iv_nk (by omega), iv_ne (by decide), fun i hi => ⟨up_ne (by omega), iv_ne (by decide)⟩⟩) ?_
      unfold SHY
      rw [up_at, up_ne (by omega), iv_eq, iv_ne (by decide)]
      refine ⟨rfl, Or.inl rfl, c3, c4, fun i hi => ?_⟩
      rw [up_ne (by omega), iv_ne (by decide)]
      exact c5 i hi
    refine t_Y_lose_4 x.S ?_
    rw [c1]
    refine ⟨by decide, fun q => absurd q (by decide), fun _ => ⟨by omega, by omega, by omega, fun e => ⟨by omega, by omega, ?_⟩, fun e => ⟨by omega, by omega, ?_⟩⟩⟩
    · rw [if_pos e] at kk; exact kk _ k1
    · rw [if_neg e] at kk; exact kk _ k1
  · have c0 : k < 0 ∨ 3 < k := by omega
    rw [if_pos c0, if_pos c0] at kk
    exact t_Y_lose_4 x.S ⟨by decide, fun _ => kk _ (KY.rf x), fun q => absurd rfl q⟩
theorem y_put (x : RY n d h) {k i v : Int} (hk : rng k) (hi : rng i) (hv : rng v) (kk : ∀ h', KY n (putD d k i v) h h' → P (.int (I (putV d k i))) h') : R 197 0 [.ref 400, .int (I k), .int (I i), .int (I v)] [] h P := by
  unfold putV putD at kk
  have k1 := x.up7 (v := 0) (by decide)
  have x1 := k1.1
  refine t_Y_put x.S (y_isSheet hk (fun c => ?_) (fun c => ?_))
  · have c0 : ¬ (k < 0 ∨ 3 < k) := by omega
    rw [if_neg c0, if_neg c0] at kk
    obtain ⟨k, rfl⟩ : ∃ q : Nat, k = q := ⟨k.toNat, by omega⟩
    have em : ((k : Nat) : Int).toNat = k := rfl
    rw [em] at kk
    obtain ⟨c1, c2, c3, c4, c5⟩ := x1.sh (k := k) (by omega)
    have e10 : up d 0 7 0 10 = d 10 := up_o (by decide)
    have e11 : up d 0 7 0 11 = d 11 := up_o (by decide)
    rw [e10] at c1 c2
    rw [e11] at c3 c4
    refine t_Y_put_9 x1.S ?_
    rw [c1, c3]
    refine ⟨by decide, fun q => absurd q (by decide), fun _ => ⟨by omega, by omega, by omega, fun e => ?_, fun e => ⟨by omega, by omega, y_within hi (by decide) (by omega) (fun c6 => ?_) (fun c6 => ?_)⟩⟩⟩
    · rw [if_pos e, if_pos e] at kk
      refine y_fails x1 (by decide) fun h2 k2 => ?_
      have k3 := k1.tr k2
      rw [up_up] at k3
      exact t_Y_put_30 k3.1.S (kk h2 k3)
    · have c7 : ¬ (i < 0 ∨ d 11 k ≤ i) := by omega
      rw [if_neg e, if_neg e, if_neg c7, if_neg c7] at kk
      obtain ⟨i, rfl⟩ : ∃ q : Nat, i = q := ⟨i.toNat, by omega⟩
      have em2 : ((i : Nat) : Int).toNat = i := rfl
      rw [em2] at kk
      have cr := cutv_rng (s := d 10 k) hv
      have go : ∀ w, w = cutv (d 10 k) v → P (.int (I 1)) (setI (setI h 400 0 0) 405 (60 * (k : Int) + (i : Int)) (wr w)) := fun w hw => by
        rw [hw, wr_eq cr]
        refine kk _ (k1.tr (x1.sht2 (k := k) (FSh _ (by decide) _ _) (fun i => up_ne (by omega)) (fun f h1 h2 => up_f (by omega)) (fun k' h1 h2 => ⟨up_ne (by omega), up_ne (by omega), iv_ne (by decide), iv_ne (by decide), fun i' hi' => ⟨up_ne (by omega), iv_nk (by omega)⟩⟩) ?_))
        have g10 : up (up d 0 7 0) 12 (60 * k + i) (cutv (d 10 k) v) 10 k = d 10 k := by rw [up_ne (by omega), e10]
        have g11 : up (up d 0 7 0) 12 (60 * k + i) (cutv (d 10 k) v) 11 k = d 11 k := by rw [up_ne (by omega), e11]
        unfold SHY
        rw [g10, g11, iv_ne (by decide), iv_ne (by decide)]
        refine ⟨c1, c2, c3, c4, fun i' hi' => ?_⟩
        by_cases z : i' = i
        · rw [z, show 60 * (k : Int) + (i : Int) = ((60 * k + i : Nat) : Int) by omega, iv_eq, up_at]
          exact ⟨rfl, cr⟩
        · rw [iv_nk (by omega), up_ne (by omega)]
          exact c5 i' hi'
      refine t_Y_put_44 x1.S ?_
      rw [c1]
      refine ⟨by decide, fun q => absurd q (by decide), fun _ => ⟨by omega, by omega, by omega, fun e2 => ⟨by omega, by omega, go _ ?_⟩, fun e2 => ⟨by omega, by omega, by omega, fun e3 => ⟨by omega, by omega, go _ ?_⟩, fun e3 => ⟨by omega, by omega, go _ ?_⟩⟩⟩⟩
      · unfold cutv; rw [if_pos e2]
      · unfold cutv; rw [if_neg e2, if_pos e3]
      · unfold cutv; rw [if_neg e2, if_neg e3]
    · have c7 : i < 0 ∨ d 11 k ≤ i := by omega
      rw [if_neg e, if_neg e, if_pos c7, if_pos c7] at kk
      refine t_Y_put_44 x1.S ⟨by decide, fun _ => y_fails x1 (by decide) fun h2 k2 => ?_, fun q => absurd rfl q⟩
      have k3 := k1.tr k2
      rw [up_up] at k3
      exact t_Y_put_52 k3.1.S (kk h2 k3)
  · have c0 : k < 0 ∨ 3 < k := by omega
    rw [if_pos c0, if_pos c0] at kk
    exact t_Y_put_9 x1.S ⟨by decide, fun _ => kk _ k1, fun q => absurd rfl q⟩
theorem y_lost (x : RY n d h) {v : Int} (hv : rng v) (k : ∀ h', KY n (up d 0 7 v) h h' → P (.long (J (-9223372036854775808))) h') : R 199 0 [.ref 400, .int (I v)] [] h P := by
  refine t_Y_lost x.S ?_
  rw [wr_eq hv]
  exact k _ (x.up7 hv)
theorem y_cell (x : RY n d h) {k i s : Int} (hk : rng k) (hi : rng i) (hs : rng s) (kk : ∀ h', KY n (up d 0 7 (refF (refV d k s i 1))) h h' → P (.long (J (cellV d k i s))) h') : R 198 0 [.ref 400, .int (I k), .int (I i), .int (I s)] [] h P := by
  unfold cellV at kk
  have k1 := x.up7 (v := 0) (by decide)
  have x1 := k1.1
  refine t_Y_cell x.S (y_isSheet hk (fun c => ?_) (fun c => ?_))
  · refine t_Y_cell_9 x1.S ⟨by decide, fun q => absurd q (by decide), fun _ => y_isSort hs (fun c2 => ?_) (fun c2 => ?_)⟩
    · obtain ⟨k, rfl⟩ : ∃ q : Nat, k = q := ⟨k.toNat, by omega⟩
      have em : ((k : Nat) : Int).toNat = k := rfl
      rw [em] at kk
      obtain ⟨c1, c2', c3, c4, c5⟩ := x1.sh (k := k) (by omega)
      have e10 : up d 0 7 0 10 = d 10 := up_o (by decide)
      have e11 : up d 0 7 0 11 = d 11 := up_o (by decide)
      have e12 : up d 0 7 0 12 = d 12 := up_o (by decide)
      rw [e10] at c1 c2'
      rw [e11] at c3 c4
      rw [e12] at c5
      unfold refV at kk
      have cc0 : ¬ ((k : Int) < 0 ∨ 3 < (k : Int)) := by omega
      have cc1 : ¬ (s < 0 ∨ 2 < s) := by omega
      rw [if_neg cc0, if_neg cc1, em] at kk
      have lost : ∀ (v : Int) (pc : Nat), (pc = 66 ∨ pc = 49 ∨ pc = 88) → rng v → (∀ h', KY n (up d 0 7 v) h h' → P (.long (J (-9223372036854775808))) h') → ∀ a1 a2 a3, R 199 0 [.ref 400, .int (I v)] [] (setI h 400 0 0) (fun w h2 => R 198 pc [.ref 400, a1, a2, a3] (w :: []) h2 P) := fun v pc hpc hv q a1 a2 a3 => by
        refine y_lost x1 hv fun h2 k2 => ?_
        have k3 := k1.tr k2
        rw [up_up] at k3
        rcases hpc with rfl | rfl | rfl
        · exact t_Y_cell_66 k3.1.S (q h2 k3)
        · exact t_Y_cell_49 k3.1.S (q h2 k3)
        · exact t_Y_cell_88 k3.1.S (q h2 k3)
      refine t_Y_cell_16 x1.S ?_
      rw [c1, c3]
      by_cases e9 : d 10 k = -9
      · have cc2 : ¬ (d 10 k ≠ -9 ∧ d 10 k ≠ s) := fun z => z.1 e9
        rw [if_neg cc2, if_pos e9, if_neg (by decide)] at kk
        exact ⟨by decide, fun q => absurd q (by decide), fun _ => ⟨by omega, by omega, by omega, fun _ => ⟨by omega, by omega, by omega, fun _ => lost 1 66 (by decide) (by decide) kk _ _ _, fun q => absurd e9 q⟩, fun q => absurd e9 q⟩⟩
      · refine ⟨by decide, fun q => absurd q (by decide), fun _ => ⟨by omega, by omega, by omega, fun q => absurd q e9, fun _ => ⟨by omega, by omega, by omega, hs, fun e2 => ⟨by omega, by omega, by omega, fun q => absurd q e9, fun _ => ⟨by omega, by omega, y_within hi (by decide) (by omega) (fun c6 => ?_) (fun c6 => ?_)⟩⟩, fun e2 => ?_⟩⟩⟩
        · have cc2 : ¬ (d 10 k ≠ -9 ∧ d 10 k ≠ s) := fun z => z.2 e2
          have cc3 : ¬ (1 : Int) < 0 := by decide
          have cc4 : ¬ (i < 0 ∨ d 11 k < i ∨ d 11 k - i < 1) := by omega
          rw [if_neg cc2, if_neg e9, if_neg cc3, if_neg cc4, if_pos rfl] at kk
          obtain ⟨i, rfl⟩ : ∃ q : Nat, i = q := ⟨i.toNat, by omega⟩
          have em2 : ((i : Nat) : Int).toNat = i := rfl
          rw [em2] at kk
          obtain ⟨v1, v2⟩ := c5 i (by omega)
          refine t_Y_cell_80 x1.S ?_
          rw [show 60 * (k : Int) + (i : Int) = ((60 * k + i : Nat) : Int) by omega, v1]
          exact ⟨by decide, fun q => absurd q (by decide), fun _ => ⟨by omega, by omega, v2, kk _ k1⟩⟩
        · have cc2 : ¬ (d 10 k ≠ -9 ∧ d 10 k ≠ s) := fun z => z.2 e2
          have cc3 : ¬ (1 : Int) < 0 := by decide
          have cc4 : i < 0 ∨ d 11 k < i ∨ d 11 k - i < 1 := by omega
          rw [if_neg cc2, if_neg e9, if_neg cc3, if_pos cc4, if_neg (by decide)] at kk
          exact t_Y_cell_80 x1.S ⟨by decide, fun _ => lost 3 88 (by decide) (by decide) kk _ _ _, fun q => absurd rfl q⟩
        · have cc2 : d 10 k ≠ -9 ∧ d 10 k ≠ s := ⟨e9, e2⟩
          rw [if_pos cc2, if_neg (by decide)] at kk
          exact lost 2 49 (by decide) (by decide) kk _ _ _
    · rw [ref2 d i 1 (by omega) (by omega), if_neg (by decide)] at kk
      exact t_Y_cell_16 x1.S ⟨by decide, fun _ => kk _ k1, fun q => absurd rfl q⟩
  · rw [ref1 d s i 1 (by omega), if_neg (by decide)] at kk
    exact t_Y_cell_9 x1.S ⟨by decide, fun _ => kk _ k1, fun q => absurd rfl q⟩
theorem y_reading (x : RY n d h) {g p : Int} (hg : rng g) (hp : rng p) (k : ∀ h', KY n (readD n d g p) h h' → P (.int (I (readV n d g p))) h') : R 189 0 [.ref 400, .int (I g), .int (I p)] [] h P := by
  unfold readV readD at k
  have hn := x.n7
  have c34 := x.2.2.2.2.2.2.2.1
  have bad : (g < 0 ∨ (n : Int) ≤ g ∨ p < 0 ∨ (n : Int) ≤ p) → P (.int (I (-1))) h := fun c0 => by
    rw [if_pos c0, if_pos c0] at k; exact k h (KY.rf x)
  refine t_Y_reading x.S (y_isGrain x hg (fun c => ?_) (fun c => t_Y_reading_5 x.S ⟨by decide, fun _ => bad (by omega), fun q => absurd rfl q⟩))
  obtain ⟨r0, e5⟩ : ∃ r : Nat, d 0 5 = r := ⟨(d 0 5).toNat, by omega⟩
  have e1 : ∀ v, iv (setI h 436 (r0 : Nat) v) 400 34 = (r0 : Nat) := fun v => by rw [iv_ne (by decide), c34.1]; exact e5
  have e2 : ∀ v w, iv (setI (setI h 436 (r0 : Nat) v) 437 (r0 : Nat) w) 400 34 = (r0 : Nat) := fun v w => by rw [iv_ne (by decide)]; exact e1 v
  refine t_Y_reading_5 x.S ?_
  rw [x.g, c34.1, e5, e1, e2, iv_eq, wr_eq hg, wr_eq hp]
  refine ⟨by decide, fun q => absurd q (by decide), fun _ => ⟨hp, fun c2 => bad (by omega), fun c2 => ⟨hp, by omega, fun c3 => ⟨by omega, fun c4 => ?_, fun c4 => ⟨by omega, by omega, by omega, by omega, ?_⟩⟩, fun c3 => bad (by omega)⟩⟩⟩
  · have c0 : ¬ (g < 0 ∨ (n : Int) ≤ g ∨ p < 0 ∨ (n : Int) ≤ p) := by omega
    have c8 : 8 ≤ d 0 5 := by omega
    rw [if_neg c0, if_neg c0, if_pos c8, if_pos c8] at k
    exact k h (KY.rf x)
  · have c0 : ¬ (g < 0 ∨ (n : Int) ≤ g ∨ p < 0 ∨ (n : Int) ≤ p) := by omega
    have c8 : ¬ 8 ≤ d 0 5 := by omega
    rw [if_neg c0, if_neg c0, if_neg c8, if_neg c8, e5, show ((r0 : Nat) : Int).toNat = r0 from rfl] at k
    rw [wr_eq (show rng ((r0 : Nat) + 1) by omega), Int.add_sub_cancel]
    refine k _ ?_
    have hd : ∀ f i, (f ≠ 8 ∨ i ≠ r0) → (f ≠ 9 ∨ i ≠ r0) → (f ≠ 0 ∨ i ≠ 5) → up (up (up d 8 r0 g) 9 r0 p) 0 5 ((r0 : Nat) + 1) f i = d f i := fun f i h1 h2 h3 => by rw [up_ne h3, up_ne h2, up_ne h1]
    have hd1 : up (up (up d 8 r0 g) 9 r0 p) 0 5 ((r0 : Nat) + 1) 8 r0 = g := by rw [up_ne (by omega), up_ne (by omega), up_at]
    have hd2 : up (up (up d 8 r0 g) 9 r0 p) 0 5 ((r0 : Nat) + 1) 9 r0 = p := by rw [up_ne (by omega), up_at]
    have hd3 : up (up (up d 8 r0 g) 9 r0 p) 0 5 ((r0 : Nat) + 1) 0 5 = (r0 : Nat) + 1 := up_at _ _ _ _
    have hv1 : iv (setI (setI (setI h 436 (r0 : Nat) g) 437 (r0 : Nat) p) 400 34 ((r0 : Nat) + 1)) 436 (r0 : Nat) = g := by rw [iv_ne (by decide), iv_ne (by decide), iv_eq]
    have hv2 : iv (setI (setI (setI h 436 (r0 : Nat) g) 437 (r0 : Nat) p) 400 34 ((r0 : Nat) + 1)) 437 (r0 : Nat) = p := by rw [iv_ne (by decide), iv_eq]
    have hv3 : iv (setI (setI (setI h 436 (r0 : Nat) g) 437 (r0 : Nat) p) 400 34 ((r0 : Nat) + 1)) 400 34 = (r0 : Nat) + 1 := iv_eq _ _ _ _
    have hv : ∀ (q : Nat) (z : Int), (q ≠ 436 ∨ z ≠ (r0 : Nat)) → (q ≠ 437 ∨ z ≠ (r0 : Nat)) → (q ≠ 400 ∨ z ≠ 34) → iv (setI (setI (setI h 436 (r0 : Nat) g) 437 (r0 : Nat) p) 400 34 ((r0 : Nat) + 1)) q z = iv h q z := fun q z h1 h2 h3 => by rw [iv_setI, if_neg (by omega), iv_setI, if_neg (by omega), iv_setI, if_neg (by omega)]
    have f1 : Fr (fun r => r == 436 || r == 437 || r == 400) h (setI (setI (setI h 436 (r0 : Nat) g) 437 (r0 : Nat) p) 400 34 ((r0 : Nat) + 1)) := ((Fr.set h (r0 : Nat) g rfl).tr (Fr.set _ (r0 : Nat) p rfl)).tr (Fr.set _ 34 ((r0 : Nat) + 1) rfl)
    generalize setI (setI (setI h 436 (r0 : Nat) g) 437 (r0 : Nat) p) 400 34 ((r0 : Nat) + 1) = h' at *
    have hdf : ∀ f, 1 ≤ f → f ≤ 7 → up (up (up d 8 r0 g) 9 r0 p) 0 5 ((r0 : Nat) + 1) f = d f := fun f h1 h2 => by rw [up_f (by omega), up_f (by omega), up_f (by omega)]
    generalize up (up (up d 8 r0 g) 9 r0 p) 0 5 ((r0 : Nat) + 1) = d' at *
    refine x.st f1 (fun r hr => ?_) (fun z h1 h2 => hv 400 z (by omega) (by omega) (by omega)) hdf (fun i h1 h2 => hd 0 i (by omega) (by omega) (by omega)) ?_ ?_ (fun r hr h8 => ?_) (fun k2 hk2 => ?_)
    · simp only [Bool.or_eq_true, beq_iff_eq] at hr
      omega
    · rw [hv 400 0 (by omega) (by omega) (by omega), hd 0 7 (by omega) (by omega) (by omega)]
      exact x.2.1
    · rw [hv3, hd3]; omega
    · rw [hd3] at hr
      by_cases e : r = r0
      · rw [e, hd1, hd2, hv1, hv2]
        exact ⟨rfl, rfl, by omega, by omega⟩
      · rw [hd 8 r (by omega) (by omega) (by omega), hd 9 r (by omega) (by omega) (by omega), hv 436 r (by omega) (by omega) (by omega), hv 437 r (by omega) (by omega) (by omega)]
        exact x.rd (by omega)
    · obtain ⟨c1, c2, c3, c4, c5⟩ := x.sh hk2
      unfold SHY
      rw [hd 10 k2 (by omega) (by omega) (by omega), hd 11 k2 (by omega) (by omega) (by omega), hv 403 k2 (by omega) (by omega) (by omega), hv 404 k2 (by omega) (by omega) (by omega)]
      refine ⟨c1, c2, c3, c4, fun i hi => ?_⟩
      rw [hd 12 (60 * k2 + i) (by omega) (by omega) (by omega), hv 405 ((60 * k2 + i : Nat) : Int) (by omega) (by omega) (by omega)]
      exact c5 i hi
/-! copy -/
theorem copy_up {k i o j m : Nat} (hko : k < 4 ∧ o < 4) (h1 : i + m ≤ 60 ∧ j + m ≤ 60) (hij : j ≤ i) {a6 : Value} : ∀ (r c : Nat) (h' : Hp) (a9 : Value), YS h' → c + r = m → Fr (fun r => r == 403 || r == 404 || r == 405) h h' → (∀ r z, r ≠ 405 → iv h' r z = iv h r z) → (∀ c : Nat, c < m → rng (iv h 405 (60 * (k : Int) + (i : Int) + (c : Int)))) →
    (∀ z : Int, iv h' 405 z = if 60 * (o : Int) + (j : Int) ≤ z ∧ z < 60 * (o : Int) + (j : Int) + (c : Int) then iv h 405 (60 * (k : Int) + (i : Int) + (z - (60 * (o : Int) + (j : Int)))) else iv h 405 z) →
    (∀ h', Fr (fun r => r == 403 || r == 404 || r == 405) h h' → (∀ r z, r ≠ 405 → iv h' r z = iv h r z) → (∀ z : Int, iv h' 405 z = if 60 * (o : Int) + (j : Int) ≤ z ∧ z < 60 * (o : Int) + (j : Int) + (m : Int) then iv h 405 (60 * (k : Int) + (i : Int) + (z - (60 * (o : Int) + (j : Int)))) else iv h 405 z) → P (.int (I (m : Nat))) h') →
    R 200 166 [.ref 400, .int (I (k : Nat)), .int (I (i : Nat)), .int (I (o : Nat)), .int (I (j : Nat)), .int (I (m : Nat)), a6, .int (I 0), .int (I (c : Nat)), a9] [] h' P := by
  intro r
  induction r with
  | zero =>
    intro c h' a9 S hc f g1 rg g2 kk
    have e : c = m := by omega
    subst e
    exact t_Y_copy_166 S ⟨by omega, by omega, fun q => absurd q (by omega), fun _ => kk h' f g1 g2⟩
  | succ r ih =>
    intro c h' a9 S hc f g1 rg g2 kk
    refine t_Y_copy_166 S ?_
    have q := g2 (60 * (k : Int) + (i : Int) + (c : Int))
    rw [if_neg (by omega)] at q
    rw [q, wr_eq (rg c (by omega))]
    refine ⟨by omega, by omega, fun _ => ⟨by decide, fun _ => ⟨by omega, by omega, by omega, by omega, ?_⟩, fun z => absurd rfl z⟩, fun q => absurd (by omega) q⟩
    have f2 := FSh h' (q := 405) (by decide) (60 * (o : Int) + (j : Int) + (c : Int)) (iv h 405 (60 * (k : Int) + (i : Int) + (c : Int)))
    refine ih (c + 1) _ _ (f2.y S) (by omega) (f.tr f2) (fun r z hr => (iv_ne hr).trans (g1 r z hr)) rg (fun z => ?_) kk
    rw [iv_setI]
    by_cases c1 : z = 60 * (o : Int) + (j : Int) + (c : Int)
    · rw [if_pos ⟨rfl, c1⟩, if_pos (by omega), c1]
      congr 1
      omega
    · rw [if_neg (by omega), g2 z]
      by_cases c2 : 60 * (o : Int) + (j : Int) ≤ z ∧ z < 60 * (o : Int) + (j : Int) + (c : Int)
      · rw [if_pos c2, if_pos (by omega)]
      · rw [if_neg c2, if_neg (by omega)]
theorem copy_dn {k i o j m : Nat} (hko : k < 4 ∧ o < 4) (h1 : i + m ≤ 60 ∧ j + m ≤ 60) (hij : i < j) {a6 : Value} : ∀ (r c : Nat) (h' : Hp) (a9 : Value), YS h' → c + r = m → Fr (fun r => r == 403 || r == 404 || r == 405) h h' → (∀ r z, r ≠ 405 → iv h' r z = iv h r z) → (∀ c : Nat, c < m → rng (iv h 405 (60 * (k : Int) + (i : Int) + (c : Int)))) →
    (∀ z : Int, iv h' 405 z = if 60 * (o : Int) + (j : Int) + (m : Int) - (c : Int) ≤ z ∧ z < 60 * (o : Int) + (j : Int) + (m : Int) then iv h 405 (60 * (k : Int) + (i : Int) + (z - (60 * (o : Int) + (j : Int)))) else iv h 405 z) →
    (∀ h', Fr (fun r => r == 403 || r == 404 || r == 405) h h' → (∀ r z, r ≠ 405 → iv h' r z = iv h r z) → (∀ z : Int, iv h' 405 z = if 60 * (o : Int) + (j : Int) ≤ z ∧ z < 60 * (o : Int) + (j : Int) + (m : Int) then iv h 405 (60 * (k : Int) + (i : Int) + (z - (60 * (o : Int) + (j : Int)))) else iv h 405 z) → P (.int (I (m : Nat))) h') →
    R 200 166 [.ref 400, .int (I (k : Nat)), .int (I (i : Nat)), .int (I (o : Nat)), .int (I (j : Nat)), .int (I (m : Nat)), a6, .int (I 1), .int (I (c : Nat)), a9] [] h' P := by
  intro r
  induction r with
  | zero =>
    intro c h' a9 S hc f g1 rg g2 kk
    have e : c = m := by omega
    subst e
    refine t_Y_copy_166 S ⟨by omega, by omega, fun q => absurd q (by omega), fun _ => kk h' f g1 fun z => ?_⟩
    rw [g2 z, show 60 * (o : Int) + (j : Int) + (c : Int) - (c : Int) = 60 * (o : Int) + (j : Int) by omega]
  | succ r ih =>
    intro c h' a9 S hc f g1 rg g2 kk
    refine t_Y_copy_166 S ?_
    have q := g2 (60 * (k : Int) + (i : Int) + ((m : Int) - 1 - (c : Int)))
    rw [if_neg (by omega)] at q
    have rg1 := rg (m - 1 - c) (by omega)
    rw [show ((m - 1 - c : Nat) : Int) = (m : Int) - 1 - (c : Int) by omega] at rg1
    rw [q, wr_eq rg1]
    refine ⟨by omega, by omega, fun _ => ⟨by decide, fun z => absurd z (by decide), fun _ => ⟨by omega, by omega, by omega, by omega, ?_⟩⟩, fun q => absurd (by omega) q⟩
    have f2 := FSh h' (q := 405) (by decide) (60 * (o : Int) + (j : Int) + ((m : Int) - 1 - (c : Int))) (iv h 405 (60 * (k : Int) + (i : Int) + ((m : Int) - 1 - (c : Int))))
    refine ih (c + 1) _ _ (f2.y S) (by omega) (f.tr f2) (fun r z hr => (iv_ne hr).trans (g1 r z hr)) rg (fun z => ?_) kk
    rw [iv_setI]
    by_cases c1 : z = 60 * (o : Int) + (j : Int) + ((m : Int) - 1 - (c : Int))
    · rw [if_pos ⟨rfl, c1⟩, if_pos (by omega), c1]
      congr 1
      omega
    · rw [if_neg (by omega), g2 z]
      by_cases c2 : 60 * (o : Int) + (j : Int) + (m : Int) - (c : Int) ≤ z ∧ z < 60 * (o : Int) + (j : Int) + (m : Int)
      · rw [if_pos c2, if_pos (by omega)]
      · rw [if_neg c2, if_neg (by omega)]
theorem y_copy (x : RY n d h) {k i o j m : Int} (hk : rng k) (hi : rng i) (ho : rng o) (hj : rng j) (hm : rng m) (kk : ∀ h', KY n (copyD d k i o j m) h h' → P (.int (I (copyV d k i o j m))) h') : R 200 0 [.ref 400, .int (I k), .int (I i), .int (I o), .int (I j), .int (I m), .retAddr 0, .retAddr 0, .retAddr 0, .retAddr 0] [] h P := by
  unfold copyV copyD at kk
  have k1 := x.up7 (v := 0) (by decide)
  have x1 := k1.1
  have bad : (k < 0 ∨ 3 < k ∨ o < 0 ∨ 3 < o) → P (.int (I (-1))) (setI h 400 0 0) := fun c0 => by
    rw [if_pos c0, if_pos c0] at kk; exact kk _ k1
  refine t_Y_copy x.S (y_isSheet hk (fun c => ?_) (fun c => t_Y_copy_9 x1.S ⟨by decide, fun _ => bad (by omega), fun q => absurd rfl q⟩))
  refine t_Y_copy_9 x1.S ⟨by decide, fun q => absurd q (by decide), fun _ => y_isSheet ho (fun c' => ?_) (fun c' => t_Y_copy_16 x1.S ⟨by decide, fun _ => bad (by omega), fun q => absurd rfl q⟩)⟩
  have c0 : ¬ (k < 0 ∨ 3 < k ∨ o < 0 ∨ 3 < o) := by omega
  rw [if_neg c0, if_neg c0] at kk
  obtain ⟨k, rfl⟩ : ∃ q : Nat, k = q := ⟨k.toNat, by omega⟩
  obtain ⟨o, rfl⟩ : ∃ q : Nat, o = q := ⟨o.toNat, by omega⟩
  have em1 : ((k : Nat) : Int).toNat = k := rfl
  have em2 : ((o : Nat) : Int).toNat = o := rfl
  rw [em1, em2] at kk
  obtain ⟨c1, c2, c3, c4, c5⟩ := x1.sh (k := k) (by omega)
  obtain ⟨w1, w2, w3, w4, w5⟩ := x1.sh (k := o) (by omega)
  have e10 : up d 0 7 0 10 = d 10 := up_o (by decide)
  have e11 : up d 0 7 0 11 = d 11 := up_o (by decide)
  have e12 : up d 0 7 0 12 = d 12 := up_o (by decide)
  rw [e10] at c1 c2 w1 w2
  rw [e11] at c3 c4 w3 w4
  have ft : ∀ (v : Int) (pc : Nat), (pc = 48 ∨ pc = 69 ∨ pc = 149) → rng v → (∀ h', KY n (up d 0 7 v) h h' → P (.int (I (-10 - v))) h') → ∀ a1 a2 a3 a4 a5 a6 a7 a8 a9, R 132 0 [.ref 400, .int (I v)] [] (setI h 400 0 0) (fun w h2 => R 200 pc [.ref 400, a1, a2, a3, a4, a5, a6, a7, a8, a9] (w :: []) h2 P) := fun v pc hpc hv q a1 a2 a3 a4 a5 a6 a7 a8 a9 => by
    refine y_fails x1 hv fun h2 k2 => ?_
    have k3 := k1.tr k2
    rw [up_up] at k3
    rcases hpc with rfl | rfl | rfl
    · exact t_Y_copy_48 k3.1.S (q h2 k3)
    · exact t_Y_copy_69 k3.1.S (q h2 k3)
    · exact t_Y_copy_149 k3.1.S (q h2 k3)
  refine t_Y_copy_16 x1.S ?_
  rw [c1, w1, c3, w3]
  refine ⟨by decide, fun q => absurd q (by decide), fun _ => ⟨by omega, by omega, by omega, fun e => ?_, fun e => ⟨by omega, by omega, by omega, fun e2 => ?_, fun e2 => ?_⟩⟩⟩
  · have e9 : d 10 k = -9 ∨ d 10 o = -9 := Or.inl e
    rw [if_pos e9, if_pos e9] at kk
    exact ft 1 48 (by decide) (by decide) kk _ _ _ _ _ _ _ _ _
  · have e9 : d 10 k = -9 ∨ d 10 o = -9 := Or.inr e2
    rw [if_pos e9, if_pos e9] at kk
    exact ft 1 48 (by decide) (by decide) kk _ _ _ _ _ _ _ _ _
  have n3 : ¬ (d 10 k = -9 ∨ d 10 o = -9) := fun z => z.elim e e2
  rw [if_neg n3, if_neg n3] at kk
  refine ⟨by omega, by omega, by omega, by omega, by omega, by omega, fun e3 => ?_, fun e3 => ?_⟩
  · have n4 : ¬ d 10 k ≠ d 10 o := fun z => z e3
    rw [if_neg n4, if_neg n4] at kk
    have f3 : (m < 0 ∨ (i < 0 ∨ d 11 k < i ∨ d 11 k - i < m) ∨ (j < 0 ∨ d 11 o < j ∨ d 11 o - j < m)) → ∀ a1 a2 a3 a4 a5 a6 a7 a8 a9, R 132 0 [.ref 400, .int (I 3)] [] (setI h 400 0 0) (fun w h2 => R 200 149 [.ref 400, a1, a2, a3, a4, a5, a6, a7, a8, a9] (w :: []) h2 P) := fun n5 => by
      rw [if_pos n5, if_pos n5] at kk
      exact ft 3 149 (by decide) (by decide) kk
    refine ⟨hi, fun q => ⟨fun _ => f3 (by omega) _ _ _ _ _ _ _ _ _, fun z => absurd rfl z⟩, fun q1 => ⟨hj, fun q => ⟨fun _ => f3 (by omega) _ _ _ _ _ _ _ _ _, fun z => absurd rfl z⟩, fun q2 => ⟨hm, fun q => ⟨fun _ => f3 (by omega) _ _ _ _ _ _ _ _ _, fun z => absurd rfl z⟩, fun q3 => ⟨by omega, by omega, hi, by omega, fun q => ⟨fun _ => f3 (by omega) _ _ _ _ _ _ _ _ _, fun z => absurd rfl z⟩, fun q4 => ⟨by omega, by omega, hj, by omega, fun q => ⟨fun _ => f3 (by omega) _ _ _ _ _ _ _ _ _, fun z => absurd rfl z⟩, fun q5 => ⟨fun z => absurd z (by decide), fun _ => ⟨by omega, by omega, hm, by omega, fun q => f3 (by omega) _ _ _ _ _ _ _ _ _, fun q6 => ⟨by omega, by omega, hm, by omega, fun q => f3 (by omega) _ _ _ _ _ _ _ _ _, fun q7 => ⟨hi, hj, ?_⟩⟩⟩⟩⟩⟩⟩⟩⟩
    have n5 : ¬ (m < 0 ∨ (i < 0 ∨ d 11 k < i ∨ d 11 k - i < m) ∨ (j < 0 ∨ d 11 o < j ∨ d 11 o - j < m)) := by omega
    rw [if_neg n5, if_neg n5] at kk
    obtain ⟨i, rfl⟩ : ∃ q : Nat, i = q := ⟨i.toNat, by omega⟩
    obtain ⟨j, rfl⟩ : ∃ q : Nat, j = q := ⟨j.toNat, by omega⟩
    obtain ⟨m, rfl⟩ : ∃ q : Nat, m = q := ⟨m.toNat, by omega⟩
    have em3 : ((i : Nat) : Int).toNat = i := rfl
    have em4 : ((j : Nat) : Int).toNat = j := rfl
    have em5 : ((m : Nat) : Int).toNat = m := rfl
    rw [em3, em4, em5] at kk
    have cel : ∀ c : Nat, i + c < 60 → iv (setI h 400 0 0) 405 (60 * (k : Int) + (i : Int) + (c : Int)) = d 12 (60 * k + i + c) ∧ rng (d 12 (60 * k + i + c)) := fun c hc => by
      have := c5 (i + c) hc
      rw [e12, ← Nat.add_assoc] at this
      rw [show 60 * (k : Int) + (i : Int) + (c : Int) = ((60 * k + i + c : Nat) : Int) by omega]
      exact this
    have fin : ∀ h', Fr (fun r => r == 403 || r == 404 || r == 405) (setI h 400 0 0) h' → (∀ r z, r ≠ 405 → iv h' r z = iv (setI h 400 0 0) r z) → (∀ z : Int, iv h' 405 z = if 60 * (o : Int) + (j : Int) ≤ z ∧ z < 60 * (o : Int) + (j : Int) + (m : Int) then iv (setI h 400 0 0) 405 (60 * (k : Int) + (i : Int) + (z - (60 * (o : Int) + (j : Int)))) else iv (setI h 400 0 0) 405 z) → P (.int (I (m : Nat))) h' := fun h' f g1 g2 => by
      refine kk h' (k1.tr ?_)
      have sd : ∀ f z, ¬ (f = 12 ∧ 60 * o + j ≤ z ∧ z < 60 * o + j + m) → cpD (up d 0 7 0) k i o j m f z = up d 0 7 0 f z := fun f z hz => if_neg hz
      refine x1.sht2 (k := o) f (fun i => sd _ _ (by omega)) (fun f h1 h2 => funext fun i => sd _ _ (by omega)) (fun k' h1 h2 => ⟨sd _ _ (by omega), sd _ _ (by omega), g1 _ _ (by decide), g1 _ _ (by decide), fun i hi => ⟨sd _ _ (by omega), ?_⟩⟩) ?_
      · rw [g2, if_neg (by omega)]
      · unfold SHY
        rw [sd _ _ (by omega), sd _ _ (by omega), e10, e11, g1 403 _ (by decide), g1 404 _ (by decide)]
        refine ⟨w1, w2, w3, w4, fun i' hi' => ?_⟩
        rw [g2]
        by_cases z : j ≤ i' ∧ i' < j + m
        · have e : cpD (up d 0 7 0) k i o j m 12 (60 * o + i') = d 12 (60 * k + i + (i' - j)) := by
            unfold cpD
            rw [if_pos ⟨rfl, by omega, by omega⟩, e12, show 60 * o + i' - (60 * o + j) = i' - j by omega]
          have := cel (i' - j) (by omega)
          rw [if_pos (by omega), e, show 60 * (k : Int) + (i : Int) + (((60 * o + i' : Nat) : Int) - (60 * (o : Int) + (j : Int))) = 60 * (k : Int) + (i : Int) + ((i' - j : Nat) : Int) by omega]
          exact this
        · rw [if_neg (by omega), sd _ _ (by omega), e12]
          have := w5 i' hi'
          rw [e12] at this
          exact this
    have rg : ∀ c : Nat, c < m → rng (iv (setI h 400 0 0) 405 (60 * (k : Int) + (i : Int) + (c : Int))) := fun c hc => by
      have := cel c (by omega)
      rw [this.1]; exact this.2
    refine ⟨fun q => ?_, fun q => ?_⟩
    · exact copy_dn (P := P) (h := setI h 400 0 0) (k := k) (i := i) (o := o) (j := j) (m := m) (by omega) (by omega) (by omega) m 0 _ _ x1.S (by omega) (Fr.rf _ _) (fun _ _ _ => rfl) rg (fun z => by rw [if_neg (by omega)]) fin
    · exact copy_up (P := P) (h := setI h 400 0 0) (k := k) (i := i) (o := o) (j := j) (m := m) (by omega) (by omega) (by omega) m 0 _ _ x1.S (by omega) (Fr.rf _ _) (fun _ _ _ => rfl) rg (fun z => by rw [if_neg (by omega)]) fin
  · rw [if_pos e3, if_pos e3] at kk
    exact ft 2 69 (by decide) (by decide) kk _ _ _ _ _ _ _ _ _
end YSHEETS
