/-! The reference: which cause rules, shakes, turns, what rows are worth. -/
section YSHAKE
variable {n : Nat} {d : Nat → Nat → Int} {P : Value → Hp → Prop} {h : Hp} {lo : Int}
theorem RY.gr (x : RY n d h lo) {g : Nat} (hg : g < n) : iv h 410 g = d 1 g ∧ iv h 411 g = d 2 g ∧ iv h 412 g = d 3 g := x.2.2.2.2.2.2.2.2.1 g hg
theorem RY.gb (x : RY n d h lo) : GB n d := x.2.2.2.2.2.2.2.2.2.1
theorem RY.lw (x : RY n d h lo) {l : Nat} (hl : (l : Int) < d 0 3) : iv h 421 l = d 4 l ∧ LB d l ∧ ∀ c : Nat, c < 6 → (c : Int) < d 4 l → iv h 422 ((6 * l + c : Nat) : Int) = d 5 (6 * l + c) ∧ iv h 423 ((6 * l + c : Nat) : Int) = d 6 (6 * l + c) ∧ iv h 424 ((6 * l + c : Nat) : Int) = d 7 (6 * l + c) := x.2.2.2.2.2.2.2.2.2.2.1 l hl
theorem RY.l3 (x : RY n d h lo) : iv h 400 18 = d 0 3 ∧ 0 ≤ d 0 3 ∧ d 0 3 ≤ 4 := x.2.2.2.2.2.1
theorem RY.l4 (x : RY n d h lo) : iv h 400 19 = d 0 4 ∧ 0 ≤ d 0 4 ∧ (d 0 4 < d 0 3 ∨ (d 0 3 = 0 ∧ d 0 4 = 0)) := x.2.2.2.2.2.2.1
theorem RY.lo_ (x : RY n d h lo) : iv h 400 24 = lo := x.1.2.2.2.2
theorem y_bulk (x : RY n d h lo) {g : Nat} (hg : g < n) (k : P (.int (I (blk d g))) h) : R 138 0 [.ref 400, .int (I (g : Nat))] [] h P := by
  have hn := x.n7
  obtain ⟨g1, g2, g3⟩ := x.gr hg
  have b := x.gb g hg
  unfold blk at k
  refine t_Y_bulk x.S ?_
  rw [g1, g3]
  refine ⟨by omega, by omega, by omega, fun c => ⟨by omega, by omega, ?_⟩, fun c => ⟨by omega, by omega, ?_⟩⟩
  · rw [if_pos c] at k; exact k
  · rw [if_neg c] at k; exact k
theorem y_heft (x : RY n d h lo) {g : Nat} (hg : g < n) (k : P (.int (I (hft d g))) h) : R 139 0 [.ref 400, .int (I (g : Nat))] [] h P := by
  have hn := x.n7
  obtain ⟨g1, g2, g3⟩ := x.gr hg
  have b := x.gb g hg
  unfold hft at k
  refine t_Y_heft x.S ?_
  rw [g2, g3]
  refine ⟨by omega, by omega, by omega, fun c => ⟨by omega, by omega, ?_⟩, fun c => ⟨by omega, by omega, ?_⟩⟩
  · rw [if_pos c] at k; exact k
  · rw [if_neg c] at k; exact k
theorem y_isSo (x : RY n d h lo) {lt dt p : Int} {a b : Nat} (hlt : 0 ≤ lt ∧ lt ≤ 5) (hdt : 0 ≤ dt ∧ dt ≤ 9) (ha : a < n) (hb : b < n) (hp : rng p) (k1 : soq d lt dt a b p → P (.int (I 1)) h) (k0 : ¬ soq d lt dt a b p → P (.int (I 0)) h) : R 157 0 [.ref 400, .int (I lt), .int (I dt), .int (I (a : Nat)), .int (I (b : Nat)), .int (I p), .retAddr 0] [] h P := by
  have hn := x.n7
  obtain ⟨a1, a2, a3⟩ := x.gb.b ha
  obtain ⟨b1, b2, b3⟩ := x.gb.b hb
  obtain ⟨-, -, ka⟩ := x.gr ha
  obtain ⟨-, -, kb⟩ := x.gr hb
  unfold soq at k1 k0
  have S := x.S
  refine t_Y_isSo S ⟨by omega, ⟨fun e => ?_, fun e => ?_, fun e => ?_, fun e => ?_, fun e => ?_⟩, fun e => ?_⟩
  · refine y_bulk x ha (t_Y_isSo_41 S (y_bulk x hb (t_Y_isSo_47 S ⟨by omega, by omega, fun c => k0 (by omega), fun c => k1 (by omega)⟩)))
  · refine y_heft x hb (t_Y_isSo_64 S (y_heft x ha (t_Y_isSo_69 S ⟨by omega, by omega, fun c => k0 (by omega), fun c => ?_⟩)))
    refine y_heft x hb (t_Y_isSo_80 S (y_heft x ha (t_Y_isSo_85 S ⟨by omega, by omega, fun c2 => k1 (by omega), fun c2 => k0 (by omega)⟩)))
  · refine y_bulk x ha (t_Y_isSo_99 S ⟨by omega, by omega, fun c => k0 (by omega), fun c => ?_⟩)
    refine y_heft x ha (t_Y_isSo_108 S (y_heft x hb (t_Y_isSo_114 S ⟨by omega, by omega, fun c2 => k0 (by omega), fun c2 => ?_⟩)))
    refine y_bulk x ha (t_Y_isSo_122 S (y_bulk x hb (t_Y_isSo_128 S ⟨by omega, by omega, fun c3 => k1 (by omega), fun c3 => k0 (by omega)⟩)))
  · rw [ka, kb]
    refine ⟨by omega, by omega, by omega, fun c => ⟨by omega, by omega, by omega, fun c2 => ⟨hp, by omega, fun c3 => k1 (by omega), fun c3 => k0 (by omega)⟩, fun c2 => k0 (by omega)⟩, fun c => k0 (by omega)⟩
  · exact ⟨hp, by omega, fun c => k0 (by omega), fun c => k1 (by omega)⟩
  · refine y_heft x ha (t_Y_isSo_185 S (y_heft x hb (t_Y_isSo_191 S ⟨by omega, fun c => ⟨by omega, by omega, fun c2 => k1 (by omega), fun c2 => k0 (by omega)⟩, fun c => ⟨by omega, by omega, fun c2 => k1 (by omega), fun c2 => k0 (by omega)⟩⟩)))
theorem y_ruling_loop (x : RY n d h lo) (hlo : rng lo) {l : Nat} (hl : (l : Int) < d 0 3) {a b : Nat} {p hard : Int} (ha : a < n) (hb : b < n) (hp : rng p) (hh : rng hard) : ∀ (k c : Nat) (a7 : Value), (c : Int) + k = d 4 l → P (.int (I (rulg d l a b p hard lo k c))) h →
    R 156 3 [.ref 400, .int (I (l : Nat)), .int (I (a : Nat)), .int (I (b : Nat)), .int (I p), .int (I hard), .int (I (c : Nat)), a7] [] h P := by
  obtain ⟨w1, lb, wc⟩ := x.lw hl
  have l3 := x.l3
  have lb1 := lb.1
  intro k
  induction k with
  | zero =>
    intro c a7 hc kk
    refine t_Y_ruling_3 x.S ?_
    rw [w1]
    exact ⟨by omega, by omega, by omega, by omega, fun q => absurd q (by omega), fun _ => kk⟩
  | succ k ih =>
    intro c a7 hc kk
    obtain ⟨c1, c2, c3⟩ := wc c (by omega) (by omega)
    obtain ⟨b1, b2, b3⟩ := lb.2 c (by omega) (by omega)
    have e6 : (6 * (l : Int)) + (c : Int) = ((6 * l + c : Nat) : Int) := by omega
    have skip : ∀ a7, ¬ ((c : Int) ≠ lo ∧ d 7 (6 * l + c) ≤ hard ∧ soq d (d 5 (6 * l + c)) (d 6 (6 * l + c)) a b p) → R 156 3 [.ref 400, .int (I (l : Nat)), .int (I (a : Nat)), .int (I (b : Nat)), .int (I p), .int (I hard), .int (I ((c : Nat) + 1)), a7] [] h P := by
      intro a7 q
      rw [rulg, if_neg q] at kk
      exact ih (c + 1) a7 (by omega) kk
    refine t_Y_ruling_3 x.S ?_
    rw [w1, e6, x.lo_, c1, c2, c3]
    refine ⟨by omega, by omega, by omega, by omega, fun _ => ⟨by omega, hlo, fun e => skip _ (fun z => z.1 e), fun e => ⟨by omega, by omega, by omega, hh, fun e2 => skip _ (fun z => absurd z.2.1 (by omega)), fun e2 => ⟨by omega, by omega, by omega, by omega, ?_⟩⟩⟩, fun q => absurd (by omega) q⟩
    refine y_isSo x b1 b2 ha hb hp (fun z => ?_) (fun z => ?_)
    · refine t_Y_ruling_66 x.S ⟨by decide, fun q => absurd q (by decide), fun _ => ?_⟩
      rw [rulg, if_pos ⟨e, by omega, z⟩] at kk
      exact kk
    · exact t_Y_ruling_66 x.S ⟨by decide, fun _ => skip _ (fun z2 => z z2.2.2), fun q => absurd rfl q⟩
theorem y_ruling (x : RY n d h lo) (hlo : rng lo) {l : Nat} (hl : (l : Int) < d 0 3) {a b : Nat} {p hard : Int} (ha : a < n) (hb : b < n) (hp : rng p) (hh : rng hard) (kk : P (.int (I (rul d l a b p hard lo))) h) : R 156 0 [.ref 400, .int (I (l : Nat)), .int (I (a : Nat)), .int (I (b : Nat)), .int (I p), .int (I hard), .retAddr 0, .retAddr 0] [] h P := by
  have lb := (x.lw hl).2.1.1
  exact t_Y_ruling x.S (y_ruling_loop x hlo hl ha hb hp hh (d 4 l).toNat 0 _ (by omega) kk)
theorem y_pair (x : RY n d h lo) (hlo : rng lo) {l : Nat} (hl : (l : Int) < d 0 3) {r p : Nat} {hard : Int} (hr : okRow n r) (w : RW n r h) (hp : p + 1 < n) (hh : rng hard) (kk : ∀ h', FR h h' → RW n (if chg d l hard lo (dg r p) (dg r (p + 1)) p then swp r p else r) h' → I (iv h' 400 26) = I (iv h 400 26 + ((if chg d l hard lo (dg r p) (dg r (p + 1)) p then 1 else 0 : Nat) : Int)) → P .null h') :
    R 160 0 [.ref 400, .int (I (l : Nat)), .int (I (p : Nat)), .int (I hard), .retAddr 0, .retAddr 0, .retAddr 0] [] h P := by
  have hn := x.n7
  have hn2 : 2 ≤ n ∧ n ≤ 7 := by omega
  have l3 := x.l3
  have d1 := hr.d hn2 (p := p) (by omega)
  have d2 := hr.d hn2 (p := p + 1) hp
  have q1 := w p (by omega)
  have q2 := w (p + 1) hp
  obtain ⟨w1, lb, wc⟩ := x.lw hl
  have lb1 := lb.1
  refine t_Y_pair x.S ?_
  rw [show (p : Int) + 1 = ((p + 1 : Nat) : Int) by omega, q1, q2]
  refine ⟨by omega, by omega, by omega, by omega, y_ruling x hlo hl d1 d2 (by omega) hh ?_⟩
  have bd := rulg_bd d l (dg r p) (dg r (p + 1)) (p : Nat) hard lo (d 4 l).toNat 0
  have hru : rul d l (dg r p) (dg r (p + 1)) (p : Nat) hard lo = rulg d l (dg r p) (dg r (p + 1)) (p : Nat) hard lo (d 4 l).toNat 0 := rfl
  rw [← hru] at bd
  have hch : chg d l hard lo (dg r p) (dg r (p + 1)) p = @decide (rul d l (dg r p) (dg r (p + 1)) (p : Nat) hard lo ≠ -9 ∧ d 5 (6 * l + (rul d l (dg r p) (dg r (p + 1)) (p : Nat) hard lo).toNat) ≤ 3) (Classical.propDecidable _) := rfl
  generalize rul d l (dg r p) (dg r (p + 1)) (p : Nat) hard lo = ru at *
  have no : ¬ (ru ≠ -9 ∧ d 5 (6 * l + ru.toNat) ≤ 3) → P .null h := fun z => by
    have e : chg d l hard lo (dg r p) (dg r (p + 1)) p = false := by rw [hch]; exact @decide_eq_false _ (Classical.propDecidable _) z
    have z2 := kk h (FR.rf _)
    rw [e] at z2
    exact z2 (by rw [if_neg (by decide)]; exact w) (by rw [if_neg (by decide)]; exact congrArg I (Int.add_zero _).symm)
  refine t_Y_pair_29 x.S ⟨by omega, fun c => no (fun z => z.1 c), fun c => ?_⟩
  obtain ⟨c1, c2, c3⟩ := wc ru.toNat (by omega) (by omega)
  obtain ⟨b1, b2, b3⟩ := lb.2 ru.toNat (by omega) (by omega)
  rw [show (6 * (l : Int)) + ru = ((6 * l + ru.toNat : Nat) : Int) by omega, c1]
  refine ⟨by omega, by omega, by omega, fun e => ⟨by omega, by omega, by omega, by omega, ?_⟩, fun e => no (fun z => e (by omega))⟩
  have e1 : chg d l hard lo (dg r p) (dg r (p + 1)) p = true := by rw [hch]; exact @decide_eq_true _ (Classical.propDecidable _) ⟨c, by omega⟩
  rw [e1, if_pos rfl, if_pos rfl] at kk
  have e2 : ∀ v1 v2, iv (setI (setI h 418 (p : Nat) v1) 418 ((p : Int) + 1) v2) 400 26 = iv h 400 26 := fun v1 v2 => by rw [iv_ne (by decide), iv_ne (by decide)]
  rw [wr_eq (show rng (dg r (p + 1) : Nat) by omega), wr_eq (show rng (dg r p : Nat) by omega), e2]
  have sw := (hr.dgs hn2).2.2.2 p hp
  refine kk _ (((FR.row h _ _).tr (FR.row _ _ _)).tr (FR.chg _ _)) (fun q hq => ?_) ?_
  · rw [iv_ne (by decide), iv_setI, iv_setI, sw q hq]
    by_cases z1 : q = p
    · rw [if_neg (by omega), if_pos ⟨rfl, by omega⟩, if_pos z1]
    · by_cases z2 : q = p + 1
      · rw [if_pos ⟨rfl, by omega⟩, if_neg z1, if_pos z2]
      · rw [if_neg (by omega), if_neg (by omega), if_neg z1, if_neg z2]
        exact w q hq
  · rw [iv_eq, I_wr]
    rfl
theorem y_pairs (hlo : rng lo) {l : Nat} (hl : (l : Int) < d 0 3) {hard : Int} (hh : rng hard) {a3 : Int} : ∀ (k p r : Nat) (h : Hp), RY n d h lo → okRow n r → RW n r h → n ≤ p + 2 * k → p < 10 → 2 ≤ n →
    (∀ h' p', FR h h' → RW n (prs (chg d l hard lo) n k p r) h' → I (iv h' 400 26) = I (iv h 400 26 + (prc (chg d l hard lo) n k p r : Nat)) → R 159 2 [.ref 400, .int (I (l : Nat)), .int (I hard), .int (I (a3 + 1)), .int (I p')] [] h' P) →
    R 159 10 [.ref 400, .int (I (l : Nat)), .int (I hard), .int (I a3), .int (I (p : Nat))] [] h P := by
  intro k
  induction k with
  | zero =>
    intro p r h x hr w hp hp2 hn2 kk
    have hn := x.n7
    refine t_Y_shaken_10 x.S ?_
    rw [x.g]
    exact ⟨by omega, by omega, fun c => absurd c (by omega), fun _ => kk h _ (FR.rf _) w (congrArg I (Int.add_zero _).symm)⟩
  | succ k ih =>
    intro p r h x hr w hp hp2 hn2 kk
    have hn := x.n7
    rw [prs, prc] at kk
    refine t_Y_shaken_10 x.S ?_
    rw [x.g]
    refine ⟨by omega, by omega, fun c => ?_, fun c => ?_⟩
    · have c1 : p + 1 < n := by omega
      rw [if_pos c1, if_pos c1] at kk
      refine y_pair x hlo hl hr w c1 hh fun h1 f1 w1 e1 => t_Y_shaken_29 (x.ks f1.ks).S ?_
      have hr1 : okRow n (if chg d l hard lo (dg r p) (dg r (p + 1)) p then swp r p else r) := by
        by_cases z : chg d l hard lo (dg r p) (dg r (p + 1)) p = true
        · rw [if_pos z]; exact (hr.step (by omega)).1 p c1
        · rw [if_neg z]; exact hr
      refine ih (p + 2) _ h1 (x.ks f1.ks) hr1 w1 (by omega) (by omega) hn2 fun h' p' f2 w2 e2 => kk h' p' (f1.tr f2) w2 ?_
      rw [e2, ← I_add, e1, I_add]
      congr 1
      omega
    · have c1 : ¬ p + 1 < n := by omega
      rw [if_neg c1, if_neg c1] at kk
      exact kk h _ (FR.rf _) w (congrArg I (Int.add_zero _).symm)
theorem y_shaken (x : RY n d h lo) (hlo : rng lo) (hn2 : 2 ≤ n) {l : Nat} (hl : (l : Int) < d 0 3) {hard : Int} (hh : rng hard) {r : Nat} (hr : okRow n r) (w : RW n r h) (kk : ∀ h', FR h h' → RW n (shk (chg d l hard lo) n r) h' → I (iv h' 400 26) = I (iv h 400 26 + (shc (chg d l hard lo) n r : Nat)) → P .null h') :
    R 159 0 [.ref 400, .int (I (l : Nat)), .int (I hard), .retAddr 0, .retAddr 0] [] h P := by
  have hn := x.n7
  refine t_Y_shaken x.S (t_Y_shaken_2 x.S ⟨by decide, fun _ => ?_, fun c => absurd (by decide) c⟩)
  refine y_pairs hlo hl hh 4 0 r h x hr w (by omega) (by decide) hn2 fun h1 p1 f1 w1 e1 => ?_
  have x1 := x.ks f1.ks
  refine t_Y_shaken_2 x1.S ⟨by decide, fun _ => ?_, fun c => absurd (by decide) c⟩
  refine y_pairs hlo hl hh 4 1 _ h1 x1 (prs_ok (by omega) _ _ _ hr) w1 (by omega) (by decide) hn2 fun h2 p2 f2 w2 e2 => ?_
  refine t_Y_shaken_2 (x1.ks f2.ks).S ⟨by decide, fun c => absurd c (by decide), fun _ => kk h2 (f1.tr f2) w2 ?_⟩
  rw [e2, ← I_add, e1, I_add, Int.add_assoc]
  rfl
theorem y_nextOf (x : RY n d h lo) (hlo : rng lo) (hn2 : 2 ≤ n) {l : Nat} (hl : (l : Int) < d 0 3) {hard : Int} (hh : rng hard) {lie : Nat} (hlie : lie < fct n) (kk : ∀ h', FR h h' → P (.int (I (fh d n l hard lo lie : Nat))) h') : R 169 0 [.ref 400, .int (I (l : Nat)), .int (I (lie : Nat)), .int (I hard)] [] h P := by
  have hn := x.n7
  refine t_Y_nextOf x.S (y_open x hn2 hlie fun h1 f1 w1 => ?_)
  have x1 := x.ks f1.ks
  refine t_Y_nextOf_5 x1.S (y_shaken x1 hlo hn2 hl hh ⟨lie, hlie, rfl⟩ w1 fun h2 f2 w2 _ => ?_)
  have x2 := x1.ks f2.ks
  refine t_Y_nextOf_11 x2.S (y_closed x2 (shk_ok (by omega) ⟨lie, hlie, rfl⟩) w2 (t_Y_nextOf_15 x2.S (kk h2 (f1.tr f2))))
theorem y_isOnTop (x : RY n d h lo) (hn2 : 2 ≤ n) {g : Int} (hg : rng g) {lie : Nat} (hlie : lie < fct n) (k1 : topQ n g lie → ∀ h', FR h h' → P (.int (I 1)) h') (k0 : ¬ topQ n g lie → ∀ h', FR h h' → P (.int (I 0)) h') : R 175 0 [.ref 400, .int (I g), .int (I (lie : Nat))] [] h P := by
  have hn := x.n7
  refine t_Y_isOnTop x.S (y_open x hn2 hlie fun h1 f1 w1 => ?_)
  have x1 := x.ks f1.ks
  have q := w1 (n - 1) (by omega)
  have d8 := dg_lt (rw_ n lie) (n - 1)
  refine t_Y_isOnTop_5 x1.S ?_
  rw [x1.g, show (n : Int) - 1 = ((n - 1 : Nat) : Int) by omega, q]
  exact ⟨by omega, by omega, by omega, hg, fun c => k1 c h1 f1, fun c => k0 c h1 f1⟩
/-! turned, spooned -/
theorem turn_loop {r : Nat} (hr : okRow n r) {a1 : Value} (hn2 : 2 ≤ n) : ∀ (k p : Nat) (h : Hp) (a3 : Value), RY n d h lo → p + k = n / 2 → (∀ q : Nat, q < n → iv h 418 q = (dg r (if q < p ∨ n - p ≤ q then n - 1 - q else q) : Nat)) → (∀ h', FR h h' → P (.int (I (cl n (trn n r) : Nat))) h') →
    R 165 7 [.ref 400, a1, .int (I (p : Nat)), a3] [] h P := by
  intro k
  induction k with
  | zero =>
    intro p h a3 x hp hv kk
    have hn := x.n7
    have hn7 : 2 ≤ n ∧ n ≤ 7 := by omega
    have tr := (hr.dgs hn7).1
    refine t_Y_turned_7 x.S ?_
    rw [x.g]
    have e2 : (n : Int) / 2 = ((n / 2 : Nat) : Int) := rfl
    rw [e2]
    refine ⟨by omega, by omega, by omega, fun c => absurd c (by omega), fun _ => ?_⟩
    refine y_closed x (hr.step hn7).2.1 (fun q hq => ?_) (t_Y_turned_67 x.S (kk h (FR.rf _)))
    rw [hv q hq, tr q hq]
    by_cases c : q < p ∨ n - p ≤ q
    · rw [if_pos c]
    · rw [if_neg c, show n - 1 - q = q by omega]
  | succ k ih =>
    intro p h a3 x hp hv kk
    have hn := x.n7
    have hn7 : 2 ≤ n ∧ n ≤ 7 := by omega
    have v1 := hv p (by omega)
    have v2 := hv (n - 1 - p) (by omega)
    rw [if_neg (by omega)] at v1 v2
    have d1 := dg_lt r p
    have d2 := dg_lt r (n - 1 - p)
    have e2 : (n : Int) / 2 = ((n / 2 : Nat) : Int) := rfl
    have e3 : (n : Int) - 1 - (p : Int) = ((n - 1 - p : Nat) : Int) := by omega
    have e5 : ∀ v, iv (setI h 418 (p : Nat) v) 400 5 = (n : Nat) := fun v => by rw [iv_ne (by decide)]; exact x.g
    refine t_Y_turned_7 x.S ?_
    rw [e5, x.g, e2, e3, v1, v2, wr_eq (show rng (dg r (n - 1 - p) : Nat) by omega), wr_eq (show rng (dg r p : Nat) by omega)]
    refine ⟨by omega, by omega, by omega, fun _ => ⟨by omega, by omega, by omega, by omega, by omega, by omega, by omega, by omega, ?_⟩, fun c => absurd (by omega) c⟩
    have f := (FR.row h (p : Nat) (dg r (n - 1 - p) : Nat)).tr (FR.row _ ((n - 1 - p : Nat) : Int) (dg r p : Nat))
    refine ih (p + 1) _ _ (x.ks f.ks) (by omega) (fun q hq => ?_) fun h' f2 => kk h' (f.tr f2)
    rw [iv_setI, iv_setI]
    by_cases z1 : q = n - 1 - p
    · rw [if_pos ⟨rfl, by omega⟩, if_pos (by omega), z1, show n - 1 - (n - 1 - p) = p by omega]
    · by_cases z2 : q = p
      · rw [if_neg (by omega), if_pos ⟨rfl, by omega⟩, if_pos (by omega), z2]
      · rw [if_neg (by omega), if_neg (by omega), hv q hq]
        by_cases c : q < p ∨ n - p ≤ q
        · rw [if_pos c, if_pos (by omega)]
        · rw [if_neg c, if_neg (by omega)]
theorem y_turned (x : RY n d h lo) (hn2 : 2 ≤ n) {lie : Nat} (hlie : lie < fct n) (kk : ∀ h', FR h h' → P (.int (I (trl n lie : Nat))) h') : R 165 0 [.ref 400, .int (I (lie : Nat)), .retAddr 0, .retAddr 0] [] h P := by
  refine t_Y_turned x.S (y_open x hn2 hlie fun h1 f1 w1 => ?_)
  have x1 := x.ks f1.ks
  have hn := x.n7
  refine t_Y_turned_5 x1.S (turn_loop (r := rw_ n lie) ⟨lie, hlie, rfl⟩ hn2 (n / 2) 0 h1 _ x1 (by omega) (fun q hq => ?_) fun h2 f2 => kk h2 (f1.tr f2))
  rw [if_neg (by omega)]
  exact w1 q hq
theorem spoon_loop {r : Nat} (hr : okRow n r) {a1 : Value} (hn2 : 2 ≤ n) : ∀ (k p : Nat) (h : Hp), RY n d h lo → p + k = n → 1 ≤ p → (∀ q : Nat, q < n → iv h 418 q = (dg r (if q + 1 < p then q + 1 else q) : Nat)) → (∀ h', FR h h' → RW n (spn n r) h' → P (.int (I (cl n (spn n r) : Nat))) h') →
    R 167 14 [.ref 400, a1, .int (I (dg r 0 : Nat)), .int (I (p : Nat))] [] h P := by
  intro k
  induction k with
  | zero =>
    intro p h x hp h1 hv kk
    have hn := x.n7
    have hn7 : 2 ≤ n ∧ n ≤ 7 := by omega
    obtain ⟨-, sp1, sp2, -⟩ := hr.dgs hn7
    have d1 := dg_lt r 0
    have f := FR.row h ((n - 1 : Nat) : Int) (dg r 0 : Nat)
    have w : RW n (spn n r) (setI h 418 ((n - 1 : Nat) : Int) (dg r 0 : Nat)) := fun q hq => by
      rw [iv_setI]
      by_cases c : q = n - 1
      · rw [if_pos ⟨rfl, by omega⟩, c, sp2]
      · rw [if_neg (by omega), hv q hq, if_pos (by omega), sp1 q (by omega)]
    refine t_Y_spooned_14 x.S ?_
    rw [x.g, show (n : Int) - 1 = ((n - 1 : Nat) : Int) by omega, wr_eq (show rng (dg r 0 : Nat) by omega)]
    refine ⟨by omega, by omega, fun c => absurd c (by omega), fun _ => ⟨by omega, by omega, ?_⟩⟩
    have x1 := x.ks f.ks
    exact y_closed x1 (hr.step hn7).2.2 w (t_Y_spooned_58 x1.S (kk _ f w))
  | succ k ih =>
    intro p h x hp h1 hv kk
    have hn := x.n7
    have hn7 : 2 ≤ n ∧ n ≤ 7 := by omega
    have v1 := hv p (by omega)
    rw [if_neg (by omega)] at v1
    have d1 := dg_lt r p
    refine t_Y_spooned_14 x.S ?_
    rw [x.g, v1, wr_eq (show rng (dg r p : Nat) by omega), show (p : Int) - 1 = ((p - 1 : Nat) : Int) by omega]
    refine ⟨by omega, by omega, fun _ => ⟨by omega, by omega, by omega, by omega, ?_⟩, fun c => absurd (by omega) c⟩
    have f := FR.row h ((p - 1 : Nat) : Int) (dg r p : Nat)
    refine ih (p + 1) _ (x.ks f.ks) (by omega) (by omega) (fun q hq => ?_) fun h' f2 w => kk h' (f.tr f2) w
    rw [iv_setI]
    by_cases c : q = p - 1
    · rw [if_pos ⟨rfl, by omega⟩, if_pos (by omega), c, show p - 1 + 1 = p by omega]
    · rw [if_neg (by omega), hv q hq]
      by_cases c2 : q + 1 < p
      · rw [if_pos c2, if_pos (by omega)]
      · rw [if_neg c2, if_neg (by omega)]
theorem y_spooned (x : RY n d h lo) (hn2 : 2 ≤ n) {lie : Nat} (hlie : lie < fct n) (kk : ∀ h', FR h h' → RW n (spn n (rw_ n lie)) h' → P (.int (I (spl n lie : Nat))) h') : R 167 0 [.ref 400, .int (I (lie : Nat)), .retAddr 0, .retAddr 0] [] h P := by
  refine t_Y_spooned x.S (y_open x hn2 hlie fun h1 f1 w1 => ?_)
  have x1 := x.ks f1.ks
  have hn := x.n7
  refine t_Y_spooned_5 x1.S ?_
  have q0 : iv h1 418 0 = (dg (rw_ n lie) 0 : Nat) := w1 0 (by omega)
  rw [q0]
  exact spoon_loop (r := rw_ n lie) ⟨lie, hlie, rfl⟩ hn2 (n - 1) 1 h1 x1 (by omega) (Nat.le_refl _) (fun q hq => by rw [if_neg (by omega)]; exact w1 q hq) fun h2 f2 w => kk h2 (f1.tr f2) w
end YSHAKE
