/-! The reference: what needs no search. -/
section YPLAIN
variable {n : Nat} {d : Nat → Nat → Int} {P : Value → Hp → Prop} {h : Hp}
theorem RY.s0 {lo lo' : Int} {d' : Nat → Nat → Int} {k v : Int} (x : RY n d h lo) (hd : ∀ f, f ≠ 0 → d' f = d f) (h3 : d' 0 3 = d 0 3) (h5 : d' 0 5 ≤ d 0 5) (hk : k ≠ 5 ∧ k ≠ 6 ∧ k ≠ 18)
    (e24 : iv (setI h 400 k v) 400 24 = lo') (e0 : iv (setI h 400 k v) 400 0 = d' 0 7 ∧ rng (d' 0 7)) (e1 : iv (setI h 400 k v) 400 1 = d' 0 6 ∧ rng (d' 0 6)) (e7 : iv (setI h 400 k v) 400 7 = d' 0 1 ∧ (0 ≤ d' 0 1 ∧ (d' 0 1 < lies n ∨ (n = 0 ∧ d' 0 1 = 0)))) (e8 : iv (setI h 400 k v) 400 8 = d' 0 2 ∧ rng (d' 0 2))
    (e19 : iv (setI h 400 k v) 400 19 = d' 0 4 ∧ 0 ≤ d' 0 4 ∧ (d' 0 4 < d 0 3 ∨ (d 0 3 = 0 ∧ d' 0 4 = 0))) (e34 : iv (setI h 400 k v) 400 34 = d' 0 5 ∧ 0 ≤ d' 0 5 ∧ d' 0 5 ≤ 8) : RY n d' (setI h 400 k v) lo' := by
  obtain ⟨⟨b1, b2, b3, b4, b5⟩, c0, c1, c7, c8, c18, c19, c34, g, gb, l, r, s⟩ := x
  unfold RY LB GB
  rw [h3, hd 1 (by decide), hd 2 (by decide), hd 3 (by decide), hd 4 (by decide), hd 5 (by decide), hd 6 (by decide), hd 7 (by decide), hd 8 (by decide), hd 9 (by decide), hd 10 (by decide), hd 11 (by decide), hd 12 (by decide)]
  refine ⟨⟨(Fr.set (S := fun r => r == 400) h k v rfl).y b1, b2, (iv_nk hk.1.symm).trans b3, (iv_nk hk.2.1.symm).trans b4, e24⟩, e0, e1, e7, e8, ⟨(iv_nk hk.2.2.symm).trans c18.1, c18.2⟩, e19, e34, fun x hx => ?_, gb, fun x hx => ?_, fun x hx h8 => ?_, fun x hx => ?_⟩
  · rw [iv_ne (by decide), iv_ne (by decide), iv_ne (by decide)]; exact g x hx
  · rw [iv_ne (by decide)]
    obtain ⟨l1, l2, l3⟩ := l x hx
    refine ⟨l1, l2, fun c hc hd => ?_⟩
    rw [iv_ne (by decide), iv_ne (by decide), iv_ne (by decide)]
    exact l3 c hc hd
  · rw [iv_ne (by decide), iv_ne (by decide)]; exact r x (by omega) h8
  · rw [iv_ne (by decide), iv_ne (by decide)]
    obtain ⟨s1, s2, s3, s4, s5⟩ := s x hx
    refine ⟨s1, s2, s3, s4, fun i hi => ?_⟩
    rw [iv_ne (by decide)]
    exact s5 i hi
theorem F400 (h : Hp) (k v : Int) : Fr Y4 h (setI h 400 k v) := (Fr.set (S := fun r => r == 400) h k v rfl).y4 fun r hr => by
  have : r = 400 := by simpa using hr
  omega
theorem nk0 {h : Hp} {k z : Int} (v a : Int) {Q : Prop} (e : z ≠ k) (q : iv h 400 z = a ∧ Q) : iv (setI h 400 k v) 400 z = a ∧ Q := ⟨(iv_nk e).trans q.1, q.2⟩
theorem RY.lo24 {lo : Int} (x : RY n d h lo) (c : Int) : RY n d (setI h 400 24 c) c := by
  obtain ⟨⟨b1, b2, b3, b4, b5⟩, c0, c1, c7, c8, c18, c19, c34, -⟩ := id x
  exact x.s0 (fun _ _ => rfl) rfl (Int.le_refl _) (by decide) (iv_eq _ _ _ _) (nk0 _ _ (by decide) c0) (nk0 _ _ (by decide) c1) (nk0 _ _ (by decide) c7) (nk0 _ _ (by decide) c8) (nk0 _ _ (by decide) c19) (nk0 _ _ (by decide) c34)
theorem RY.up7 (x : RY n d h) {v : Int} (hv : rng v) : KY n (up d 0 7 v) h (setI h 400 0 v) := by
  obtain ⟨⟨b1, b2, b3, b4, b5⟩, c0, c1, c7, c8, c18, c19, c34, -⟩ := id x
  exact ⟨x.s0 (fun _ hf => up_o hf) (up_ne (by decide)) (Int.le_refl _) (by decide) ((iv_nk (by decide)).trans b5) ⟨iv_eq _ _ _ _, hv⟩ (nk0 _ _ (by decide) c1) (nk0 _ _ (by decide) c7) (nk0 _ _ (by decide) c8) (nk0 _ _ (by decide) c19) (nk0 _ _ (by decide) c34), F400 _ _ _⟩
theorem RY.up6 (x : RY n d h) {v : Int} (hv : rng v) : KY n (up d 0 6 v) h (setI h 400 1 v) := by
  obtain ⟨⟨b1, b2, b3, b4, b5⟩, c0, c1, c7, c8, c18, c19, c34, -⟩ := id x
  exact ⟨x.s0 (fun _ hf => up_o hf) (up_ne (by decide)) (Int.le_refl _) (by decide) ((iv_nk (by decide)).trans b5) (nk0 _ _ (by decide) c0) ⟨iv_eq _ _ _ _, hv⟩ (nk0 _ _ (by decide) c7) (nk0 _ _ (by decide) c8) (nk0 _ _ (by decide) c19) (nk0 _ _ (by decide) c34), F400 _ _ _⟩
theorem RY.up1_ (x : RY n d h) {v : Int} (hv : 0 ≤ v ∧ (v < lies n ∨ (n = 0 ∧ v = 0))) : KY n (up d 0 1 v) h (setI h 400 7 v) := by
  obtain ⟨⟨b1, b2, b3, b4, b5⟩, c0, c1, c7, c8, c18, c19, c34, -⟩ := id x
  exact ⟨x.s0 (fun _ hf => up_o hf) (up_ne (by decide)) (Int.le_refl _) (by decide) ((iv_nk (by decide)).trans b5) (nk0 _ _ (by decide) c0) (nk0 _ _ (by decide) c1) ⟨iv_eq _ _ _ _, hv⟩ (nk0 _ _ (by decide) c8) (nk0 _ _ (by decide) c19) (nk0 _ _ (by decide) c34), F400 _ _ _⟩
theorem RY.up2_ (x : RY n d h) {v : Int} (hv : rng v) : KY n (up d 0 2 v) h (setI h 400 8 v) := by
  obtain ⟨⟨b1, b2, b3, b4, b5⟩, c0, c1, c7, c8, c18, c19, c34, -⟩ := id x
  exact ⟨x.s0 (fun _ hf => up_o hf) (up_ne (by decide)) (Int.le_refl _) (by decide) ((iv_nk (by decide)).trans b5) (nk0 _ _ (by decide) c0) (nk0 _ _ (by decide) c1) (nk0 _ _ (by decide) c7) ⟨iv_eq _ _ _ _, hv⟩ (nk0 _ _ (by decide) c19) (nk0 _ _ (by decide) c34), F400 _ _ _⟩
theorem RY.up4_ (x : RY n d h) {v : Int} (hv : 0 ≤ v ∧ v < d 0 3) : KY n (up d 0 4 v) h (setI h 400 19 v) := by
  obtain ⟨⟨b1, b2, b3, b4, b5⟩, c0, c1, c7, c8, c18, c19, c34, -⟩ := id x
  exact ⟨x.s0 (fun _ hf => up_o hf) (up_ne (by decide)) (Int.le_refl _) (by decide) ((iv_nk (by decide)).trans b5) (nk0 _ _ (by decide) c0) (nk0 _ _ (by decide) c1) (nk0 _ _ (by decide) c7) (nk0 _ _ (by decide) c8) ⟨iv_eq _ _ _ _, hv.1, Or.inl hv.2⟩ (nk0 _ _ (by decide) c34), F400 _ _ _⟩
theorem RY.up5_ (x : RY n d h) {v : Int} (hv : 0 ≤ v ∧ v ≤ d 0 5) : KY n (up d 0 5 v) h (setI h 400 34 v) := by
  obtain ⟨⟨b1, b2, b3, b4, b5⟩, c0, c1, c7, c8, c18, c19, c34, -⟩ := id x
  exact ⟨x.s0 (fun _ hf => up_o hf) (up_ne (by decide)) hv.2 (by decide) ((iv_nk (by decide)).trans b5) (nk0 _ _ (by decide) c0) (nk0 _ _ (by decide) c1) (nk0 _ _ (by decide) c7) (nk0 _ _ (by decide) c8) (nk0 _ _ (by decide) c19) ⟨iv_eq _ _ _ _, hv.1, Int.le_trans hv.2 c34.2.2⟩, F400 _ _ _⟩
theorem RY.l1 {lo : Int} (x : RY n d h lo) (hn2 : 2 ≤ n) : ∃ m : Nat, d 0 1 = (m : Nat) ∧ m < fct n ∧ iv h 400 7 = (m : Nat) := by
  have c7 := x.2.2.2.1
  have e := lies_pos hn2
  exact ⟨(d 0 1).toNat, by omega, by omega, by omega⟩
def whyS (n : Nat) (d : Nat → Nat → Int) (g l hd : Int) : Int := if g < 0 ∨ (n : Int) ≤ g ∨ l < 0 ∨ (lies n : Int) ≤ l then -1 else if hd < 1 ∨ 3 < hd then -2 else if d 0 3 = 0 then -3 else 0
theorem y_whySoon (x : RY n d h) {g l hd : Int} (hg : rng g) (hl : rng l) (hh : rng hd) (k : P (.int (I (whyS n d g l hd))) h) : R 173 0 [.ref 400, .int (I g), .int (I l), .int (I hd)] [] h P := by
  unfold whyS at k
  have l3 := x.l3
  refine t_Y_whySoon x.S (y_isGrain x hg (fun c => ?_) (fun c => ?_))
  · refine t_Y_whySoon_5 x.S ⟨by decide, fun q => absurd q (by decide), fun _ => y_isLie x hl (fun c2 => ?_) (fun c2 => ?_)⟩
    · refine t_Y_whySoon_13 x.S ⟨by decide, fun q => absurd q (by decide), fun _ => y_isHard hh (fun c3 => ?_) (fun c3 => ?_)⟩
      · refine t_Y_whySoon_22 x.S ?_
        rw [l3.1]
        rw [if_neg (by omega), if_neg (by omega)] at k
        refine ⟨by decide, fun q => absurd q (by decide), fun _ => ⟨by omega, fun c4 => ?_, fun c4 => ?_⟩⟩
        · rw [if_pos c4] at k; exact k
        · rw [if_neg c4] at k; exact k
      · rw [if_neg (by omega), if_pos (by omega)] at k
        exact t_Y_whySoon_22 x.S ⟨by decide, fun _ => k, fun q => absurd rfl q⟩
    · rw [if_pos (by omega)] at k
      exact t_Y_whySoon_13 x.S ⟨by decide, fun _ => k, fun q => absurd rfl q⟩
  · rw [if_pos (by omega)] at k
    exact t_Y_whySoon_5 x.S ⟨by decide, fun _ => k, fun q => absurd rfl q⟩
theorem whyS_c (n : Nat) (d : Nat → Nat → Int) (g l hd : Int) : (whyS n d g l hd < 0 ∧ whyS n d g l hd ≠ -9 ∧ rng (whyS n d g l hd) ∧ soonA n d g l hd = whyS n d g l hd) ∨ (whyS n d g l hd = 0 ∧ (0 ≤ g ∧ g < n) ∧ (0 ≤ l ∧ l < lies n) ∧ (1 ≤ hd ∧ hd ≤ 3) ∧ d 0 3 ≠ 0 ∧ soonA n d g l hd = fstV (fh d n (d 0 4).toNat hd (-9)) (topQ n g) l.toNat) := by
  unfold whyS soonA
  by_cases q1 : g < 0 ∨ (n : Int) ≤ g ∨ l < 0 ∨ (lies n : Int) ≤ l
  · rw [if_pos q1, if_pos q1]; exact Or.inl ⟨by decide, by decide, by decide, rfl⟩
  · rw [if_neg q1, if_neg q1]
    by_cases q2 : hd < 1 ∨ 3 < hd
    · rw [if_pos q2, if_pos q2]; exact Or.inl ⟨by decide, by decide, by decide, rfl⟩
    · rw [if_neg q2, if_neg q2]
      by_cases q3 : d 0 3 = 0
      · rw [if_pos q3, if_pos q3]; exact Or.inl ⟨by decide, by decide, by decide, rfl⟩
      · rw [if_neg q3, if_neg q3]
        exact Or.inr ⟨rfl, by omega, by omega, by omega, q3, rfl⟩
theorem y_soon (x : RY n d h) {g l hd : Int} (hg : rng g) (hl : rng l) (hh : rng hd) (k : ∀ h', KY n d h h' → P (.int (I (soonA n d g l hd))) h') : R 172 0 [.ref 400, .int (I g), .int (I l), .int (I hd), .retAddr 0] [] h P := by
  refine t_Y_soon x.S (y_whySoon x hg hl hh (t_Y_soon_7 x.S ?_))
  rcases whyS_c n d g l hd with ⟨c1, c2, c3, c4⟩ | ⟨c1, c2, c3, c4, c5, c6⟩
  · rw [c4] at k
    exact ⟨c3, fun q => absurd q (by omega), fun _ => k h (KY.rf x)⟩
  · rw [c6] at k
    rw [c1]
    refine ⟨by decide, fun _ => ?_, fun q => absurd rfl q⟩
    have hn2 := lie_n x.n7 c3
    obtain ⟨l2, el, hl2, e2⟩ := x.inF c5
    rw [lies_pos hn2] at c3
    rw [e2] at k
    obtain ⟨m, rfl⟩ : ∃ m : Nat, l = m := ⟨l.toNat, by omega⟩
    exact y_soonOf x (by decide) hn2 el hl2 hh hg (by omega) fun h1 k1 => t_Y_soon_26 (x.ks k1).S (k h1 (x.k k1))
theorem ab_sub (a b : Int) : ab (a - b) = if b < a then a - b else b - a := by
  unfold ab
  split <;> split <;> omega
theorem yboss_loop (hn2 : 2 ≤ n) {l : Nat} (el : (l : Int) = d 0 4) (hl : (l : Int) < d 0 3) {x0 : Nat} (hx : x0 < fct n) {g hd sn : Int} (hg : rng g) (hh : rng hd) (hs : 0 ≤ sn ∧ sn ≤ 9999) {a4 : Value} : ∀ (k c : Nat) (most best : Int) (h : Hp) (a9 a10 : Value), RY n d h → (c : Int) + k = d 4 l → (0 ≤ most ∧ most ≤ 9999) →
    (∀ h', KY n d h h' → P (.int (I (bsg (bossF n d l hd g x0) sn k c most best))) h') → R 176 53 [.ref 400, .int (I g), .int (I (x0 : Nat)), .int (I hd), a4, .int (I sn), .int (I best), .int (I most), .int (I (c : Nat)), a9, a10] [] h P := by
  intro k
  induction k with
  | zero =>
    intro c most best h a9 a10 x hc hm kk
    have l3 := x.l3
    obtain ⟨w1, lb, -⟩ := x.lw hl
    have lb1 := lb.1
    refine t_Y_boss_53 x.S ?_
    rw [x.l4.1, ← el, w1]
    exact ⟨by omega, by omega, by omega, by omega, fun q => absurd q (by omega), fun _ => kk h (KY.rf x)⟩
  | succ k ih =>
    intro c most best h a9 a10 x hc hm kk
    have l3 := x.l3
    have hn := x.n7
    have hn7 : 2 ≤ n ∧ n ≤ 7 := by omega
    obtain ⟨w1, lb, -⟩ := x.lw hl
    have lb1 := lb.1
    refine t_Y_boss_53 x.S ?_
    rw [x.l4.1, ← el, w1, wr_eq (show rng (c : Nat) by omega)]
    refine ⟨by omega, by omega, by omega, by omega, fun _ => ?_, fun q => absurd (by omega) q⟩
    have x1 := x.lo24 (c : Nat)
    refine y_soonOf x1 (by omega) hn2 el hl hh hg hx fun h1 k1 => ?_
    have x2 := x1.ks k1
    have x3 := x2.lo24 (-9)
    have kc : KY n d h (setI h1 400 24 (-9)) := ⟨x3, ((F400 _ _ _).tr k1.1).tr (F400 _ _ _)⟩
    have bd := fstV_bd (d := d) (l := l) (hd := hd) (lo := (c : Nat)) (Q := topQ n g) hn7 hx
    have bF : 0 ≤ bossF n d l hd g x0 c ∧ bossF n d l hd g x0 c ≤ 9999 := cnt9_bd hn7 hx
    have hF : bossF n d l hd g x0 c = cnt9 (fstV (fh d n l hd (c : Nat)) (topQ n g) x0) := rfl
    rw [bsg, ab_sub] at kk
    have go : ∀ a9 a10, (most < (if sn < bossF n d l hd g x0 c then bossF n d l hd g x0 c - sn else sn - bossF n d l hd g x0 c) → R 176 53 [.ref 400, .int (I g), .int (I (x0 : Nat)), .int (I hd), a4, .int (I sn), .int (I (c : Nat)), .int (I (if sn < bossF n d l hd g x0 c then bossF n d l hd g x0 c - sn else sn - bossF n d l hd g x0 c)), .int (I ((c : Int) + 1)), a9, a10] [] (setI h1 400 24 (-9)) P) ∧ (¬ most < (if sn < bossF n d l hd g x0 c then bossF n d l hd g x0 c - sn else sn - bossF n d l hd g x0 c) → R 176 53 [.ref 400, .int (I g), .int (I (x0 : Nat)), .int (I hd), a4, .int (I sn), .int (I best), .int (I most), .int (I ((c : Int) + 1)), a9, a10] [] (setI h1 400 24 (-9)) P) := fun a9 a10 => by
      refine ⟨fun q => ?_, fun q => ?_⟩
      · rw [if_pos q] at kk
        exact ih (c + 1) _ _ _ _ _ x3 (by omega) (by split <;> omega) fun h' k3 => kk h' (kc.tr k3)
      · rw [if_neg q] at kk
        exact ih (c + 1) _ _ _ _ _ x3 (by omega) hm fun h' k3 => kk h' (kc.tr k3)
    have q9 : rng (fstV (fh d n l hd (c : Nat)) (topQ n g) x0) := by omega
    clear kk ih
    refine t_Y_boss_80 x2.S ⟨q9, fun e => ?_, fun e => ?_⟩
    · have e1 : bossF n d l hd g x0 c = 9999 := by rw [hF]; unfold cnt9; exact if_pos e
      rw [e1] at go
      refine ⟨by omega, fun c1 => ?_, fun c1 => ?_⟩
      · rw [if_pos c1] at go
        exact ⟨by omega, by omega, fun q => (go _ _).1 q, fun q => (go _ _).2 q⟩
      · rw [if_neg c1] at go
        exact ⟨by omega, by omega, fun q => (go _ _).1 q, fun q => (go _ _).2 q⟩
    · have e1 : bossF n d l hd g x0 c = fstV (fh d n l hd (c : Nat)) (topQ n g) x0 := by rw [hF]; unfold cnt9; exact if_neg e
      rw [e1] at go
      refine ⟨q9, by omega, fun c1 => ?_, fun c1 => ?_⟩
      · rw [if_pos c1] at go
        exact ⟨by omega, by omega, fun q => (go _ _).1 q, fun q => (go _ _).2 q⟩
      · rw [if_neg c1] at go
        exact ⟨by omega, by omega, fun q => (go _ _).1 q, fun q => (go _ _).2 q⟩
theorem y_boss (x : RY n d h) {g l hd : Int} (hg : rng g) (hl : rng l) (hh : rng hd) (k : ∀ h', KY n d h h' → P (.int (I (bossA n d g l hd))) h') : R 176 0 [.ref 400, .int (I g), .int (I l), .int (I hd), .retAddr 0, .retAddr 0, .retAddr 0, .retAddr 0, .retAddr 0, .retAddr 0, .retAddr 0] [] h P := by
  refine t_Y_boss x.S (y_whySoon x hg hl hh (t_Y_boss_7 x.S ?_))
  unfold bossA at k
  rcases whyS_c n d g l hd with ⟨c1, c2, c3, c4⟩ | ⟨c1, c2, c3, c4, c5, c6⟩
  · rw [c4, if_pos ⟨c1, c2⟩] at k
    exact ⟨c3, fun q => absurd q (by omega), fun _ => k h (KY.rf x)⟩
  · rw [c6] at k
    rw [c1]
    refine ⟨by decide, fun _ => ?_, fun q => absurd rfl q⟩
    have hn := x.n7
    have hn2 := lie_n x.n7 c3
    obtain ⟨l2, el, hl2, e2⟩ := x.inF c5
    rw [lies_pos hn2] at c3
    rw [e2] at k
    obtain ⟨m, rfl⟩ : ∃ m : Nat, l = m := ⟨l.toNat, by omega⟩
    have hm : ((m : Nat) : Int).toNat = m := rfl
    rw [hm] at k
    have bd := fstV_bd (d := d) (n := n) (l := l2) (hd := hd) (lo := -9) (Q := topQ n g) (x := m) (by omega) (by omega)
    have bc := cnt9_bd (d := d) (n := n) (l := l2) (hd := hd) (lo := -9) (g := g) (x := m) (by omega) (by omega)
    rw [if_neg (by omega)] at k
    have lb1 := (x.lw hl2).2.1.1
    refine y_soonOf x (by decide) hn2 el hl2 hh hg (by omega) fun h1 k1 => ?_
    have x1 := x.ks k1
    have z := fun a4 a9 a10 => yboss_loop (P := P) (a4 := a4) hn2 el hl2 (x0 := m) (by omega) hg hh bc (d 4 l2).toNat 0 0 (-9) h1 a9 a10 x1 (by omega) (by decide) fun h' k2 => k h' ((x.k k1).tr k2)
    refine t_Y_boss_24 x1.S ⟨by omega, fun e => ?_, fun e => ?_⟩
    · have e1 : cnt9 (fstV (fh d n l2 hd (-9)) (topQ n g) m) = 9999 := by unfold cnt9; exact if_pos e
      rw [e1] at z
      exact z _ _ _
    · have e1 : cnt9 (fstV (fh d n l2 hd (-9)) (topQ n g) m) = fstV (fh d n l2 hd (-9)) (topQ n g) m := by unfold cnt9; exact if_neg e
      rw [e1] at z
      exact z _ _ _
end YPLAIN
