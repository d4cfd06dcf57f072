/-! How soon a grain is on top, by which cause, what a mixture bears. -/
noncomputable def fstV (f : Nat → Nat) (Q : Nat → Prop) (x : Nat) : Int := Classical.choose (fst_ex f Q x)
theorem fstV_is (f : Nat → Nat) (Q : Nat → Prop) (x : Nat) : Fst f Q x (fstV f Q x) := Classical.choose_spec (fst_ex f Q x)
theorem fstV_eq {f : Nat → Nat} {Q : Nat → Prop} {x : Nat} {v : Int} (h : Fst f Q x v) : v = fstV f Q x := h.un (fstV_is f Q x)
def topQ (n : Nat) (g : Int) (y : Nat) : Prop := ((dg (rw_ n y) (n - 1) : Nat) : Int) = g
theorem band_rng (a b : Int) : rng (band a b) := ⟨Int32.le_toInt _, Int32.toInt_lt _⟩
section SOON
variable {n : Nat} {d : Nat → Nat → Int} {P : Value → Hp → Prop} {c : Nat → Nat → Nat → Bool} {r : Nat}
theorem s_mark {h : Hp} {s : Int} (k1 : P (.int (I 1)) h) (k0 : P (.int (I 0)) h) : R 78 0 [.int (I s)] [] h P :=
  t_X_isTimeToMark ⟨band_rng _ _, fun _ => k1, fun _ => k0⟩
theorem soon_loop (hr : r ≠ 1 ∧ r ≠ 3 ∧ r ≠ 500) {x : Nat} {g : Int} {a3 : Value} (hg : rng g) : ∀ (k s : Nat) (h : Hp) (mark : Int), BX n h → RU n c h r → child r 0 ≠ r → x < fct n → s + k = fct n + 1 → (∀ i, i < s → ¬ topQ n g (itr (nxc c n) i x)) →
    (mark = -9 ∨ ∃ t, t < s ∧ mark = (rw_ n (itr (nxc c n) t x) : Nat)) → (∀ h' v, Fr (fun q => q == r) h h' → Fst (nxc c n) (topQ n g) x v → P (.int (I v)) h') →
    R 77 17 [.ref 0, .ref r, .int (I g), a3, .int (I (rw_ n (itr (nxc c n) s x) : Nat)), .int (I mark), .int (I (s : Nat))] [] h P := by
  intro k
  induction k with
  | zero =>
    intro s h mark b ru hc hx hs hq hm kk
    have hn := b.2.1
    have f5 := fct_le hn.2
    refine t_X_soonBy_17 b.1 ?_
    rw [b.2.2.2.1]
    refine ⟨by omega, by omega, fun _ => kk h _ (Fr.rf _ _) ?_, fun q => absurd (by omega) q⟩
    exact Fst.all (fun y hy => (nxc_row hn hy).1) hx (fun k hk => hq k (by omega))
  | succ k ih =>
    intro s h mark b ru hc hx hs hq hm kk
    have hn := b.2.1
    have f5 := fct_le hn.2
    have hy := itr_lt (fun y hy => (nxc_row (c := c) hn hy).1) hx s
    have hrow : okRow n (rw_ n (itr (nxc c n) s x)) := ⟨_, hy, rfl⟩
    have hlt := hrow.lt hn
    have en : (n : Int) - 1 = ((n - 1 : Nat) : Int) := by omega
    refine t_X_soonBy_17 b.1 ?_
    rw [b.2.2.2.1, b.2.2.1, en]
    refine ⟨by omega, by omega, fun q => absurd q (by omega), fun _ => s_grainIn hlt (by omega) ?_⟩
    have d8 := dg_lt (rw_ n (itr (nxc c n) s x)) (n - 1)
    refine t_X_soonBy_43 b.1 ⟨by omega, hg, fun e => ?_, fun e => ⟨by omega, ?_, fun e2 => ?_, fun e2 => ?_⟩⟩
    · exact kk h _ (Fr.rf _ _) (Or.inr ⟨s, rfl, e, hq⟩)
    · rcases hm with q | ⟨t, q1, q2⟩
      · rw [q]; decide
      · have := rw_lt hn (itr_lt (fun y hy => (nxc_row (c := c) hn hy).1) hx t)
        rw [q2]; omega
    · refine kk h _ (Fr.rf _ _) ?_
      rcases hm with q | ⟨t, q1, q2⟩
      · omega
      · have ht := itr_lt (fun y hy => (nxc_row (c := c) hn hy).1) hx t
        exact Fst.none q1 (rw_inj hn ht hy (by omega)) hq
    · have hq' : ∀ i, i < s + 1 → ¬ topQ n g (itr (nxc c n) i x) := fun i hi => by
        by_cases z : i = s
        · rw [z]; exact e
        · exact hq i (by omega)
      have step : ∀ mark' : Int, (mark' = -9 ∨ ∃ t, t < s + 1 ∧ mark' = (rw_ n (itr (nxc c n) t x) : Nat)) → R 61 0 [.ref r, .int (I (rw_ n (itr (nxc c n) s x) : Nat)), .int (I (n : Nat))] [] h (fun v h2 => R 77 90 [.ref 0, .ref r, .int (I g), a3, .int (I (rw_ n (itr (nxc c n) s x) : Nat)), .int (I mark'), .int (I (s : Nat))] (v :: []) h2 P) := by
        intro mark' hm'
        refine s_shaken hn ru hrow fun h1 f1 _ => ?_
        have s1 : ∀ q, q ≠ r → (fun q => q == r) q = false := fun q hq => by simpa using hq
        have b1 := b.fr f1 (s1 _ (Ne.symm hr.1)) (s1 _ (Ne.symm hr.2.2)) (s1 _ (Ne.symm hr.2.1))
        refine t_X_soonBy_90 b1.1 ?_
        rw [← (nxc_row (c := c) hn hy).2]
        exact ih (s + 1) h1 mark' b1 (ru.fr f1 (s1 _ hc)) hc hx (by omega) hq' hm' fun h2 v f2 g2 => kk h2 v (f1.tr f2) g2
      refine s_mark ?_ ?_
      · refine t_X_soonBy_65 b.1 ?_
        rw [b.2.2.1]
        refine ⟨by decide, fun q => absurd q (by decide), fun _ => ⟨ru.1, ?_⟩⟩
        exact step _ (Or.inr ⟨s, Nat.lt_succ_self s, rfl⟩)
      · refine t_X_soonBy_65 b.1 ?_
        rw [b.2.2.1]
        refine ⟨by decide, fun _ => ⟨ru.1, ?_⟩, fun q => absurd rfl q⟩
        refine step _ ?_
        rcases hm with q | ⟨t, q1, q2⟩
        · exact Or.inl q
        · exact Or.inr ⟨t, by omega, q2⟩
theorem s_soonBy {h : Hp} (hr : r ≠ 1 ∧ r ≠ 3 ∧ r ≠ 500) (hr3 : child r 0 ≠ 3) (b : BX n h) (ru : RU n c h r) {x : Nat} {g : Int} (hg : rng g) (hx : x < fct n) (kk : ∀ h', Fr (fun q => q == r || q == 3) h h' → BX n h' → P (.int (I (fstV (nxc c n) (topQ n g) x))) h') :
    R 77 0 [.ref 0, .ref r, .int (I g), .int (I (x : Nat)), .retAddr 0, .retAddr 0, .retAddr 0] [] h P := by
  refine t_X_soonBy b.1 (s_rowOf b hx fun h1 f1 b1 => ?_)
  have s3 : ∀ q, q ≠ 3 → (fun q : Nat => q == 3) q = false := fun q hq => by simpa using hq
  have ru1 := ru.fr f1 (s3 _ hr3)
  refine t_X_soonBy_8 b1.1 (soon_loop hr hg (fct n + 1) 0 h1 (-9) b1 ru1 ru.2.2.1 hx (by omega) (fun i hi => by omega) (Or.inl rfl) fun h2 v f2 g2 => ?_)
  rw [fstV_eq g2]
  have s1 : ∀ q, q ≠ r → (fun q => q == r) q = false := fun q hq => by simpa using hq
  refine kk h2 ((f1.mono fun q hq => ?_).tr (f2.mono fun q hq => ?_)) (b1.fr f2 (s1 _ (Ne.symm hr.1)) (s1 _ (Ne.symm hr.2.2)) (s1 _ (Ne.symm hr.2.1)))
  · exact (Bool.or_eq_false_iff.mp hq).2
  · exact (Bool.or_eq_false_iff.mp hq).1
end SOON
noncomputable def fh (d : Nat → Nat → Int) (n l : Nat) (hd lo : Int) : Nat → Nat := nxc (chg d l hd lo) n
theorem nxt_fh {d : Nat → Nat → Int} {n l : Nat} {hd : Int} (hh : 1 ≤ hd ∧ hd ≤ 3) : nxt d n l (hd.toNat - 1) = fh d n l hd (-9) := by
  have e : ((hd.toNat - 1 + 1 : Nat) : Int) = hd := by omega
  funext y
  show cl n (shk (chg d l ((hd.toNat - 1 + 1 : Nat) : Int) (-9)) n (rw_ n y)) = _
  rw [e]
  rfl
noncomputable def soonA (n : Nat) (d : Nat → Nat → Int) (g l hd : Int) : Int := if g < 0 ∨ (n : Int) ≤ g ∨ l < 0 ∨ (lies n : Int) ≤ l then -1 else if hd < 1 ∨ 3 < hd then -2 else if d 0 3 = 0 then -3 else fstV (fh d n (d 0 4).toNat hd (-9)) (topQ n g) l.toNat
section SOON2
variable {n : Nat} {d : Nat → Nat → Int} {h : Hp} {P : Value → Hp → Prop}
theorem RX.ru (x : RX n d h) (hn : 2 ≤ n) {l j : Nat} (hl : (l : Int) < d 0 3) (hj : j < 3) (mf : MF l j h) : RU n (chg d l (j + 1 : Nat) (-9)) h (64 * (l + 1) + 17 + 4 * j) := ((((x.1.2.2.2.2.2.2.2 l hl).2.2.2 j hj).1.2) mf hn).1
theorem RX.l4 (x : RX n d h) {l : Nat} (hl : (l : Int) < d 0 3) : l < 4 := by have := x.1.2.2.2.2.2.2.1.2.1; omega
theorem RX.wm (x : RX n d h) {l j : Nat} (hl : (l : Int) < d 0 3) (hj : j < 3) : fl h (64 * (l + 1) + 2) j = true ∧ tg h (64 * (l + 1) + 16 + 4 * j) = 6 ∧ fl h (64 * (l + 1) + 16 + 4 * j) 0 = true ∧ fl h (64 * (l + 1) + 16 + 4 * j) 1 = true ∧ tg h (64 * (l + 1) + 17 + 4 * j) = 8 ∧ fl h (64 * (l + 1) + 17 + 4 * j) 0 = true ∧ tg h (64 * (l + 1) + 18 + 4 * j) = 20 ∧ ln h (64 * (l + 1) + 18 + 4 * j) = 64 ∧ tg h (64 * (l + 1) + 19 + 4 * j) = 20 ∧ ln h (64 * (l + 1) + 19 + 4 * j) ≤ 5040 := (x.1.2.2.2.2.2.2.2 l hl).2.1.2.2 j hj
/-- rows and a rule's count: what is kept stays -/
theorem RX.r17 (x : RX n d h) (hn : 2 ≤ n) {l j : Nat} (hl : (l : Int) < d 0 3) (hj : j < 3) {h1 : Hp} (f : Fr (fun q => q == 64 * (l + 1) + 17 + 4 * j || q == 3) h h1) (b : BX n h1) : KX n d h h1 := by
  have l4 := x.l4 hl
  -- first the rows, then the count
  obtain ⟨fn, rfl, hf⟩ := id f
  have fA : Fr (fun q => q == 3) h (h.1, h.2.1, (fun r => if r = 3 then fn 3 else h.2.2.1 r), h.2.2.2) := ⟨_, rfl, fun r hr => if_neg (by simpa using hr)⟩
  have fB : Fr (fun q => q == 64 * (l + 1) + 17 + 4 * j) (h.1, h.2.1, (fun r => if r = 3 then fn 3 else h.2.2.1 r), h.2.2.2) (h.1, h.2.1, fn, h.2.2.2) := ⟨_, rfl, fun r hr => by
    show fn r = if r = 3 then fn 3 else h.2.2.1 r
    by_cases e : r = 3
    · rw [if_pos e, e]
    · rw [if_neg e]
      exact hf r (by
        have e1 : (r == 64 * (l + 1) + 17 + 4 * j) = false := hr
        have e2 : (r == 3) = false := by simpa using e
        show (_ || _) = false
        rw [e1, e2]; rfl)⟩
  have bA : BX n (h.1, h.2.1, (fun r => if r = 3 then fn 3 else h.2.2.1 r), h.2.2.2) := by
    obtain ⟨b1, b2, b3, b4, b5, b6, b7⟩ := x.1.bx hn
    refine ⟨b1, b2, b3, b4, b5, b6, fun i hi => ?_⟩
    exact b.2.2.2.2.2.2 i hi
  have r1 := x.1.rows hn fA bA
  have s17 : ∀ r, r ≠ 64 * (l + 1) + 17 + 4 * j → (fun r : Nat => r == 64 * (l + 1) + 17 + 4 * j) r = false := fun r hr => by simpa using hr
  have hm := x.wm hl hj
  have mc := ((r1.2.2.2.2.2.2.2 l hl).2.2.2 j hj)
  have r2 : RB n d (h.1, h.2.1, fn, h.2.2.2) := by
    refine r1.mo hl hj (fB.g.mono fun r hr => s17 r (by have := SM_f hr; omega)) fB.tf hm.2.2.2.2.2.2.2.1 mc.2 ?_
    obtain ⟨⟨m1, m2⟩, m3⟩ := id mc.1
    unfold MC
    rw [fB.i (s17 _ (by omega)), fB.i (s17 _ (by omega))]
    refine ⟨⟨m1, m2⟩, fun q hn => ?_⟩
    obtain ⟨q1, q2, q3⟩ := m3 q hn
    refine ⟨q1.fr fB (s17 _ (by rw [(chlm l4 hj).2.2.2]; omega)), q2, fun i hi => ?_⟩
    rw [fB.i (s17 _ (by omega))]
    exact q3 i hi
  refine x.sc r2 f.g (fun r hr => ?_) f.co
  simp only [Bool.or_eq_true, beq_iff_eq] at hr
  omega
theorem s_soon (x : RX n d h) {g l hd : Int} (hg : rng g) (hl : rng l) (hh : rng hd) (k : ∀ h', KX n d h h' → P (.int (I (soonA n d g l hd))) h') : R 76 0 [.ref 0, .int (I g), .int (I l), .int (I hd), .retAddr 0] [] h P := by
  unfold soonA at k
  refine t_X_soon x.S (s_noGrain x hg (fun c => ?_) (fun c => ?_))
  · rw [if_pos (by omega)] at k
    exact t_X_soon_5 x.S ⟨by decide, fun q => absurd q (by decide), fun _ => k h (KX.rf x)⟩
  refine t_X_soon_5 x.S ⟨by decide, fun _ => s_noLie x hl (fun c2 => ?_) (fun c2 => ?_), fun q => absurd rfl q⟩
  · rw [if_pos (by omega)] at k
    exact t_X_soon_13 x.S ⟨by decide, fun q => absurd q (by decide), fun _ => k h (KX.rf x)⟩
  rw [if_neg (by omega)] at k
  refine t_X_soon_13 x.S ⟨by decide, fun _ => s_noHard hh (fun c3 => ?_) (fun c3 => ?_), fun q => absurd rfl q⟩
  · rw [if_pos c3] at k
    exact t_X_soon_22 x.S ⟨by decide, fun q => absurd q (by decide), fun _ => k h (KX.rf x)⟩
  rw [if_neg (by omega)] at k
  refine t_X_soon_22 x.S ⟨by decide, fun _ => s_lawInForce x (fun c4 => ?_) (fun l2 c4 c5 => ?_), fun q => absurd rfl q⟩
  · rw [if_pos c4] at k
    exact t_X_soon_32b x.S (k h (KX.rf x))
  rw [if_neg (by omega)] at k
  have hn := lie_n x.n7 c2
  have l4 := x.l4 c5
  have el : (d 0 4).toNat = l2 := by omega
  rw [el] at k
  refine t_X_soon_32 x.S ⟨okg_i rfl rfl rfl rfl ?_, s_motion x hn c5 c3 fun h1 k1 mf _ => ?_⟩
  · simp only [ng, List.all_cons, List.all_nil, ngv, gwl l4, Bool.not_false, Bool.and_true]
    rfl
  have hj : hd.toNat - 1 < 3 := by omega
  have hm := k1.1.wm c5 hj
  have ch := chlm l4 hj
  have ru := k1.1.ru hn c5 hj mf
  have ej : ((hd.toNat - 1 + 1 : Nat) : Int) = hd := by omega
  rw [ej] at ru
  rw [lies_pos hn] at c2
  have e : l = (l.toNat : Nat) := by omega
  refine t_X_soon_50 k1.1.S ?_
  rw [ch.2.1]
  refine ⟨hm.2.1, hm.2.2.1, by omega, ?_⟩
  rw [e]
  refine s_soonBy (by omega) (by rw [ch.2.2.2]; omega) (k1.1.1.bx hn) ru hg (by omega) fun h2 f2 b2 => ?_
  have k2 := k1.1.r17 hn c5 hj f2 b2
  exact t_X_soon_58 b2.1 (k h2 (k1.tr k2))
end SOON2
