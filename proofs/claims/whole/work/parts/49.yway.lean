/-! The reference: what rows are worth; ways of lies. -/
theorem sm_cg {a b : Nat → Int} : ∀ {k : Nat}, (∀ p, p < k → a p = b p) → sm a k = sm b k
  | 0, _ => rfl
  | k + 1, h => by rw [sm, sm, sm_cg (k := k) fun p hp => h p (by omega), h k (by omega)]
theorem sm_add {a b : Nat → Int} : ∀ k : Nat, sm (fun p => a p + b p) k = sm a k + sm b k
  | 0 => rfl
  | k + 1 => by
    rw [sm, sm, sm, sm_add k]
    omega
/-- all pairs, from below or from above -/
theorem sswap (f : Nat → Nat → Int) : ∀ n : Nat, sm (fun p => sm (fun i => f (p + 1 + i) p) (n - 1 - p)) n = sm (fun q => sm (f q) q) n
  | 0 => rfl
  | n + 1 => by
    rw [sm, sm, ← sswap f n]
    have e0 : sm (fun i => f (n + 1 + i) n) (n + 1 - 1 - n) = 0 := by
      rw [show n + 1 - 1 - n = 0 by omega]
      rfl
    have e1 : sm (fun p => sm (fun i => f (p + 1 + i) p) (n + 1 - 1 - p)) n = sm (fun p => sm (fun i => f (p + 1 + i) p) (n - 1 - p) + f n p) n := sm_cg fun p hp => by
      rw [show n + 1 - 1 - p = (n - 1 - p) + 1 by omega, sm, show p + 1 + (n - 1 - p) = n by omega]
    rw [e0, e1, sm_add, Int.add_zero]
def vf (w : Int) (sz : Nat → Int) (r q p : Nat) : Int := if w = 1 then ptf sz r q p else if q = p + 1 then ab (sz (dg r q) - sz (dg r p)) else 0
def vT (w : Int) (sz : Nat → Int) (n r : Nat) : Nat → Int := sm (fun p => sm (fun i => vf w sz r (p + 1 + i) p) (n - 1 - p))
theorem sm_one {a : Nat → Int} : ∀ k : Nat, (∀ p, 1 ≤ p → a p = 0) → 1 ≤ k → sm a k = a 0
  | 0, _, h => by omega
  | 1, _, _ => by rw [sm, sm, Int.zero_add]
  | k + 2, h, _ => by rw [sm, sm_one (k + 1) h (by omega), h (k + 1) (by omega), Int.add_zero]
theorem vT_eq {w : Int} {sz : Nat → Int} {n r : Nat} (hn : 2 ≤ n) : vT w sz n r n = if w = 1 then ptv sz n r else mxv sz n r := by
  unfold vT
  by_cases c : w = 1
  · rw [if_pos c]
    have := sswap (fun q p => vf w sz r q p) n
    rw [this]
    unfold ptv
    refine sm_cg fun q hq => sm_cg fun p hp => ?_
    unfold vf
    rw [if_pos c]
  · rw [if_neg c]
    obtain ⟨m, rfl⟩ : ∃ m, n = m + 1 := ⟨n - 1, by omega⟩
    show sm _ m + sm (fun i => vf w sz r (m + 1 + i) m) (m + 1 - 1 - m) = mxv sz (m + 1) r
    rw [show m + 1 - 1 - m = 0 by omega]
    unfold mxv
    show _ + (0 : Int) = _
    rw [Int.add_zero]
    refine sm_cg fun p hp => ?_
    rw [show m + 1 - 1 = m by omega] at *
    rw [sm_one (m - p) (fun i hi => by unfold vf; rw [if_neg c, if_neg (by omega)]) (by omega)]
    unfold vf mxf ab
    rw [if_neg c, if_pos (by omega), Nat.add_zero]
    split <;> split <;> omega
theorem valA_vT {n : Nat} {d : Nat → Nat → Int} {lie : Nat} {w : Int} (hn : 2 ≤ n) (hw : w = 0 ∨ w = 1) : vT w (d 1) n (rw_ n lie) n = valA n d lie w := by
  rw [vT_eq hn]
  unfold valA
  rcases hw with rfl | rfl
  · rw [if_neg (by decide), if_pos rfl]
  · rw [if_pos rfl, if_neg (by decide)]
section YWAY
variable {n : Nat} {d : Nat → Nat → Int} {P : Value → Hp → Prop} {h : Hp} {lo : Int}
theorem value_in (x : RY n d h lo) (hn2 : 2 ≤ n) {r : Nat} (hr : okRow n r) (w : RW n r h) {what T : Int} (hw : rng what) {p : Nat} (hp : p < n) {a1 : Value} (kk : ∀ a5 a6, R 178 10 [.ref 400, a1, .int (I what), .int (I (T + sm (fun i => vf what (d 1) r (p + 1 + i) p) (n - 1 - p))), .int (I ((p : Int) + 1)), a5, a6] [] h P) : ∀ (k j : Nat) (a6 : Value), p + 1 + j + k = n →
    R 178 25 [.ref 400, a1, .int (I what), .int (I (T + sm (fun i => vf what (d 1) r (p + 1 + i) p) j)), .int (I (p : Nat)), .int (I ((p + 1 + j : Nat) : Int)), a6] [] h P := by
  have hn := x.n7
  intro k
  induction k with
  | zero =>
    intro j a6 hj
    have e : j = n - 1 - p := by omega
    subst e
    refine t_Y_valueOf_25 x.S ?_
    rw [x.g]
    exact ⟨by omega, by omega, fun c => absurd c (by omega), fun _ => kk _ _⟩
  | succ k ih =>
    intro j a6 hj
    have q1 := w (p + 1 + j) (by omega)
    have q2 := w p hp
    have d1 := hr.d (by omega) (p := p + 1 + j) (by omega)
    have d2 := hr.d (by omega) hp
    obtain ⟨g1, -, -⟩ := x.gr d1
    obtain ⟨g2, -, -⟩ := x.gr d2
    have b1 := x.gb _ d1
    have b2 := x.gb _ d2
    have z := fun a6 => ih (j + 1) a6 (by omega)
    have ev : sm (fun i => vf what (d 1) r (p + 1 + i) p) (j + 1) = sm (fun i => vf what (d 1) r (p + 1 + i) p) j + vf what (d 1) r (p + 1 + j) p := rfl
    rw [ev] at z
    have z : ∀ v, v = vf what (d 1) r (p + 1 + j) p → ∀ a6, R 178 25 [.ref 400, a1, .int (I what), .int (I (T + sm (fun i => vf what (d 1) r (p + 1 + i) p) j + v)), .int (I (p : Nat)), .int (I (((p + 1 + j : Nat) : Int) + 1)), a6] [] h P := fun v hv a6 => by
      have := z a6
      rw [← hv, ← Int.add_assoc] at this
      exact this
    refine t_Y_valueOf_25 x.S ?_
    rw [x.g, q1, q2, g1, g2]
    refine ⟨by omega, by omega, fun _ => ⟨by omega, by omega, by omega, by omega, by omega, by omega, by omega, by omega, hw, fun c => ⟨by omega, fun c2 => ?_, fun c2 => ?_⟩, fun c => ⟨by omega, by omega, fun c2 => ⟨by omega, fun c3 => ?_, fun c3 => ?_⟩, fun c2 => ?_⟩⟩, fun c => absurd (by omega) c⟩
    · exact z 1 (by unfold vf ptf; rw [if_pos c, if_pos (by omega)]) _
    · exact z 0 (by unfold vf ptf; rw [if_pos c, if_neg (by omega)]) _
    · exact z _ (by unfold vf ab; rw [if_neg c, if_pos (by omega), if_pos c3]) _
    · exact z _ (by unfold vf ab; rw [if_neg c, if_pos (by omega), if_neg c3]) _
    · have := z 0 (by unfold vf; rw [if_neg c, if_neg (by omega)])
      rw [Int.add_zero] at this
      exact this _
theorem value_out (x : RY n d h lo) (hn2 : 2 ≤ n) {r : Nat} (hr : okRow n r) (w : RW n r h) {what : Int} (hw : rng what) {a1 : Value} (kk : P (.int (I (vT what (d 1) n r n))) h) : ∀ (k p : Nat) (a5 a6 : Value), p + k = n → R 178 10 [.ref 400, a1, .int (I what), .int (I (vT what (d 1) n r p)), .int (I (p : Nat)), a5, a6] [] h P := by
  have hn := x.n7
  intro k
  induction k with
  | zero =>
    intro p a5 a6 hp
    have e : p = n := by omega
    subst e
    refine t_Y_valueOf_10 x.S ?_
    rw [x.g]
    exact ⟨by omega, by omega, fun c => absurd c (by omega), fun _ => kk⟩
  | succ k ih =>
    intro p a5 a6 hp
    refine t_Y_valueOf_10 x.S ?_
    rw [x.g]
    refine ⟨by omega, by omega, fun _ => ?_, fun c => absurd (by omega) c⟩
    have z := value_in (P := P) (a1 := a1) (T := vT what (d 1) n r p) x hn2 hr w hw (p := p) (by omega) (fun a5 a6 => ih (p + 1) a5 a6 (by omega)) (n - 1 - p) 0 a6 (by omega)
    have e0 : vT what (d 1) n r p + sm (fun i => vf what (d 1) r (p + 1 + i) p) 0 = vT what (d 1) n r p := Int.add_zero _
    rw [e0] at z
    exact z
theorem y_valueOf (x : RY n d h lo) (hn2 : 2 ≤ n) {lie : Nat} (hlie : lie < fct n) {what : Int} (hw : what = 0 ∨ what = 1) (kk : ∀ h', FR h h' → P (.int (I (valA n d lie what))) h') : R 178 0 [.ref 400, .int (I (lie : Nat)), .int (I what), .retAddr 0, .retAddr 0, .retAddr 0, .retAddr 0] [] h P := by
  refine t_Y_valueOf x.S (y_open x hn2 hlie fun h1 f1 w1 => ?_)
  have x1 := x.ks f1.ks
  have hn := x.n7
  refine t_Y_valueOf_5 x1.S (value_out x1 hn2 ⟨lie, hlie, rfl⟩ w1 (by rcases hw with rfl | rfl <;> decide) ?_ n 0 _ _ (by omega))
  rw [valA_vT hn2 hw]
  exact kk h1 f1
/-! met -/
theorem clear_loop (hn2 : 2 ≤ n) : ∀ (k i : Nat) (h : Hp), RY n d h lo → i + k = fct n → (∀ y : Nat, y < i → iv h 428 y = -9) → (∀ h', Fr (fun r => r == 428) h h' → (∀ y : Nat, y < fct n → iv h' 428 y = -9) → P .null h') → R 171 2 [.ref 400, .int (I (i : Nat))] [] h P := by
  intro k
  induction k with
  | zero =>
    intro i h x hi hv kk
    have hn := x.n7
    have f5 := fct_le (k := n) (by omega)
    refine t_Y_clearMet_2 x.S ?_
    rw [x.ls, lies_pos hn2]
    exact ⟨by omega, by omega, fun c => absurd c (by omega), fun _ => kk h (Fr.rf _ _) fun y hy => hv y (by omega)⟩
  | succ k ih =>
    intro i h x hi hv kk
    have hn := x.n7
    have f5 := fct_le (k := n) (by omega)
    refine t_Y_clearMet_2 x.S ?_
    rw [x.ls, lies_pos hn2]
    refine ⟨by omega, by omega, fun _ => ⟨by omega, by omega, ?_⟩, fun c => absurd (by omega) c⟩
    have fr : Fr (fun r => r == 428) h (setI h 428 (i : Nat) (-9)) := Fr.set h _ _ rfl
    refine ih (i + 1) _ (x.ks (KS.set (by decide) _ _)) (by omega) (fun y hy => ?_) fun h' f g => kk h' (fr.tr f) g
    rw [iv_setI]
    by_cases e : y = i
    · rw [if_pos ⟨rfl, by rw [e]⟩]
    · rw [if_neg (fun z => e (Int.ofNat.inj z.2))]
      exact hv y (by omega)
theorem y_clearMet (x : RY n d h lo) (hn2 : 2 ≤ n) (kk : ∀ h', KS h h' → (∀ y : Nat, y < fct n → iv h' 428 y = -9) → P .null h') : R 171 0 [.ref 400, .retAddr 0] [] h P :=
  t_Y_clearMet x.S (clear_loop hn2 (fct n) 0 h x (by omega) (fun y hy => absurd hy (Nat.not_lt_zero _)) fun h' f g => kk h' (f.ks fun r hr => by
    have : r = 428 := by simpa using hr
    omega) g)
/-- which lies were met, when -/
def MM (f : Nat → Nat) (x m s : Nat) (g : Int → Int) : Prop := ∀ y, y < m → (∃ t, t < s ∧ itr f t x = y ∧ g (y : Nat) = (t : Nat)) ∨ ((∀ t, t < s → itr f t x ≠ y) ∧ g (y : Nat) = -9)
theorem MM.step {f : Nat → Nat} {x m s : Nat} {g g' : Int → Int} (mm : MM f x m s g) (hg : ∀ z : Nat, z < m → g' (z : Nat) = if z = itr f s x then (s : Int) else g (z : Nat)) : MM f x m (s + 1) g' := by
  intro y hy
  rw [hg y hy]
  by_cases e : y = itr f s x
  · rw [if_pos e]
    exact Or.inl ⟨s, by omega, e.symm, rfl⟩
  · rw [if_neg e]
    rcases mm y hy with ⟨t, t1, t2, t3⟩ | ⟨q, q2⟩
    · exact Or.inl ⟨t, by omega, t2, t3⟩
    · refine Or.inr ⟨fun t ht => ?_, q2⟩
      by_cases e3 : t = s
      · rw [e3]; exact fun e4 => e e4.symm
      · exact q t (by omega)
theorem MM.dis {f : Nat → Nat} {x m s : Nat} {g : Int → Int} (mm : MM f x m s g) (hs : itr f s x < m) (h9 : g (itr f s x : Nat) = -9) : ∀ t, t < s → itr f t x ≠ itr f s x := by
  rcases mm _ hs with ⟨t, -, -, t3⟩ | ⟨q, -⟩
  · omega
  · exact q
theorem MM.old {f : Nat → Nat} {x m s : Nat} {g : Int → Int} (mm : MM f x m s g) (hs : itr f s x < m) (h9 : g (itr f s x : Nat) ≠ -9) : ∃ t, t < s ∧ itr f t x = itr f s x ∧ g (itr f s x : Nat) = (t : Nat) := by
  rcases mm _ hs with q | ⟨-, q⟩
  · exact q
  · exact absurd q h9
theorem met_all {f : Nat → Nat} {x m s : Nat} {g : Int → Int} (hf : ∀ y, y < m → f y < m) (hx : x < m) (mm : MM f x m s g) (hs : m ≤ s) (dis : ∀ a b, a < b → b < s → itr f a x ≠ itr f b x) : g (itr f s x : Nat) ≠ -9 := by
  intro h9
  obtain ⟨j, N, r1, r2, r3, r4⟩ := rho_ex hf hx
  have q := mm.dis (itr_lt hf hx s) h9
  by_cases e : N = s
  · rw [e] at r3 r2; exact q j r2 r3
  · exact dis j N r2 (by omega) r3
theorem dis_step {f : Nat → Nat} {x s : Nat} (dis : ∀ a b, a < b → b < s → itr f a x ≠ itr f b x) (q : ∀ t, t < s → itr f t x ≠ itr f s x) : ∀ a b, a < b → b < s + 1 → itr f a x ≠ itr f b x := fun a b h1 h2 => by
  by_cases z : b = s
  · rw [z]; exact q a (by omega)
  · exact dis a b h1 (by omega)
/-- a lie is met, then where it goes -/
theorem y_go (x : RY n d h lo) (hlo : rng lo) (hn2 : 2 ≤ n) {l : Nat} (hl : (l : Int) < d 0 3) {hd : Int} (hh : rng hd) {x0 s : Nat} (hs : s < 100000) (hx0 : x0 < fct n) (mm : MM (fh d n l hd lo) x0 (fct n) s (iv h 428)) (kk : ∀ h', KS h h' → MM (fh d n l hd lo) x0 (fct n) (s + 1) (iv h' 428) → P (.int (I (itr (fh d n l hd lo) (s + 1) x0 : Nat))) h') :
    R 169 0 [.ref 400, .int (I (l : Nat)), .int (I (itr (fh d n l hd lo) s x0 : Nat)), .int (I hd)] [] (setI h 428 (itr (fh d n l hd lo) s x0 : Nat) (s : Nat)) P := by
  have hn := x.n7
  have hn7 : 2 ≤ n ∧ n ≤ 7 := by omega
  have hy := itr_lt (f := fh d n l hd lo) (fh_lt hn7) hx0 s
  have k1 : KS h (setI h 428 (itr (fh d n l hd lo) s x0 : Nat) (s : Nat)) := KS.set (by decide) _ _
  refine y_nextOf (x.ks k1) hlo hn2 hl hh hy fun h2 f2 => kk h2 (k1.tr f2.ks) (mm.step fun z hz => ?_)
  rw [f2.i (by decide) (by decide), iv_setI]
  by_cases e : z = itr (fh d n l hd lo) s x0
  · rw [if_pos ⟨rfl, by rw [e]⟩, if_pos e]
  · rw [if_neg (fun q => e (Int.ofNat.inj q.2)), if_neg e]
theorem RY.inF (x : RY n d h lo) (h0 : d 0 3 ≠ 0) : ∃ l : Nat, (l : Int) = d 0 4 ∧ (l : Int) < d 0 3 ∧ (d 0 4).toNat = l := by
  have l4 := x.l4
  have l3 := x.l3
  exact ⟨(d 0 4).toNat, by omega, by omega, rfl⟩
theorem ystill_loop (hn2 : 2 ≤ n) {l : Nat} (el : (l : Int) = d 0 4) (hl : (l : Int) < d 0 3) {hd w : Int} (hh : rng hd) (hw : rng w) {x0 : Nat} (hx0 : x0 < fct n) {a1 : Value} : ∀ (k s : Nat) (h : Hp), s + k = fct n → RY n d h (-9) → (∀ a b, a < b → b < s → itr (fh d n l hd (-9)) a x0 ≠ itr (fh d n l hd (-9)) b x0) → MM (fh d n l hd (-9)) x0 (fct n) s (iv h 428) →
    (∀ h' v, KS h h' → StV (fh d n l hd (-9)) x0 w v → P (.int (I v)) h') → R 170 49 [.ref 400, a1, .int (I hd), .int (I w), .int (I (itr (fh d n l hd (-9)) s x0 : Nat)), .int (I (s : Nat))] [] h P := by
  intro k
  induction k with
  | zero =>
    intro s h hs x dis mm kk
    have hn := x.n7
    have hn7 : 2 ≤ n ∧ n ≤ 7 := by omega
    have f5 := fct_le hn7.2
    have hy := itr_lt (f := fh d n l hd (-9)) (fh_lt hn7) hx0 s
    have h9 := met_all (fh_lt hn7) hx0 mm (by omega) dis
    obtain ⟨t, t1, t2, t3⟩ := mm.old hy h9
    have st : StV (fh d n l hd (-9)) x0 w (if w = 0 then (t : Int) else (s : Int) - (t : Int)) := ⟨t, s, ⟨t1, t2, dis⟩, rfl⟩
    refine t_Y_still_49 x.S ?_
    rw [t3]
    refine ⟨by omega, by omega, by omega, fun c => absurd c (by omega), fun _ => ⟨hw, fun e => ⟨by omega, by omega, ?_⟩, fun e => ⟨by omega, by omega, ?_⟩⟩⟩
    · rw [if_pos e] at st; exact kk h _ (KS.rf h) st
    · rw [if_neg e] at st; exact kk h _ (KS.rf h) st
  | succ k ih =>
    intro s h hs x dis mm kk
    have hn := x.n7
    have hn7 : 2 ≤ n ∧ n ≤ 7 := by omega
    have f5 := fct_le hn7.2
    have hy := itr_lt (f := fh d n l hd (-9)) (fh_lt hn7) hx0 s
    by_cases h9 : iv h 428 (itr (fh d n l hd (-9)) s x0 : Nat) = -9
    · have e19 : iv (setI h 428 (itr (fh d n l hd (-9)) s x0 : Nat) (s : Nat)) 400 19 = (l : Nat) := by rw [iv_ne (by decide), x.l4.1, el]
      refine t_Y_still_49 x.S ?_
      rw [h9, wr_eq (show rng (s : Nat) by omega), e19]
      refine ⟨by omega, by omega, by decide, fun _ => ⟨by omega, by omega, ?_⟩, fun c => absurd rfl c⟩
      refine y_go x (by decide) hn2 hl hh (by omega) hx0 mm fun h2 k2 mm2 => t_Y_still_84 (x.ks k2).S ?_
      exact ih (s + 1) h2 (by omega) (x.ks k2) (dis_step dis (mm.dis hy h9)) mm2 fun h' v k3 sv => kk h' v (k2.tr k3) sv
    · obtain ⟨t, t1, t2, t3⟩ := mm.old hy h9
      have st : StV (fh d n l hd (-9)) x0 w (if w = 0 then (t : Int) else (s : Int) - (t : Int)) := ⟨t, s, ⟨t1, t2, dis⟩, rfl⟩
      refine t_Y_still_49 x.S ?_
      rw [t3]
      refine ⟨by omega, by omega, by omega, fun c => absurd c (by omega), fun _ => ⟨hw, fun e => ⟨by omega, by omega, ?_⟩, fun e => ⟨by omega, by omega, ?_⟩⟩⟩
      · rw [if_pos e] at st; exact kk h _ (KS.rf h) st
      · rw [if_neg e] at st; exact kk h _ (KS.rf h) st
theorem y_still (x : RY n d h (-9)) {l hd w : Int} (hl : rng l) (hh : rng hd) (hw : rng w) (kk : ∀ h', KY n d h h' → P (.int (I (stillA n d l hd w))) h') : R 170 0 [.ref 400, .int (I l), .int (I hd), .int (I w), .retAddr 0, .retAddr 0] [] h P := by
  unfold stillA at kk
  have l3 := x.l3
  refine t_Y_still x.S (y_isLie x hl (fun c => ?_) (fun c => ?_))
  · rw [if_neg (by omega)] at kk
    refine t_Y_still_5 x.S ⟨by decide, fun q => absurd q (by decide), fun _ => y_isHard hh (fun c2 => ?_) (fun c2 => ?_)⟩
    · refine t_Y_still_14 x.S ⟨by decide, fun q => absurd q (by decide), fun _ => y_within hw (by decide) (by decide) (fun c3 => ?_) (fun c3 => ?_)⟩
      · rw [if_neg (by omega)] at kk
        refine t_Y_still_23 x.S ?_
        rw [l3.1]
        refine ⟨by decide, fun q => absurd q (by decide), fun _ => ⟨by omega, fun c4 => ?_, fun c4 => ?_⟩⟩
        · rw [if_pos c4] at kk; exact kk h (KY.rf x)
        · rw [if_neg c4] at kk
          have hn2 := lie_n x.n7 c
          obtain ⟨l2, el, hl2, e2⟩ := x.inF c4
          rw [e2] at kk
          rw [lies_pos hn2] at c
          have e : l = (l.toNat : Nat) := by omega
          refine y_clearMet x hn2 fun h1 k1 g1 => t_Y_still_43 (x.ks k1).S ?_
          have z := ystill_loop (P := P) (a1 := .int (I l)) hn2 el hl2 hh hw (x0 := l.toNat) (by omega) (fct n) 0 h1 (by omega) (x.ks k1) (fun a b h1 h2 => by omega) (fun y hy => Or.inr ⟨fun t ht => by omega, g1 y hy⟩) fun h' v k3 sv => by
            rw [stV_eq sv]
            exact kk h' (x.k (k1.tr k3))
          have e3 : I l = I ((itr (fh d n l2 hd (-9)) 0 l.toNat : Nat) : Int) := congrArg I e
          rw [← e3] at z
          exact z
      · rw [if_pos (by omega)] at kk
        refine t_Y_still_23 x.S ?_
        rw [l3.1]
        exact ⟨by decide, fun _ => kk h (KY.rf x), fun q => absurd rfl q⟩
    · rw [if_pos (by omega)] at kk
      exact t_Y_still_14 x.S ⟨by decide, fun _ => kk h (KY.rf x), fun q => absurd rfl q⟩
  · rw [if_pos (by omega)] at kk
    exact t_Y_still_5 x.S ⟨by decide, fun _ => kk h (KY.rf x), fun q => absurd rfl q⟩
/-! soon -/
theorem ysoon_loop (hlo : rng lo) (hn2 : 2 ≤ n) {l : Nat} (el : (l : Int) = d 0 4) (hl : (l : Int) < d 0 3) {hd g : Int} (hh : rng hd) (hg : rng g) {x0 : Nat} (hx0 : x0 < fct n) {a2 : Value} : ∀ (k s : Nat) (h : Hp), s + k = fct n → RY n d h lo → (∀ a b, a < b → b < s → itr (fh d n l hd lo) a x0 ≠ itr (fh d n l hd lo) b x0) → MM (fh d n l hd lo) x0 (fct n) s (iv h 428) → (∀ i, i < s → ¬ topQ n g (itr (fh d n l hd lo) i x0)) →
    (∀ h' v, KS h h' → Fst (fh d n l hd lo) (topQ n g) x0 v → P (.int (I v)) h') → R 174 10 [.ref 400, .int (I g), a2, .int (I hd), .int (I (itr (fh d n l hd lo) s x0 : Nat)), .int (I (s : Nat))] [] h P := by
  intro k
  induction k with
  | zero =>
    intro s h hs x dis mm hq kk
    have hn := x.n7
    have hn7 : 2 ≤ n ∧ n ≤ 7 := by omega
    have f5 := fct_le hn7.2
    have hy := itr_lt (f := fh d n l hd lo) (fh_lt hn7) hx0 s
    have h9 := met_all (fh_lt hn7) hx0 mm (by omega) dis
    obtain ⟨t, t1, t2, t3⟩ := mm.old hy h9
    refine t_Y_soonOf_10 x.S ?_
    rw [t3]
    exact ⟨by omega, by omega, by omega, fun c => absurd c (by omega), fun _ => kk h (-9) (KS.rf h) (Fst.none t1 t2 hq)⟩
  | succ k ih =>
    intro s h hs x dis mm hq kk
    have hn := x.n7
    have hn7 : 2 ≤ n ∧ n ≤ 7 := by omega
    have f5 := fct_le hn7.2
    have hy := itr_lt (f := fh d n l hd lo) (fh_lt hn7) hx0 s
    by_cases h9 : iv h 428 (itr (fh d n l hd lo) s x0 : Nat) = -9
    · refine t_Y_soonOf_10 x.S ?_
      rw [h9]
      refine ⟨by omega, by omega, by decide, fun _ => ?_, fun c => absurd rfl c⟩
      refine y_isOnTop x hn2 hg hy (fun q h1 f1 => ?_) (fun q h1 f1 => ?_)
      · exact t_Y_soonOf_29 (x.ks f1.ks).S ⟨by decide, fun c => absurd c (by decide), fun _ => kk h1 _ f1.ks (Or.inr ⟨s, rfl, q, hq⟩)⟩
      · have x1 := x.ks f1.ks
        have mm1 : MM (fh d n l hd lo) x0 (fct n) s (iv h1 428) := fun y hy => by rw [f1.i (by decide) (by decide)]; exact mm y hy
        have e19 : iv (setI h1 428 (itr (fh d n l hd lo) s x0 : Nat) (s : Nat)) 400 19 = (l : Nat) := by rw [iv_ne (by decide), x1.l4.1, el]
        refine t_Y_soonOf_29 x1.S ?_
        rw [wr_eq (show rng (s : Nat) by omega), e19]
        refine ⟨by decide, fun _ => ⟨by omega, by omega, ?_⟩, fun c => absurd rfl c⟩
        refine y_go x1 hlo hn2 hl hh (by omega) hx0 mm1 fun h2 k2 mm2 => t_Y_soonOf_58 (x1.ks k2).S ?_
        refine ih (s + 1) h2 (by omega) (x1.ks k2) (dis_step dis (mm.dis hy h9)) mm2 (fun i hi => ?_) fun h' v k3 sv => kk h' v ((f1.ks.tr k2).tr k3) sv
        by_cases e : i = s
        · rw [e]; exact q
        · exact hq i (by omega)
    · obtain ⟨t, t1, t2, t3⟩ := mm.old hy h9
      refine t_Y_soonOf_10 x.S ?_
      rw [t3]
      exact ⟨by omega, by omega, by omega, fun c => absurd c (by omega), fun _ => kk h (-9) (KS.rf h) (Fst.none t1 t2 hq)⟩
theorem y_soonOf (x : RY n d h lo) (hlo : rng lo) (hn2 : 2 ≤ n) {l : Nat} (el : (l : Int) = d 0 4) (hl : (l : Int) < d 0 3) {hd g : Int} (hh : rng hd) (hg : rng g) {x0 : Nat} (hx0 : x0 < fct n) (kk : ∀ h', KS h h' → P (.int (I (fstV (fh d n l hd lo) (topQ n g) x0))) h') : R 174 0 [.ref 400, .int (I g), .int (I (x0 : Nat)), .int (I hd), .retAddr 0, .retAddr 0] [] h P := by
  refine t_Y_soonOf x.S (y_clearMet x hn2 fun h1 k1 g1 => t_Y_soonOf_4 (x.ks k1).S ?_)
  exact ysoon_loop (P := P) hlo hn2 el hl hh hg hx0 (fct n) 0 h1 (by omega) (x.ks k1) (fun a b h1 h2 => by omega) (fun y hy => Or.inr ⟨fun t ht => by omega, g1 y hy⟩) (fun i hi => by omega) fun h' v k3 sv => by
    rw [fstV_eq sv]
    exact kk h' (k1.tr k3)
end YWAY
