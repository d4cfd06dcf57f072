/-! The law's texts: a box's, as it writes it. -/
theorem R.up {m pc : Nat} {ls st : List Value} {h : Hp} {P : Value → Hp → Prop} (r : R m pc ls st h (fun v h' => ck h ≤ ck h' → P v h')) : R m pc ls st h P := by
  obtain ⟨n, v, h', e, p⟩ := r
  exact ⟨n, v, h', e, p (exec_mono _ _ _ _ _ _ _ _ e).1⟩
theorem KX.c {n : Nat} {d : Nat → Nat → Int} {h h' : Hp} (k : KX n d h h') : ck h ≤ ck h' := k.2.2.1.1.2.2.1
/-- what holds between the law's calls: so many were made -/
noncomputable def ZZ (g : Int → Int) (M kc ku n : Nat) (d : Nat → Nat → Int) (t : Nat) (h : Hp) : Prop := (RX n d h ∧ TZ d h) ∧ (ck h ≤ kc + SL h + 30 * t ∧ cu h ≤ ku + 2 * SL h + 300 * t) ∧ iv h 1 3 ≤ (t : Nat) ∧ SCR g M h ∧ FZ h
theorem FZ.x {h h1 : Hp} (z : FZ h) (a : Gr X4 h h1) (c : ck h ≤ ck h1) : FZ h1 := fun r hr => by
  rw [(a r (X4_n (by omega))).1]
  exact z r (by omega)
section ZZS
variable {g : Int → Int} {M kc ku n n' t : Nat} {d d' : Nat → Nat → Int} {h h1 : Hp} {P : Value → Hp → Prop}
theorem ZZ.x (a : ZZ g M kc ku n d t h) (k : KL n' d' h h1) (c : ck h ≤ ck h1) : ZZ g M kc ku n' d' (t + 1) h1 := by
  obtain ⟨⟨a1, a3⟩, ⟨a4, a5⟩, a6, a7, a8⟩ := a
  obtain ⟨k1, k2, k3, ⟨k4, k5⟩, k6⟩ := k
  exact ⟨⟨k1, k3⟩, ⟨by omega, by omega⟩, by omega, a7.gp (k2.p rfl), a8.x k2 c⟩
theorem ZZ.rx (a : ZZ g M kc ku n d t h) : RX n d h := a.1.1
theorem ZZ.tz (a : ZZ g M kc ku n d t h) : TZ d h := a.1.2
theorem ZZ.sc (a : ZZ g M kc ku n d t h) : SCR g M h := a.2.2.2.1
theorem ZZ.fz (a : ZZ g M kc ku n d t h) : FZ h := a.2.2.2.2
theorem ZZ.k (a : ZZ g M kc ku n d t h) (k : KX n d' h h1) (e : d' 0 3 = d 0 3) : ZZ g M kc ku n d' (t + 1) h1 := a.x (k.l a.tz e) k.c
/-- what the law itself does -/
theorem ZZ.p (a : ZZ g M kc ku n d t h) {c : Nat} (q : ∀ r, r < 10000 → Gp h h1 r) (f : FZ h1) (c1 : ck h1 ≤ ck h + 30 * c) (c2 : cu h1 ≤ cu h + 300 * c) : ZZ g M kc ku n d (t + c) h1 := by
  obtain ⟨⟨a1, a3⟩, ⟨a4, a5⟩, a6, a7, a8⟩ := a
  have s : SL h1 = SL h := SL_eq (fun r hr => (q r (by omega)).2.1) fun l j hl hj => (q _ (by omega)).2.1
  have e : iv h1 1 3 = iv h 1 3 := (q 1 (by decide)).2.2.1 3
  refine ⟨⟨a1.gp fun r hr => q r (by omega), fun l h1' h2 r h3 h4 => ?_⟩, ⟨by omega, by omega⟩, by omega, a7.gp (q 502 (by decide)), f⟩
  have z := q r (by omega)
  rw [z.1, z.2.1]
  exact a3 l h1' h2 r h3 h4
theorem ZZ.o (a : ZZ g M kc ku n d t h) {Q : Nat} (q : Fr (fun r => r == Q) h h1) (hQ : 10000 ≤ Q) : ZZ g M kc ku n d t h1 := by
  have c := q.c
  exact a.p (c := 0) (fun r hr => q.gp1 (by omega)) (a.fz.fr q) (by omega) (by omega)
theorem ZZ.nw (a : ZZ g M kc ku n d t h) {c : Nat} (q : NW h h1 c) : ZZ g M kc ku n d (t + c) h1 := by
  obtain ⟨q1, q2, ⟨q3, q4⟩, q5, q6⟩ := q
  exact a.p (fun r hr => q1 r (by omega)) q2 (by omega) (by omega)
theorem ZZ.mk (a : ZZ g M kc ku n d t h) {m : Nat} (hm : m ≤ 300) : ZZ g M kc ku n d (t + 1) (mk h (10000 + ck h) 20 m m) :=
  a.p (fun r hr => Gp.mk _ _ _ (by omega)) (a.fz.mk _ _ _) (by show ck h + 1 ≤ _; omega) (by show cu h + m ≤ _; omega)
/-- the same but for faults and sheets -/
def DE (d d' : Nat → Nat → Int) : Prop := (∀ f, 1 ≤ f → f ≤ 9 → d' f = d f) ∧ ∀ i, i ≠ 7 → d' 0 i = d 0 i
theorem DE.rf (d : Nat → Nat → Int) : DE d d := ⟨fun _ _ _ => rfl, fun _ _ => rfl⟩
theorem DE.tr {d1 d2 d3 : Nat → Nat → Int} (a : DE d1 d2) (b : DE d2 d3) : DE d1 d3 := ⟨fun f h1 h2 => (b.1 f h1 h2).trans (a.1 f h1 h2), fun i hi => (b.2 i hi).trans (a.2 i hi)⟩
def PD (d : Nat → Nat → Int) (k i : Nat) (v : Int) : Nat → Nat → Int := up (up d 0 7 0) 12 (60 * k + i) v
theorem PD_de (d : Nat → Nat → Int) (k i : Nat) (v : Int) : DE d (PD d k i v) := ⟨fun f h1 h2 => by unfold PD; rw [up_f (by omega), up_f (by omega)], fun j hj => by unfold PD; rw [up_ne (by omega), up_ne (by omega)]⟩
theorem PD_f (d : Nat → Nat → Int) (k i : Nat) (v : Int) {f : Nat} (hf : f ≠ 0 ∧ f ≠ 12) : PD d k i v f = d f := by unfold PD; rw [up_f hf.2, up_f hf.1]
theorem PD_at (d : Nat → Nat → Int) (k i : Nat) (v : Int) {p : Nat} (e : p = 60 * k + i) : PD d k i v 12 p = v := by rw [e]; exact up_at _ _ _ _
theorem PD_o (d : Nat → Nat → Int) (k i : Nat) (v : Int) {p : Nat} (e : p ≠ 60 * k + i) : PD d k i v 12 p = d 12 p := by unfold PD; rw [up_ne (by omega), up_f (by decide)]
theorem b8_small : ∀ v : _root_.Fin 128, b8 ((v : Nat) : Int) = ((v : Nat) : Int) := by decide +kernel
theorem cut0 {v : Int} (hv : 0 ≤ v ∧ v < 128) : cutv 0 v = v := by
  unfold cutv
  rw [if_pos rfl]
  have := b8_small ⟨v.toNat, by omega⟩
  have e : ((v.toNat : Nat) : Int) = v := by omega
  simp only [e] at this
  exact this
theorem cut2 (v : Int) : cutv 2 v = v := by
  unfold cutv
  rw [if_neg (by decide), if_neg (by decide)]
theorem z_put (a : ZZ g M kc ku n d t h) {k i : Nat} {v s : Int} (hk : k < 4) (h9 : d 10 k = s) (hs : cutv s v = v) (hs9 : s ≠ -9) (hi : (i : Int) < d 11 k) (hv : rng v) (kk : ∀ h', ZZ g M kc ku n (PD d k i v) (t + 1) h' → Gr X4 h h' → P (.int (I 1)) h') : R 84 0 [.ref 0, .int (I (k : Nat)), .int (I (i : Nat)), .int (I v), .retAddr 0] [] h P := by
  have dl := a.rx.dl hk
  refine s_put a.rx (by omega) (by omega) hv fun h' kx => ?_
  have e1 : putV d (k : Nat) (i : Nat) = 1 := by
    unfold putV
    rw [if_neg (by omega), Int.toNat_natCast, h9, if_neg hs9, if_neg (by omega)]
  have e2 : putD d (k : Nat) (i : Nat) v = PD d k i v := by
    unfold putD
    rw [if_neg (by omega), Int.toNat_natCast, h9, if_neg hs9, if_neg (by omega), Int.toNat_natCast, hs]
    rfl
  rw [e1]
  rw [e2] at kx
  exact kk h' (a.k kx ((PD_de d k i v).2 3 (by decide))) kx.2.1
theorem sht_de (d : Nat → Nat → Int) (k : Nat) (s m : Int) : DE d (shtD (up d 0 7 0) k s m) := ⟨fun f h1 h2 => by
  funext i
  unfold shtD
  rw [if_neg (by omega), if_neg (by omega), if_neg (by omega), up_ne (by omega)], fun i hi => by
  unfold shtD
  rw [if_neg (by omega), if_neg (by omega), if_neg (by omega), up_ne (by omega)]⟩
theorem sht_10 (d : Nat → Nat → Int) (k : Nat) (s m : Int) : shtD d k s m 10 k = s := if_pos ⟨rfl, rfl⟩
theorem sht_11 (d : Nat → Nat → Int) (k : Nat) (s m : Int) : shtD d k s m 11 k = m := by
  unfold shtD
  rw [if_neg (by omega), if_pos ⟨rfl, rfl⟩]
theorem z_sheet (a : ZZ g M kc ku n d t h) {k : Nat} {s m : Int} (hk : k < 4) (hs : 0 ≤ s ∧ s ≤ 2) (hm : 0 ≤ m ∧ m ≤ 60) (kk : ∀ h', ZZ g M kc ku n (shtD (up d 0 7 0) k s m) (t + 1) h' → Gr X4 h h' → P (.int (I 1)) h') : R 82 0 [.ref 0, .int (I (k : Nat)), .int (I s), .int (I m)] [] h P := by
  refine s_sheet a.rx (by omega) (by omega) (by omega) fun h' kx => ?_
  have e1 : sheetV (k : Nat) s m = 1 := by
    unfold sheetV
    rw [if_neg (by omega), if_neg (by omega), if_neg (by omega)]
  have e2 : sheetD d (k : Nat) s m = shtD (up d 0 7 0) k s m := by
    unfold sheetD
    rw [if_neg (by omega), if_neg (by omega), if_neg (by omega), Int.toNat_natCast]
  rw [e1]
  rw [e2] at kx
  exact kk h' (a.k kx ((sht_de d k s m).2 3 (by decide))) kx.2.1
end ZZS
/-! Where the grains lie in the text, what stands there. -/
def ps (K : Nat → Nat) : Nat → Nat
  | 0 => 0
  | j + 1 => ps K j + 3 + K j + 1
def BTX (S W : Nat → Int) (K : Nat → Nat) (H : Nat → Int) (k : Nat) : Prop := ∀ j, j < k → H (ps K j) = 103 ∧ H (ps K j + 1) = 48 + S j ∧ H (ps K j + 2) = 48 + W j ∧ (0 < K j → H (ps K j + 3) = 108) ∧ (1 < K j → H (ps K j + 4) = 111) ∧ (j + 1 < k → H (ps K j + 3 + K j) = 59)
theorem ps_le {K : Nat → Nat} : ∀ {k j : Nat}, j ≤ k → ps K j ≤ ps K k
  | 0, j, h => by rw [show j = 0 by omega]; exact Nat.le_refl _
  | k + 1, j, h => by
    by_cases e : j = k + 1
    · rw [e]; exact Nat.le_refl _
    · have := ps_le (K := K) (k := k) (j := j) (by omega)
      rw [ps]
      omega
theorem ps_lt {K : Nat → Nat} {j k : Nat} (h : j < k) : ps K j + 3 + K j + 1 ≤ ps K k := ps_le (K := K) (k := k) (j := j + 1) h
theorem ps_bd {K : Nat → Nat} (hK : ∀ j, K j ≤ 2) : ∀ k, ps K k ≤ 6 * k
  | 0 => Nat.le_refl _
  | k + 1 => by
    have := ps_bd hK k
    have := hK k
    rw [ps]
    omega
section BTXS
variable {S W : Nat → Int} {K : Nat → Nat} {H H' : Nat → Int} {k : Nat}
theorem BTX.keep (b : BTX S W K H k) (e : ∀ p, p + 1 < ps K k → H' p = H p) : BTX S W K H' k := fun j hj => by
  obtain ⟨b1, b2, b3, b4, b5, b6⟩ := b j hj
  have q := ps_lt (K := K) hj
  refine ⟨by rw [e _ (by omega)]; exact b1, by rw [e _ (by omega)]; exact b2, by rw [e _ (by omega)]; exact b3, fun z => by rw [e _ (by omega)]; exact b4 z, fun z => by rw [e _ (by omega)]; exact b5 z, fun z => ?_⟩
  have q2 := ps_lt (K := K) z
  rw [ps] at q2
  rw [e _ (by omega)]
  exact b6 z
theorem BTX.next (b : BTX S W K H k) (s : 0 < k → H (ps K k - 1) = 59) (h1 : H (ps K k) = 103) (h2 : H (ps K k + 1) = 48 + S k) (h3 : H (ps K k + 2) = 48 + W k) (h4 : 0 < K k → H (ps K k + 3) = 108) (h5 : 1 < K k → H (ps K k + 4) = 111) : BTX S W K H (k + 1) := fun j hj => by
  by_cases c : j = k
  · rw [c]
    exact ⟨h1, h2, h3, h4, h5, fun z => absurd z (by omega)⟩
  · obtain ⟨b1, b2, b3, b4, b5, b6⟩ := b j (by omega)
    refine ⟨b1, b2, b3, b4, b5, fun z => ?_⟩
    by_cases c2 : j + 1 = k
    · have := s (by omega)
      rw [← c2, ps] at this
      exact this
    · exact b6 (by omega)
/-- the text is told rightly -/
theorem BTX.kq (b : BTX S W K H k) (hK : ∀ j, K j ≤ 2) {j : Nat} (hj : j < k) : kd H (ps K k - 1) (ps K j + 3) = K j := by
  obtain ⟨b1, b2, b3, b4, b5, b6⟩ := b j hj
  have q := ps_lt (K := K) hj
  have k2 := hK j
  have sep : ∀ x, x = ps K j + 3 + K j → x < ps K k - 1 → H x = 59 := fun x hx hl => by
    rw [hx]
    apply b6
    apply Classical.byContradiction
    intro z
    have : k = j + 1 := by omega
    rw [this, ps] at hl
    omega
  unfold kd
  have kk : K j = 0 ∨ K j = 1 ∨ K j = 2 := by omega
  rcases kk with e | e | e
  · rw [e, if_neg]
    rintro ⟨z1, z2⟩
    rw [sep _ (by omega) z1] at z2
    exact absurd z2 (by decide)
  · rw [e, if_pos ⟨by omega, b4 (by omega)⟩, if_neg]
    rintro ⟨z1, z2⟩
    rw [sep _ (by omega) z1] at z2
    exact absurd z2 (by decide)
  · rw [e, if_pos ⟨by omega, b4 (by omega)⟩, if_pos ⟨by omega, b5 (by omega)⟩]
theorem BTX.gq (b : BTX S W K H k) (hK : ∀ j, K j ≤ 2) : ∀ j, j ≤ k → gpo H (ps K k - 1) j = ps K j
  | 0, _ => rfl
  | j + 1, h => by
    show gpo H (ps K k - 1) j + 3 + _ + 1 = ps K j + 3 + K j + 1
    rw [BTX.gq b hK j (by omega), b.kq hK (by omega)]
theorem BTX.bq (b : BTX S W K H k) (hK : ∀ j, K j ≤ 2) (hS : ∀ j, 1 ≤ S j ∧ S j ≤ 9) (hW : ∀ j, 1 ≤ W j ∧ W j ≤ 9) (hk : 2 ≤ k ∧ k ≤ 6) : ∀ i j, i + j + 1 = k → bxg H (ps K k - 1) (7 - j) j (ps K j) = -1 := by
  intro i
  induction i with
  | zero =>
    intro j hj
    obtain ⟨b1, b2, b3, b4, b5, b6⟩ := b j (by omega)
    have q := ps_lt (K := K) (show j < k by omega)
    have s1 := hS j
    have s2 := hW j
    have e : 7 - j = (6 - j) + 1 := by omega
    have ek : ps K k = ps K j + 3 + K j + 1 := by rw [show k = j + 1 by omega]; rfl
    rw [e, bxg, if_neg (fun z => z ⟨by omega, b1⟩), if_neg (fun z => z ⟨by omega, by omega, by omega⟩), if_neg (fun z => z ⟨by omega, by omega, by omega⟩), b.kq hK (by omega), if_pos ⟨by omega, by omega⟩]
  | succ i ih =>
    intro j hj
    obtain ⟨b1, b2, b3, b4, b5, b6⟩ := b j (by omega)
    have q := ps_lt (K := K) (show j < k by omega)
    have q2 := ps_lt (K := K) (show j + 1 < k by omega)
    have s1 := hS j
    have s2 := hW j
    have e : 7 - j = (6 - j) + 1 := by omega
    have ep : ps K (j + 1) = ps K j + 3 + K j + 1 := rfl
    rw [e, bxg, if_neg (fun z => z ⟨by omega, b1⟩), if_neg (fun z => z ⟨by omega, by omega, by omega⟩), if_neg (fun z => z ⟨by omega, by omega, by omega⟩), b.kq hK (by omega), if_neg (fun z => by omega), if_neg (fun z => ?_)]
    · have := ih (j + 1) (by omega)
      rw [show 7 - (j + 1) = 6 - j by omega] at this
      exact this
    · rcases z with z | z
      · omega
      · exact z ⟨by omega, b6 (by omega)⟩
theorem BTX.gt (b : BTX S W K H k) (hK : ∀ j, K j ≤ 2) (hS : ∀ j, 1 ≤ S j ∧ S j ≤ 9) (hW : ∀ j, 1 ≤ W j ∧ W j ≤ 9) (hk : 2 ≤ k ∧ k ≤ 6) : GT H (ps K k - 1) k := by
  have q := ps_lt (K := K) (show 0 < k by omega)
  refine ⟨⟨hk.1, by omega⟩, ?_, fun j hj => ?_⟩
  · rw [b.gq hK k (Nat.le_refl _)]; omega
  · rw [b.gq hK j (by omega)]
    obtain ⟨b1, b2, b3, b4, b5, b6⟩ := b j hj
    have q := ps_lt (K := K) hj
    have s1 := hS j
    have s2 := hW j
    omega
end BTXS
