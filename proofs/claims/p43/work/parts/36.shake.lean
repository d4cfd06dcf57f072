/-! Fits; shakes, doings; which laws. -/
noncomputable def fts (Q : Nat → Prop) : Nat → Nat
  | 0 => 0
  | k + 1 => fts Q k ||| (@ite Nat (Q k) (Classical.propDecidable _) (1 <<< k) 0)
theorem fts_lt (Q : Nat → Prop) : ∀ k, fts Q k < 2 ^ k
  | 0 => by show 0 < 2 ^ 0; exact Nat.one_pos
  | k + 1 => by
    have h := fts_lt Q k
    rw [fts]
    have p : 2 ^ (k + 1) = 2 ^ k + 2 ^ k := by rw [Nat.pow_succ]; omega
    refine Nat.or_lt_two_pow (Nat.lt_of_lt_of_le h (by omega)) ?_
    split
    · rw [one_sh]; have := Nat.two_pow_pos k; omega
    · have := Nat.two_pow_pos k; omega
theorem fts_y {Q : Nat → Prop} {k : Nat} (h : Q k) : fts Q (k + 1) = fts Q k ||| 1 <<< k := by rw [fts, if_pos h]
theorem fts_n {Q : Nat → Prop} {k : Nat} (h : ¬ Q k) : fts Q (k + 1) = fts Q k := by rw [fts, if_neg h, Nat.or_zero]
/-- a bit more, as the machine has it -/
theorem fts_bit (Q : Nat → Prop) {k : Nat} (hk : k < 31) : bor (fts Q k : Nat) (shl 1 (k : Nat)) = ((fts Q k ||| 1 <<< k : Nat) : Int) := by
  have h := fts_lt Q k
  have p : 2 ^ k ≤ 2 ^ 30 := pow2_le (by omega)
  have e : (1 : Nat) <<< k < 2147483648 := by rw [one_sh]; omega
  rw [show (1 : Int) = ((1 : Nat) : Int) from rfl, shl_nat (by omega) e, bor_nat (by omega) e]
noncomputable def fitsA (n : Nat) (d : Nat → Nat → Int) (l hd : Int) : Int := if l < 0 ∨ (lies n : Int) ≤ l then -1 else if hd < 1 ∨ 3 < hd then -2 else if d 0 3 = 0 then -3 else (fts (fun s => rdQ d (rw_ n (itr (fh d n (d 0 4).toNat hd (-9)) s l.toNat))) 31 : Nat)
section FITS
variable {n : Nat} {d : Nat → Nat → Int} {P : Value → Hp → Prop} {l j : Nat}
end FITS
/-! shakes -/
noncomputable def goL (d : Nat → Nat → Int) (n l : Nat) (H : Nat → Int) (x : Nat) : Nat → Nat
  | 0 => x
  | k + 1 => fh d n l (H k) (-9) (goL d n l H x k)
noncomputable def goC (d : Nat → Nat → Int) (n l : Nat) (H : Nat → Int) (x : Nat) : Nat → Int
  | 0 => 0
  | k + 1 => goC d n l H x k + (shc (chg d l (H k) (-9)) n (rw_ n (goL d n l H x k)) : Nat)
theorem goL_lt {d : Nat → Nat → Int} {n l : Nat} {H : Nat → Int} {x : Nat} (hn : 2 ≤ n ∧ n ≤ 7) (hx : x < fct n) : ∀ k, goL d n l H x k < fct n
  | 0 => hx
  | k + 1 => fh_lt hn _ (goL_lt hn hx k)
def shD (d : Nat → Nat → Int) (v w : Int) : Nat → Nat → Int := up (up d 0 1 v) 0 2 w
theorem shD_1 (d : Nat → Nat → Int) (v w : Int) : shD d v w 0 1 = v := by unfold shD; rw [up_ne (by omega), up_at]
theorem shD_2 (d : Nat → Nat → Int) (v w : Int) : shD d v w 0 2 = w := up_at _ _ _ _
theorem shD_f (d : Nat → Nat → Int) (v w : Int) {f : Nat} (hf : f ≠ 0) : shD d v w f = d f := by unfold shD; rw [up_f hf, up_f hf]
theorem shD_i (d : Nat → Nat → Int) (v w : Int) {i : Nat} (h1 : i ≠ 1) (h2 : i ≠ 2) : shD d v w 0 i = d 0 i := by unfold shD; rw [up_ne (by omega), up_ne (by omega)]
theorem shD_shD (d : Nat → Nat → Int) (v w v' w' : Int) : shD (shD d v w) v' w' = shD d v' w' := by
  funext f i
  by_cases hf : f = 0
  · subst hf
    by_cases h1 : i = 1
    · subst h1; rw [shD_1, shD_1]
    · by_cases h2 : i = 2
      · subst h2; rw [shD_2, shD_2]
      · rw [shD_i _ _ _ h1 h2, shD_i _ _ _ h1 h2, shD_i _ _ _ h1 h2]
  · rw [shD_f _ _ _ hf, shD_f _ _ _ hf, shD_f _ _ _ hf]
theorem shD_id (d : Nat → Nat → Int) : shD d (d 0 1) (d 0 2) = d := by
  funext f i
  by_cases hf : f = 0
  · subst hf
    by_cases h1 : i = 1
    · subst h1; rw [shD_1]
    · by_cases h2 : i = 2
      · subst h2; rw [shD_2]
      · rw [shD_i _ _ _ h1 h2]
  · rw [shD_f _ _ _ hf]
theorem chg_sh (d : Nat → Nat → Int) (v w : Int) (l : Nat) (hd lo : Int) : chg (shD d v w) l hd lo = chg d l hd lo := chg_cg (fun f h1 _ => shD_f d v w (by omega)) l hd lo
theorem wr_add (a b : Int) : wr (wr a + b) = wr (a + b) := by
  unfold wr
  exact congrArg Int32.toInt (I_wr_add a b)
section SHAKE
variable {n : Nat} {d : Nat → Nat → Int} {P : Value → Hp → Prop} {l : Nat} {h : Hp}
theorem s_shakeOnce (x : RX n d h) (hn2 : 2 ≤ n) (hl : (l : Int) < d 0 3) {hd : Int} (hh : 1 ≤ hd ∧ hd ≤ 3) (k : ∀ h', KX n (shD d (fh d n l hd (-9) (d 0 1).toNat : Nat) (wr (d 0 2 + 1))) h h' → P (.int (I (shc (chg d l hd (-9)) n (rw_ n (d 0 1).toNat) : Nat))) h') : R 54 0 [.ref 0, .ref (64 * (l + 1)), .int (I hd), .retAddr 0] [] h P := by
  have l4 := x.l4 hl
  have hj : hd.toNat - 1 < 3 := by omega
  have ch := chlm l4 hj
  refine t_X_shakeOnce x.S ⟨okg_i rfl rfl rfl rfl ?_, s_motion x hn2 hl hh fun h1 k1 mf _ => ?_⟩
  · simp only [ng, List.all_cons, List.all_nil, ngv, gwl l4, Bool.not_false, Bool.and_true]
    rfl
  have wm := k1.1.wm hl hj
  have bx1 := k1.1.1.bx hn2
  have hn := bx1.2.1
  have f5 := fct_le hn.2
  have ln := x.ln_ hn2
  rw [lies_pos hn2] at ln
  have e : d 0 1 = ((d 0 1).toNat : Nat) := by omega
  have hx : (d 0 1).toNat < fct n := by omega
  refine t_X_shakeOnce_6 k1.1.S ?_
  rw [ch.2.1, iv_ne (by omega), k1.1.2.1.1]
  refine ⟨wm.2.1, wm.2.2.1, by omega, wm.2.2.2.2.1, ?_⟩
  have s17 : ∀ r, r ≠ 64 * (l + 1) + 17 + 4 * (hd.toNat - 1) → (fun r => r == 64 * (l + 1) + 17 + 4 * (hd.toNat - 1)) r = false := fun r hr => by simpa using hr
  have fr : Fr (fun r => r == 64 * (l + 1) + 17 + 4 * (hd.toNat - 1)) h1 (setI h1 (64 * (l + 1) + 17 + 4 * (hd.toNat - 1)) 1 0) := Fr.set h1 _ _ (beq_self_eq_true _)
  have kA := k1.1.r17 hn2 hl hj (fr.mono fun r hr => (Bool.or_eq_false_iff.mp hr).1) (bx1.fr fr (s17 _ (by omega)) (s17 _ (by omega)) (s17 _ (by omega)))
  have z := s_row3 (P := fun v h2 => R 54 32 [.ref 0, .ref (64 * (l + 1)), .int (I hd), .ref (64 * (l + 1) + 17 + 4 * (hd.toNat - 1))] (v :: [.ref (64 * (l + 1) + 17 + 4 * (hd.toNat - 1)), .ref 1, .ref 0]) h2 P) kA.1 hn2 (lie := (d 0 1).toNat) hx fun h2 k2 f2 b2 r2 => by
    have wm2 := k2.1.wm hl hj
    have mf2 : MF l (hd.toNat - 1) h2 := by
      unfold MF
      rw [f2.i (by simp; omega), f2.i (by simp), iv_ne (by omega), iv_ne (by omega)]
      exact mf
    have ru := k2.1.ru hn2 hl hj mf2
    have ej : ((hd.toNat - 1 + 1 : Nat) : Int) = hd := by omega
    rw [ej] at ru
    refine t_X_shakeOnce_32 b2.1 ⟨wm2.2.2.2.2.1, ?_⟩
    rw [b2.2.2.1]
    refine s_shaken hn ru r2 fun h3 f3 g3 => ?_
    have b3 : BX n h3 := b2.fr f3 (s17 _ (by omega)) (s17 _ (by omega)) (s17 _ (by omega))
    have k3 := k2.1.r17 hn2 hl hj (f3.mono fun r hr => (Bool.or_eq_false_iff.mp hr).1) b3
    have i1 : I (iv h3 (64 * (l + 1) + 17 + 4 * (hd.toNat - 1)) 1) = I (shc (chg d l hd (-9)) n (rw_ n (d 0 1).toNat) : Nat) := by
      rw [g3, f2.i (by simp; omega), iv_eq, Int.zero_add]
    refine t_X_shakeOnce_42 b3.1 (s_lieOf b3 (shk_ok hn r2) (t_X_shakeOnce_45 b3.1 ?_))
    have hnx : cl n (shk (chg d l hd (-9)) n (rw_ n (d 0 1).toNat)) = fh d n l hd (-9) (d 0 1).toNat := rfl
    have fl_ := fh_lt (d := d) (l := l) (hd := hd) (lo := -9) hn _ hx
    have i5 : iv h3 0 5 = d 0 2 := k3.1.2.2.1.1
    rw [hnx, wr_eq (show rng (fh d n l hd (-9) (d 0 1).toNat : Nat) by omega), iv_nk (show (5 : Int) ≠ 4 by decide), i5]
    refine ⟨(k3.1.wm hl hj).2.2.2.2.1, ?_⟩
    rw [iv_ne (by omega), iv_ne (by omega), i1]
    have k4 := k3.1.lay (l := (fh d n l hd (-9) (d 0 1).toNat : Nat)) (by rw [lies_pos hn2]; omega)
    have k5 := k4.1.s0 (d' := shD d (fh d n l hd (-9) (d 0 1).toNat : Nat) (wr (d 0 2 + 1))) (k := 5) (v := wr (d 0 2 + 1)) (by decide) (fun f h1 _ => up_f (by omega)) (up_ne (by omega)) (up_ne (by omega)) (k4.1.2.shk (wr_rng _))
    exact k _ (((((k1.tr kA).tr k2).tr k3).tr k4).tr k5)
  rw [← e] at z
  exact z
theorem gwo {l : Nat} (hl4 : l < 4) {L : List Value} (h : ng (.ref (64 * (l + 1)) :: L) = ng L) : ng (.ref (64 * (l + 1)) :: L) = ng L := h
noncomputable def shakeV (n : Nat) (d : Nat → Nat → Int) (hd m : Int) : Int := if hd < 1 ∨ 3 < hd ∨ m < 0 ∨ 99 < m then -2 else if n = 0 ∨ d 0 3 = 0 then -3 else goC d n (d 0 4).toNat (fun _ => hd) (d 0 1).toNat m.toNat
noncomputable def shakeD (n : Nat) (d : Nat → Nat → Int) (hd m : Int) : Nat → Nat → Int := if hd < 1 ∨ 3 < hd ∨ m < 0 ∨ 99 < m then d else if n = 0 ∨ d 0 3 = 0 then d else shD d (goL d n (d 0 4).toNat (fun _ => hd) (d 0 1).toNat m.toNat : Nat) (wr (d 0 2 + m))
theorem shake_loop {h0 : Hp} (hn : 2 ≤ n ∧ n ≤ 7) (hl : (l : Int) < d 0 3) (hl4 : l < 4) {hd : Int} (hh : 1 ≤ hd ∧ hd ≤ 3) {m : Nat} (hm : m ≤ 99) (hx : (d 0 1).toNat < fct n) (kk : ∀ h', KX n (shD d (goL d n l (fun _ => hd) (d 0 1).toNat m : Nat) (wr (d 0 2 + (m : Nat)))) h0 h' → P (.int (I (goC d n l (fun _ => hd) (d 0 1).toNat m))) h') : ∀ (k s : Nat) (h : Hp), s + k = m → KX n (shD d (goL d n l (fun _ => hd) (d 0 1).toNat s : Nat) (wr (d 0 2 + (s : Nat)))) h0 h →
    R 53 45 [.ref 0, .int (I hd), .int (I (m : Nat)), .ref (64 * (l + 1)), .int (I (goC d n l (fun _ => hd) (d 0 1).toNat s)), .int (I (s : Nat))] [] h P := by
  intro k
  induction k with
  | zero =>
    intro s h hs K
    have e : s = m := by omega
    subst e
    exact t_X_shake_45 K.1.S ⟨by omega, by omega, fun c => absurd c (by omega), fun _ => kk h K⟩
  | succ k ih =>
    intro s h hs K
    have gl := goL_lt (d := d) (l := l) (H := fun _ => hd) hn hx s
    refine t_X_shake_45 K.1.S ⟨by omega, by omega, fun _ => ⟨okg_i rfl rfl rfl rfl ?_, ?_⟩, fun c => absurd (by omega) c⟩
    · simp only [ng, List.all_cons, List.all_nil, ngv, gwl hl4, Bool.not_false, Bool.and_true]
      rfl
    refine s_shakeOnce K.1 hn.1 (by rw [shD_i _ _ _ (by decide) (by decide)]; exact hl) hh fun h1 k1 => t_X_shake_59 k1.1.S ?_
    unfold fh at k1
    rw [shD_1, shD_2, shD_shD, wr_add, chg_sh, show (((goL d n l (fun _ => hd) (d 0 1).toNat s : Nat) : Int)).toNat = goL d n l (fun _ => hd) (d 0 1).toNat s from rfl] at k1
    rw [shD_1, chg_sh, show (((goL d n l (fun _ => hd) (d 0 1).toNat s : Nat) : Int)).toNat = goL d n l (fun _ => hd) (d 0 1).toNat s from rfl]
    refine ih (s + 1) h1 (by omega) ?_
    have e1 : d 0 2 + ((s + 1 : Nat) : Int) = d 0 2 + (s : Nat) + 1 := by omega
    rw [e1]
    exact K.tr k1
theorem s_shake (x : RX n d h) {hd m : Int} (hh : rng hd) (hm : rng m) (k : ∀ h', KX n (shakeD n d hd m) h h' → P (.int (I (shakeV n d hd m))) h') : R 53 0 [.ref 0, .int (I hd), .int (I m), .retAddr 0, .retAddr 0, .retAddr 0] [] h P := by
  unfold shakeV shakeD at k
  refine t_X_shake x.S (s_noHard hh (fun c2 => ?_) (fun c2 => ?_))
  · have c0 : hd < 1 ∨ 3 < hd ∨ m < 0 ∨ 99 < m := by omega
    rw [if_pos c0, if_pos c0] at k
    exact t_X_shake_4 x.S ⟨by decide, fun q => absurd q (by decide), fun _ => k h (KX.rf x)⟩
  refine t_X_shake_4 x.S ⟨by decide, fun _ => ⟨hm, fun c3 => ?_, fun c3 => ⟨hm, fun c4 => ?_, fun c4 => s_lawInForce x (fun c5 => ?_) (fun l2 c5 c6 => ?_)⟩⟩, fun q => absurd rfl q⟩
  · have c0 : hd < 1 ∨ 3 < hd ∨ m < 0 ∨ 99 < m := by omega
    rw [if_pos c0, if_pos c0] at k; exact k h (KX.rf x)
  · have c0 : hd < 1 ∨ 3 < hd ∨ m < 0 ∨ 99 < m := by omega
    rw [if_pos c0, if_pos c0] at k; exact k h (KX.rf x)
  · have c0 : ¬ (hd < 1 ∨ 3 < hd ∨ m < 0 ∨ 99 < m) := by omega
    have c1 : n = 0 ∨ d 0 3 = 0 := Or.inr c5
    rw [if_neg c0, if_neg c0, if_pos c1, if_pos c1] at k
    exact t_X_shake_24b x.S (s_noBox x (fun c => t_X_shake_29b x.S ⟨by decide, fun _ => k h (KX.rf x), fun _ => k h (KX.rf x)⟩) (fun c => t_X_shake_29b x.S ⟨by decide, fun _ => k h (KX.rf x), fun _ => k h (KX.rf x)⟩))
  have c0 : ¬ (hd < 1 ∨ 3 < hd ∨ m < 0 ∨ 99 < m) := by omega
  rw [if_neg c0, if_neg c0] at k
  refine t_X_shake_24 x.S (s_noBox x (fun c => ?_) (fun c => ?_))
  · have c1 : n = 0 ∨ d 0 3 = 0 := Or.inl c
    rw [if_pos c1, if_pos c1] at k
    exact t_X_shake_29 x.S ⟨by decide, fun q => absurd q (by decide), fun _ => k h (KX.rf x)⟩
  have c1 : ¬ (n = 0 ∨ d 0 3 = 0) := by omega
  rw [if_neg c1, if_neg c1] at k
  have el : (d 0 4).toNat = l2 := by omega
  rw [el] at k
  have hn := (x.1.bx c).2.1
  have ln := x.ln_ c
  rw [lies_pos c] at ln
  have em : m = (m.toNat : Nat) := by omega
  have e0 : wr (d 0 2 + ((0 : Nat) : Int)) = d 0 2 := by
    have := x.2.2.1.2
    rw [show d 0 2 + ((0 : Nat) : Int) = d 0 2 by omega]
    exact wr_eq this
  have z := shake_loop (P := P) (h0 := h) hn c6 (x.l4 c6) c2 (m := m.toNat) (by omega) (by omega) (by rw [← em]; exact k) m.toNat 0 h (by omega) (by
    rw [e0]
    show KX n (shD d ((d 0 1).toNat : Nat) (d 0 2)) h h
    rw [show (((d 0 1).toNat : Nat) : Int) = d 0 1 by omega, shD_id]
    exact KX.rf x)
  rw [← em] at z
  exact t_X_shake_29 x.S ⟨by decide, fun _ => z, fun q => absurd rfl q⟩
/-! doings -/
def hdQ (d : Nat → Nat → Int) (k i m : Int) : Prop := ∀ c : Nat, (c : Int) < m → 1 ≤ d 12 (60 * k.toNat + i.toNat + c) ∧ d 12 (60 * k.toNat + i.toNat + c) ≤ 3
theorem allHard_loop (x : RX n d h) {k : Nat} (hk : k < 4) {i m : Nat} (him : i + m ≤ 60) (k1 : hdQ d (k : Nat) (i : Nat) (m : Nat) → P (.int (I 1)) h) (k0 : ¬ hdQ d (k : Nat) (i : Nat) (m : Nat) → P (.int (I 0)) h) : ∀ (r c : Nat), c + r = m → (∀ c' : Nat, c' < c → 1 ≤ d 12 (60 * k + i + c') ∧ d 12 (60 * k + i + c') ≤ 3) →
    R 66 2 [.ref (12 + k), .int (I (i : Nat)), .int (I (m : Nat)), .int (I ((i + c : Nat) : Int))] [] h P := by
  obtain ⟨t1, t2, t3, t4, t5⟩ := x.S.sh hk
  intro r
  induction r with
  | zero =>
    intro c hc hv
    refine t_X_allHard_2 ⟨by omega, by omega, fun q => absurd q (by omega), fun _ => k1 fun c' hc' => hv c' (by omega)⟩
  | succ r ih =>
    intro c hc hv
    obtain ⟨v1, v2⟩ := x.cel hk (i := i + c) (by omega)
    refine t_X_allHard_2 ?_
    rw [v1, t5]
    refine ⟨by omega, by omega, fun _ => ⟨Or.inl t4, by omega, by omega, by omega, s_noHard v2 (fun q => ?_) (fun q => ?_)⟩, fun q => absurd (by omega) q⟩
    · refine t_X_allHard_15 ⟨by decide, fun q => absurd q (by decide), fun _ => k0 fun z => ?_⟩
      have := z c (by omega)
      rw [show ((k : Nat) : Int).toNat = k from rfl, show ((i : Nat) : Int).toNat = i from rfl, Nat.add_assoc] at this
      omega
    · refine t_X_allHard_15 ⟨by decide, fun _ => ?_, fun q => absurd rfl q⟩
      refine ih (c + 1) (by omega) fun c' hc' => ?_
      by_cases e : c' = c
      · rw [e, Nat.add_assoc]; exact q
      · exact hv c' (by omega)
theorem s_allHard (x : RX n d h) {k i m : Int} (hk : 0 ≤ k ∧ k < 4) (hi : 0 ≤ i) (hm : 0 ≤ m) (him : i + m ≤ 60) (k1 : hdQ d k i m → P (.int (I 1)) h) (k0 : ¬ hdQ d k i m → P (.int (I 0)) h) : R 66 0 [.ref (12 + k.toNat), .int (I i), .int (I m), .retAddr 0] [] h P := by
  have ek : k = (k.toNat : Nat) := by omega
  have ei : i = (i.toNat : Nat) := by omega
  have em : m = (m.toNat : Nat) := by omega
  refine t_X_allHard ?_
  have z := allHard_loop (P := P) x (k := k.toNat) (by omega) (i := i.toNat) (m := m.toNat) (by omega) (by rw [← ek, ← ei, ← em]; exact k1) (by rw [← ek, ← ei, ← em]; exact k0) m.toNat 0 (by omega) (fun c hc => absurd hc (Nat.not_lt_zero _))
  rw [Nat.add_zero, ← ei, ← em] at z
  exact z
def celH (d : Nat → Nat → Int) (k i : Int) : Nat → Int := fun s => d 12 (60 * k.toNat + i.toNat + s)
noncomputable def doW (n : Nat) (d : Nat → Nat → Int) (k i m : Int) : Int := @ite Int (hdQ d k i m) (Classical.propDecidable _) (if n = 0 ∨ d 0 3 = 0 then -3 else goC d n (d 0 4).toNat (celH d k i) (d 0 1).toNat m.toNat) (-2)
noncomputable def doE (n : Nat) (d : Nat → Nat → Int) (k i m : Int) : Nat → Nat → Int := @ite (Nat → Nat → Int) (hdQ d k i m) (Classical.propDecidable _) (if n = 0 ∨ d 0 3 = 0 then d else shD d (goL d n (d 0 4).toNat (celH d k i) (d 0 1).toNat m.toNat : Nat) (wr (d 0 2 + m))) d
noncomputable def doV (n : Nat) (d : Nat → Nat → Int) (k s i m : Int) : Int := if refV d k s i m ≠ 0 then refV d k s i m else doW n (up d 0 7 0) k i m
noncomputable def doD (n : Nat) (d : Nat → Nat → Int) (k s i m : Int) : Nat → Nat → Int := if refV d k s i m ≠ 0 then up d 0 7 (refF (refV d k s i m)) else doE n (up d 0 7 0) k i m
theorem doing_loop {h0 : Hp} (hn : 2 ≤ n ∧ n ≤ 7) (hl : (l : Int) < d 0 3) (hl4 : l < 4) {k i m : Nat} (hk : k < 4) (him : i + m ≤ 60) (hq : ∀ c : Nat, c < m → 1 ≤ celH d (k : Nat) (i : Nat) c ∧ celH d (k : Nat) (i : Nat) c ≤ 3) (hx : (d 0 1).toNat < fct n) {a1 a2 a5 : Int} (kk : ∀ h', KX n (shD d (goL d n l (celH d (k : Nat) (i : Nat)) (d 0 1).toNat m : Nat) (wr (d 0 2 + (m : Nat)))) h0 h' → P (.int (I (goC d n l (celH d (k : Nat) (i : Nat)) (d 0 1).toNat m))) h') : ∀ (r s : Nat) (h : Hp), s + r = m → KX n (shD d (goL d n l (celH d (k : Nat) (i : Nat)) (d 0 1).toNat s : Nat) (wr (d 0 2 + (s : Nat)))) h0 h →
    R 65 71 [.ref 0, .int (I a1), .int (I a2), .int (I (i : Nat)), .int (I (m : Nat)), .int (I a5), .ref (12 + k), .ref (64 * (l + 1)), .int (I (goC d n l (celH d (k : Nat) (i : Nat)) (d 0 1).toNat s)), .int (I (s : Nat))] [] h P := by
  intro r
  induction r with
  | zero =>
    intro s h hs K
    have e : s = m := by omega
    subst e
    exact t_X_doing_71 K.1.S ⟨by omega, by omega, fun c => absurd c (by omega), fun _ => kk h K⟩
  | succ r ih =>
    intro s h hs K
    obtain ⟨t1, t2, t3, t4, t5⟩ := K.1.S.sh hk
    have gl := goL_lt (d := d) (l := l) (H := celH d (k : Nat) (i : Nat)) hn hx s
    obtain ⟨v1, v2⟩ := K.1.cel hk (i := i + s) (by omega)
    rw [shD_f _ _ _ (by decide), ← Nat.add_assoc] at v1
    have v1 : iv h (12 + k) ((i : Int) + (s : Int)) = celH d (k : Nat) (i : Nat) s := v1
    have hqs := hq s (by omega)
    refine t_X_doing_71 K.1.S ?_
    rw [v1, t5]
    refine ⟨by omega, by omega, fun _ => ⟨Or.inl t4, by omega, by omega, by omega, okg_i rfl rfl rfl rfl ?_, ?_⟩, fun c => absurd (by omega) c⟩
    · have g12 : gw (12 + k) = false := by
        have e : k = 0 ∨ k = 1 ∨ k = 2 ∨ k = 3 := by omega
        rcases e with rfl | rfl | rfl | rfl <;> rfl
      simp only [ng, List.all_cons, List.all_nil, ngv, gwl hl4, g12, Bool.not_false, Bool.and_true]
      rfl
    refine s_shakeOnce K.1 hn.1 (by rw [shD_i _ _ _ (by decide) (by decide)]; exact hl) hqs fun h1 k1 => t_X_doing_93 k1.1.S ?_
    unfold fh at k1
    rw [shD_1, shD_2, shD_shD, wr_add, chg_sh, show (((goL d n l (celH d (k : Nat) (i : Nat)) (d 0 1).toNat s : Nat) : Int)).toNat = goL d n l (celH d (k : Nat) (i : Nat)) (d 0 1).toNat s from rfl] at k1
    rw [shD_1, chg_sh, show (((goL d n l (celH d (k : Nat) (i : Nat)) (d 0 1).toNat s : Nat) : Int)).toNat = goL d n l (celH d (k : Nat) (i : Nat)) (d 0 1).toNat s from rfl]
    refine ih (s + 1) h1 (by omega) ?_
    have e1 : d 0 2 + ((s + 1 : Nat) : Int) = d 0 2 + (s : Nat) + 1 := by omega
    rw [e1]
    exact K.tr k1
theorem gw12 {k : Nat} (hk : k < 4) : gw (12 + k) = false := by
  have e : k = 0 ∨ k = 1 ∨ k = 2 ∨ k = 3 := by omega
  rcases e with rfl | rfl | rfl | rfl <;> rfl
theorem s_doing (x : RX n d h) {k s i m : Int} (hk : rng k) (hs : rng s) (hi : rng i) (hm : rng m) (kk : ∀ h', KX n (doD n d k s i m) h h' → P (.int (I (doV n d k s i m))) h') : R 65 0 [.ref 0, .int (I k), .int (I s), .int (I i), .int (I m), .retAddr 0, .retAddr 0, .retAddr 0, .retAddr 0, .retAddr 0] [] h P := by
  refine t_X_doing x.S (s_refusal x hk hs hi hm fun h1 k1 => ?_)
  have bd := refV_bd d k s i m
  unfold doV doD at kk
  by_cases c : refV d k s i m = 0
  · obtain ⟨q1, q2, q3, q4, q5, q6, q7⟩ := refV_ok c
    rw [if_neg (fun z => z c), if_neg (fun z => z c)] at kk
    rw [c, show refF 0 = 0 from rfl] at k1
    have hk4 : k.toNat < 4 := by omega
    obtain ⟨t1, t2, t3, t4, t5⟩ := k1.1.S.sh hk4
    have dl := x.dl hk4
    rw [c]
    refine t_X_doing_9 k1.1.S ?_
    rw [ch7 hk4, ch8 hk4]
    refine ⟨by decide, fun _ => ⟨by omega, by omega, t2, by omega, t1, t3, by omega, ?_⟩, fun z => absurd rfl z⟩
    have kk := fun h' (kx : KX n (doE n (up d 0 7 0) k i m) h1 h') => kk h' (k1.tr kx)
    generalize up d 0 7 0 = d1 at *
    unfold doE doW at kk
    refine s_allHard k1.1 (k := k) (by omega) (by omega) (by omega) (by omega) (fun q => ?_) (fun q => ?_)
    · rw [if_pos q, if_pos q] at kk
      refine t_X_doing_38 k1.1.S ⟨by decide, fun z => absurd z (by decide), fun _ => s_lawInForce k1.1 (fun c5 => ?_) (fun l2 c5 c6 => ?_)⟩
      · have c1 : n = 0 ∨ d1 0 3 = 0 := Or.inr c5
        rw [if_pos c1, if_pos c1] at kk
        exact t_X_doing_48b k1.1.S (s_noBox k1.1 (fun c => t_X_doing_54b k1.1.S ⟨by decide, fun _ => kk h1 (KX.rf k1.1), fun _ => kk h1 (KX.rf k1.1)⟩) (fun c => t_X_doing_54b k1.1.S ⟨by decide, fun _ => kk h1 (KX.rf k1.1), fun _ => kk h1 (KX.rf k1.1)⟩))
      refine t_X_doing_48 k1.1.S (s_noBox k1.1 (fun c7 => ?_) (fun c7 => ?_))
      · have c1 : n = 0 ∨ d1 0 3 = 0 := Or.inl c7
        rw [if_pos c1, if_pos c1] at kk
        exact t_X_doing_54 k1.1.S ⟨by decide, fun z => absurd z (by decide), fun _ => kk h1 (KX.rf k1.1)⟩
      have c1 : ¬ (n = 0 ∨ d1 0 3 = 0) := by omega
      rw [if_neg c1, if_neg c1] at kk
      have el : (d1 0 4).toNat = l2 := by omega
      rw [el] at kk
      have hn := (k1.1.1.bx c7).2.1
      have ln := k1.1.ln_ c7
      rw [lies_pos c7] at ln
      have ek : k = (k.toNat : Nat) := by omega
      have ei : i = (i.toNat : Nat) := by omega
      have em : m = (m.toNat : Nat) := by omega
      have e0 : wr (d1 0 2 + ((0 : Nat) : Int)) = d1 0 2 := by
        have := k1.1.2.2.1.2
        rw [show d1 0 2 + ((0 : Nat) : Int) = d1 0 2 by omega]
        exact wr_eq this
      have z := doing_loop (P := P) (h0 := h1) hn c6 (k1.1.l4 c6) (k := k.toNat) (i := i.toNat) (m := m.toNat) (a1 := k) (a2 := s) (a5 := 0) hk4 (by omega) (fun c' hc' => q c' (by omega)) (by omega) (by rw [← em, ← ek, ← ei]; exact kk) m.toNat 0 h1 (by omega) (by
        rw [e0]
        show KX n (shD d1 ((d1 0 1).toNat : Nat) (d1 0 2)) h1 h1
        rw [show (((d1 0 1).toNat : Nat) : Int) = d1 0 1 by omega, shD_id]
        exact KX.rf k1.1)
      rw [← em, ← ei] at z
      exact t_X_doing_54 k1.1.S ⟨by decide, fun _ => z, fun z => absurd rfl z⟩
    · rw [if_neg q, if_neg q] at kk
      exact t_X_doing_38 k1.1.S ⟨by decide, fun _ => kk h1 (KX.rf k1.1), fun z => absurd rfl z⟩
  · rw [if_pos c, if_pos c] at kk
    exact t_X_doing_9 k1.1.S ⟨by omega, fun z => absurd z c, fun _ => kk h1 k1⟩
theorem refV_up (d : Nat → Nat → Int) (v : Int) (k s i m : Int) : refV (up d 0 7 v) k s i m = refV d k s i m := by
  unfold refV
  rw [up_o (by decide), up_o (by decide)]
noncomputable def whW (d : Nat → Nat → Int) (n : Nat) (a b k i m : Int) : Int := @ite Int (hdQ d k i m) (Classical.propDecidable _) (fts (fun l => ((goL d n l (celH d k i) a.toNat m.toNat : Nat) : Int) = b) (d 0 3).toNat : Nat) (-2)
noncomputable def whV (n : Nat) (d : Nat → Nat → Int) (a b k s i m : Int) : Int := if a < 0 ∨ (lies n : Int) ≤ a ∨ b < 0 ∨ (lies n : Int) ≤ b then -1 else if refV d k s i m ≠ 0 then refV d k s i m else whW (up d 0 7 0) n a b k i m
def whD (n : Nat) (d : Nat → Nat → Int) (a b k s i m : Int) : Nat → Nat → Int := if a < 0 ∨ (lies n : Int) ≤ a ∨ b < 0 ∨ (lies n : Int) ≤ b then up d 0 7 0 else up d 0 7 (refF (refV d k s i m))
end SHAKE
