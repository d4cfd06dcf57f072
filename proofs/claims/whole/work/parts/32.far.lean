/-! Where all lies are behind many shakes; how many come; which are bare; odds. -/
theorem itr_add (f : Nat → Nat) (a b x : Nat) : itr f (a + b) x = itr f a (itr f b x) := by
  induction a with
  | zero => rw [Nat.zero_add]; rfl
  | succ a ih =>
    rw [Nat.succ_add]
    show f _ = f _
    rw [ih]
noncomputable def cnQ (Q : Nat → Prop) : Nat → Int
  | 0 => 0
  | k + 1 => cnQ Q k + @ite Int (Q k) (Classical.propDecidable _) 1 0
theorem cnQ_bd (Q : Nat → Prop) : ∀ k, 0 ≤ cnQ Q k ∧ cnQ Q k ≤ (k : Nat)
  | 0 => ⟨Int.le_refl _, Int.le_refl _⟩
  | k + 1 => by
    have h := cnQ_bd Q k
    rw [cnQ]
    split <;> omega
theorem cnQ_y {Q : Nat → Prop} {k : Nat} (h : Q k) : cnQ Q (k + 1) = cnQ Q k + 1 := by
  rw [cnQ, if_pos h]
theorem cnQ_n {Q : Nat → Prop} {k : Nat} (h : ¬ Q k) : cnQ Q (k + 1) = cnQ Q k := by
  rw [cnQ, if_neg h, Int.add_zero]
section FAR
variable {n : Nat} {d : Nat → Nat → Int} {P : Value → Hp → Prop} {l j : Nat} {h : Hp}
theorem RX.ks (x : RX n d h) (hn : 2 ≤ n) {S : Nat → Bool} {h1 : Hp} (f : Fr S h h1) (s : ∀ r, S r = true → 17 ≤ r ∧ r ≤ 26) : KX n d h h1 := by
  have z : ∀ r, r < 17 ∨ 26 < r → S r = false := fun r hr => by
    cases hS : S r with
    | false => rfl
    | true => have := s r hS; omega
  exact x.k3 hn f (fun r hr => Or.inr (s r hr)) ((x.1.bx hn).fr f (z _ (by omega)) (z _ (by omega)) (z _ (by omega)))
theorem RX.kset (x : RX n d h) (hn : 2 ≤ n) {q : Nat} (hq : 17 ≤ q ∧ q ≤ 26) (k v : Int) : KX n d h (setI h q k v) := x.ks hn (Fr.set (S := fun r => r == q) h k v (beq_self_eq_true q)) fun r hr => by
  have : r = q := by simpa using hr
  omega
theorem RX.ksetr (x : RX n d h) (hn : 2 ≤ n) {q : Nat} (hq : 17 ≤ q ∧ q ≤ 26) (f : Int → Int) : KX n d h (setR h q f) := x.ks hn (Fr.setr (S := fun r => r == q) h f (beq_self_eq_true q)) fun r hr => by
  have : r = q := by simpa using hr
  omega
theorem MF.set {q : Nat} {k v : Int} (m : MF l j h) (hq : 1 < q ∧ q < 64) : MF l j (setI h q k v) := by
  unfold MF
  rw [iv_ne (by omega), iv_ne (by omega)]; exact m
theorem far1 (hn2 : 2 ≤ n) (hl : (l : Int) < d 0 3) (hj : j < 3) {K : Int} {a4 : Value} : ∀ (k i : Nat) (h : Hp), RX n d h → MF l j h → i + k = fct n → (∀ y, y < i → iv h 24 (y : Nat) = (y : Nat) ∧ iv h 25 (y : Nat) = (nxt d n l j y : Nat)) →
    (∀ h', KX n d h h' → (∀ y, y < fct n → iv h' 24 (y : Nat) = (y : Nat) ∧ iv h' 25 (y : Nat) = (nxt d n l j y : Nat)) → R 96 43 [.ref 0, .ref (64 * (l + 1) + 16 + 4 * j), .int (I K), .int (I K), a4] [] h' P) →
    R 96 2 [.ref 0, .ref (64 * (l + 1) + 16 + 4 * j), .int (I K), .int (I (i : Nat)), a4] [] h P := by
  intro k
  induction k with
  | zero =>
    intro i h X mf hi hv kk
    have bx := X.1.bx hn2
    have f5 := fct_le bx.2.1.2
    refine t_X_lookFar_2 bx.1 ?_
    rw [bx.2.2.2.1]
    exact ⟨by omega, by omega, fun c => absurd c (by omega), fun _ => kk h (KX.rf X) fun y hy => hv y (by omega)⟩
  | succ k ih =>
    intro i h X mf hi hv kk
    have bx := X.1.bx hn2
    have hn := bx.2.1
    have f5 := fct_le hn.2
    obtain ⟨m1, m2⟩ := X.m26 hn2 (q := 24) (by decide)
    obtain ⟨m3, m4⟩ := X.m26 hn2 (q := 25) (by decide)
    refine t_X_lookFar_2 bx.1 ?_
    rw [bx.2.2.2.1]
    refine ⟨by omega, by omega, fun _ => ⟨by omega, by omega, by omega, (X.wm hl hj).2.1, ?_⟩, fun c => absurd (by omega) c⟩
    rw [wr_eq (show rng (i : Nat) by omega)]
    have k1 := X.kset hn2 (q := 24) (by decide) (i : Nat) (i : Nat)
    refine s_go k1.1 hn2 hl hj (mf.set (by decide)) (lie := i) (by omega) fun h2 k2 mf2 f2 => ?_
    have nl := nxt_lt (d := d) (l := l) (j := j) hn (lie := i) (by omega)
    refine t_X_lookFar_34 k2.1.S ⟨by rw [f2.l]; show (ln h 25 : Int) ≤ _; omega, by omega, by rw [f2.l]; show _ < (ln h 25 : Int); omega, ?_⟩
    rw [wr_eq (show rng (nxt d n l j i : Nat) by omega)]
    have k3 := k2.1.kset hn2 (q := 25) (by decide) (i : Nat) (nxt d n l j i : Nat)
    refine ih (i + 1) _ k3.1 (mf2.set (by decide)) (by omega) (fun y hy => ?_) fun h' k4 g => kk h' (((k1.tr k2).tr k3).tr k4) g
    rw [iv_ne (by decide), f2.i (SA_no (by omega) (by omega) (by omega)), iv_setI, iv_setI, f2.i (SA_no (by omega) (by omega) (by omega)), iv_ne (by decide)]
    by_cases e : y = i
    · rw [if_pos ⟨rfl, by rw [e]⟩, if_pos ⟨rfl, by rw [e]⟩, e]
      exact ⟨rfl, rfl⟩
    · rw [if_neg (fun q => e (Int.ofNat.inj q.2)), if_neg (fun q => e (Int.ofNat.inj q.2))]
      exact hv y (by omega)
theorem far2 (hn2 : 2 ≤ n) {A B : Nat → Nat} (hA : ∀ y, y < fct n → A y < fct n) (hB : ∀ y, y < fct n → B y < fct n) {a1 a2 : Value} {a3 : Int} : ∀ (k i : Nat) (h : Hp), RX n d h → i + k = fct n → (∀ y, y < fct n → iv h 25 (y : Nat) = (B y : Nat)) → (∀ y, y < fct n → iv h 24 (y : Nat) = ((if y < i then B (A y) else A y : Nat) : Int)) →
    (∀ h', KX n d h h' → (∀ y, y < fct n → iv h' 25 (y : Nat) = (B y : Nat)) → (∀ y, y < fct n → iv h' 24 (y : Nat) = (B (A y) : Nat)) → R 96 97 [.ref 0, a1, a2, .int (I a3), .int (I 0)] [] h' P) →
    R 96 57 [.ref 0, a1, a2, .int (I a3), .int (I (i : Nat))] [] h P := by
  intro k
  induction k with
  | zero =>
    intro i h X hi hb ha kk
    have bx := X.1.bx hn2
    have f5 := fct_le bx.2.1.2
    refine t_X_lookFar_57 bx.1 ?_
    rw [bx.2.2.2.1]
    refine ⟨by omega, by omega, fun c => absurd c (by omega), fun _ => kk h (KX.rf X) hb fun y hy => ?_⟩
    have := ha y hy
    rw [if_pos (by omega)] at this
    exact this
  | succ k ih =>
    intro i h X hi hb ha kk
    have bx := X.1.bx hn2
    have hn := bx.2.1
    have f5 := fct_le hn.2
    obtain ⟨m1, m2⟩ := X.m26 hn2 (q := 24) (by decide)
    obtain ⟨m3, m4⟩ := X.m26 hn2 (q := 25) (by decide)
    have hai := ha i (by omega)
    rw [if_neg (Nat.lt_irrefl _)] at hai
    have q1 := hA i (by omega)
    have q2 := hB _ q1
    refine t_X_lookFar_57 bx.1 ?_
    rw [bx.2.2.2.1, hai, hb _ q1]
    refine ⟨by omega, by omega, fun _ => ⟨by omega, by omega, by omega, by omega, by omega, by omega, by omega, by omega, by omega, ?_⟩, fun c => absurd (by omega) c⟩
    rw [wr_eq (show rng (B (A i) : Nat) by omega)]
    have k1 := X.kset hn2 (q := 24) (by decide) (i : Nat) (B (A i) : Nat)
    refine ih (i + 1) _ k1.1 (by omega) (fun y hy => by rw [iv_ne (by decide)]; exact hb y hy) (fun y hy => ?_) fun h' k2 g1 g2 => kk h' (k1.tr k2) g1 g2
    rw [iv_setI]
    by_cases e : y = i
    · rw [if_pos ⟨rfl, by rw [e]⟩, e, if_pos (Nat.lt_succ_self i)]
    · rw [if_neg (fun q => e (Int.ofNat.inj q.2)), ha y hy]
      by_cases z : y < i
      · rw [if_pos z, if_pos (by omega)]
      · rw [if_neg z, if_neg (by omega)]
theorem far3 (hn2 : 2 ≤ n) {A B : Nat → Nat} (hB : ∀ y, y < fct n → B y < fct n) {a1 a2 : Value} {a3 : Int} : ∀ (k i : Nat) (h : Hp), RX n d h → i + k = fct n → (∀ y, y < fct n → iv h 25 (y : Nat) = (B y : Nat)) → (∀ y, y < fct n → iv h 24 (y : Nat) = (A y : Nat)) → (∀ y, y < i → iv h 26 (y : Nat) = (B (B y) : Nat)) →
    (∀ h' a4, KX n d h h' → (∀ y, y < fct n → iv h' 25 (y : Nat) = (B (B y) : Nat)) → (∀ y, y < fct n → iv h' 24 (y : Nat) = (A y : Nat)) → R 96 43 [.ref 0, a1, a2, .int (I (shr a3 1)), a4] [] h' P) →
    R 96 97 [.ref 0, a1, a2, .int (I a3), .int (I (i : Nat))] [] h P := by
  intro k
  induction k with
  | zero =>
    intro i h X hi hb ha hm kk
    have bx := X.1.bx hn2
    have f5 := fct_le bx.2.1.2
    obtain ⟨m1, m2⟩ := X.m26 hn2 (q := 26) (by decide)
    obtain ⟨m3, m4⟩ := X.m26 hn2 (q := 25) (by decide)
    refine t_X_lookFar_97 bx.1 ?_
    rw [bx.2.2.2.1]
    refine ⟨by omega, by omega, fun c => absurd c (by omega), fun _ => ⟨bx.1.t26, bx.1.t25, by omega, by omega, by omega, by omega, by omega, ?_⟩⟩
    refine kk _ _ (X.ksetr hn2 (q := 25) (by decide) _) (fun y hy => ?_) (fun y hy => ?_)
    · rw [iv_setR, if_pos rfl]
      unfold cpy
      rw [if_pos (by omega), show (0 : Int) + ((y : Int) - 0) = (y : Nat) by omega]
      exact hm y (by omega)
    · rw [iv_setR, if_neg (by decide)]
      exact ha y hy
  | succ k ih =>
    intro i h X hi hb ha hm kk
    have bx := X.1.bx hn2
    have hn := bx.2.1
    have f5 := fct_le hn.2
    obtain ⟨m1, m2⟩ := X.m26 hn2 (q := 26) (by decide)
    obtain ⟨m3, m4⟩ := X.m26 hn2 (q := 25) (by decide)
    have q1 := hB i (by omega)
    have q2 := hB _ q1
    refine t_X_lookFar_97 bx.1 ?_
    rw [bx.2.2.2.1, hb i (by omega), hb _ q1]
    refine ⟨by omega, by omega, fun _ => ⟨by omega, by omega, by omega, by omega, by omega, by omega, by omega, by omega, by omega, ?_⟩, fun c => absurd (by omega) c⟩
    rw [wr_eq (show rng (B (B i) : Nat) by omega)]
    have k1 := X.kset hn2 (q := 26) (by decide) (i : Nat) (B (B i) : Nat)
    refine ih (i + 1) _ k1.1 (by omega) (fun y hy => by rw [iv_ne (by decide)]; exact hb y hy) (fun y hy => by rw [iv_ne (by decide)]; exact ha y hy) (fun y hy => ?_) fun h' a4 k2 g1 g2 => kk h' a4 (k1.tr k2) g1 g2
    rw [iv_setI]
    by_cases e : y = i
    · rw [if_pos ⟨rfl, by rw [e]⟩, e]
    · rw [if_neg (fun q => e (Int.ofNat.inj q.2))]
      exact hm y (by omega)
theorem far4 (hn2 : 2 ≤ n) {f : Nat → Nat} (hf : ∀ y, y < fct n → f y < fct n) {K : Nat} {a1 a2 : Value} : ∀ (B r : Nat) (a b : Nat) (h : Hp) (a4 : Value), r ≤ B → r < 1000 → RX n d h → a + b * r = K → (∀ y, y < fct n → iv h 24 (y : Nat) = (itr f a y : Nat)) → (∀ y, y < fct n → iv h 25 (y : Nat) = (itr f b y : Nat)) →
    (∀ h', KX n d h h' → (∀ y, y < fct n → iv h' 24 (y : Nat) = (itr f K y : Nat)) → P .null h') → R 96 43 [.ref 0, a1, a2, .int (I (r : Nat)), a4] [] h P := by
  intro B
  induction B with
  | zero =>
    intro r a b h a4 hr h9 X hK ha hb kk
    have e : r = 0 := by omega
    subst e
    rw [Nat.mul_zero, Nat.add_zero] at hK
    subst hK
    exact t_X_lookFar_43 X.S ⟨by omega, fun c => absurd c (by omega), fun _ => kk h (KX.rf X) ha⟩
  | succ B ih =>
    intro r a b h a4 hr h9 X hK ha hb kk
    by_cases z : r = 0
    · subst z
      rw [Nat.mul_zero, Nat.add_zero] at hK
      subst hK
      exact t_X_lookFar_43 X.S ⟨by omega, fun c => absurd c (by omega), fun _ => kk h (KX.rf X) ha⟩
    have e1 : band (r : Nat) 1 = ((r % 2 : Nat) : Int) := by
      rw [show (1 : Int) = ((1 : Nat) : Int) from rfl, band_nat (by omega) (by decide), Nat.and_one_is_mod]
    have e2 : shr (r : Nat) 1 = ((r / 2 : Nat) : Int) := by
      rw [show (1 : Int) = ((1 : Nat) : Int) from rfl, shr_nat (by decide) (by omega), Nat.shiftRight_eq_div_pow]
    have bb : ∀ c, ∀ y, y < fct n → itr f c y < fct n := fun c y hy => itr_lt hf hy c
    refine t_X_lookFar_43 X.S ?_
    rw [e1]
    refine ⟨by omega, fun _ => ⟨by omega, fun c => ?_, fun c => ?_⟩, fun c => absurd (by omega) c⟩
    · refine far2 hn2 (A := itr f a) (B := itr f b) (bb a) (bb b) (fct n) 0 h X (by omega) hb (fun y hy => by rw [if_neg (Nat.not_lt_zero _)]; exact ha y hy) fun h1 k1 g1 g2 => ?_
      refine far3 hn2 (A := fun y => itr f b (itr f a y)) (B := itr f b) (bb b) (fct n) 0 h1 k1.1 (by omega) g1 g2 (fun y hy => absurd hy (Nat.not_lt_zero _)) fun h2 a4 k2 g3 g4 => ?_
      rw [e2]
      refine ih (r / 2) (b + a) (b + b) h2 a4 (by omega) (by omega) k2.1 ?_ (fun y hy => ?_) (fun y hy => ?_) fun h' k3 g => kk h' ((k1.tr k2).tr k3) g
      · have hr2 : r = 2 * (r / 2) + 1 := by omega
        rw [hr2, Nat.mul_add, Nat.mul_one, ← Nat.mul_assoc] at hK
        rw [Nat.add_mul, ← hK, Nat.mul_comm b 2, Nat.mul_assoc]
        omega
      · rw [g4 y hy, itr_add]
      · rw [g3 y hy, itr_add]
    · refine far3 hn2 (A := itr f a) (B := itr f b) (bb b) (fct n) 0 h X (by omega) hb ha (fun y hy => absurd hy (Nat.not_lt_zero _)) fun h2 a4 k2 g3 g4 => ?_
      rw [e2]
      refine ih (r / 2) a (b + b) h2 a4 (by omega) (by omega) k2.1 ?_ g4 (fun y hy => ?_) fun h' k3 g => kk h' (k2.tr k3) g
      · have hr2 : r = 2 * (r / 2) := by omega
        rw [hr2, ← Nat.mul_assoc] at hK
        rw [Nat.add_mul, ← hK, Nat.mul_comm b 2, Nat.mul_assoc]
        omega
      · rw [g3 y hy, itr_add]
theorem s_lookFar (hn2 : 2 ≤ n) (X : RX n d h) (hl : (l : Int) < d 0 3) (hj : j < 3) (mf : MF l j h) {K : Nat} (hK : K ≤ 99) (kk : ∀ h', KX n d h h' → (∀ y, y < fct n → iv h' 24 (y : Nat) = (itr (nxt d n l j) K y : Nat)) → P .null h') :
    R 96 0 [.ref 0, .ref (64 * (l + 1) + 16 + 4 * j), .int (I (K : Nat)), .retAddr 0, .retAddr 0] [] h P := by
  have hn := (X.1.bx hn2).2.1
  refine t_X_lookFar X.S (far1 hn2 hl hj (fct n) 0 h X mf (by omega) (fun y hy => absurd hy (Nat.not_lt_zero _)) fun h1 k1 g1 => ?_)
  exact far4 hn2 (f := nxt d n l j) (fun y hy => nxt_lt (d := d) (l := l) (j := j) hn hy) K K 0 1 h1 _ (Nat.le_refl _) (by omega) k1.1 (by omega) (fun y hy => (g1 y hy).1) (fun y hy => (g1 y hy).2) fun h2 k2 g2 => kk h2 (k1.tr k2) g2
noncomputable def comeA (n : Nat) (d : Nat → Nat → Int) (l k hd : Int) : Int := if l < 0 ∨ (lies n : Int) ≤ l then -1 else if k < 0 ∨ 99 < k ∨ hd < 1 ∨ 3 < hd then -2 else if d 0 3 = 0 then -3 else cnQ (fun i => ((itr (fh d n (d 0 4).toNat hd (-9)) k.toNat i : Nat) : Int) = l) (fct n)
theorem come_loop (hn2 : 2 ≤ n) {f : Nat → Nat} (hf : ∀ y, y < fct n → f y < fct n) {v : Int} {a2 a3 a4 : Value} (hv : rng v) (X : RX n d h) (g : ∀ y, y < fct n → iv h 24 (y : Nat) = (f y : Nat)) (kk : P (.int (I (cnQ (fun i => ((f i : Nat) : Int) = v) (fct n)))) h) : ∀ (k i : Nat), i + k = fct n →
    R 95 62 [.ref 0, .int (I v), a2, a3, a4, .int (I (cnQ (fun i => ((f i : Nat) : Int) = v) i)), .int (I (i : Nat))] [] h P := by
  have bx := X.1.bx hn2
  have f5 := fct_le bx.2.1.2
  obtain ⟨m1, m2⟩ := X.m26 hn2 (q := 24) (by decide)
  intro k
  induction k with
  | zero =>
    intro i hi
    have e : i = fct n := by omega
    subst e
    refine t_X_come_62 bx.1 ?_
    rw [bx.2.2.2.1]
    exact ⟨by omega, by omega, fun c => absurd c (by omega), fun _ => kk⟩
  | succ k ih =>
    intro i hi
    have q1 := hf i (by omega)
    have z := ih (i + 1) (by omega)
    refine t_X_come_62 bx.1 ?_
    rw [bx.2.2.2.1, g i (by omega)]
    refine ⟨by omega, by omega, fun _ => ⟨by omega, by omega, by omega, by omega, hv, fun c => ?_, fun c => ?_⟩, fun c => absurd (by omega) c⟩
    · rw [cnQ_y (Q := fun i => ((f i : Nat) : Int) = v) c] at z; exact z
    · rw [cnQ_n (Q := fun i => ((f i : Nat) : Int) = v) c] at z; exact z
theorem s_come (x : RX n d h) {l K hd : Int} (hl : rng l) (hK : rng K) (hh : rng hd) (k : ∀ h', KX n d h h' → P (.int (I (comeA n d l K hd))) h') : R 95 0 [.ref 0, .int (I l), .int (I K), .int (I hd), .retAddr 0, .retAddr 0, .retAddr 0] [] h P := by
  unfold comeA at k
  refine t_X_come x.S (s_noLie x hl (fun c => ?_) (fun c => ?_))
  · rw [if_pos c] at k
    exact t_X_come_5 x.S ⟨by decide, fun q => absurd q (by decide), fun _ => k h (KX.rf x)⟩
  rw [if_neg (by omega)] at k
  refine t_X_come_5 x.S ⟨by decide, fun _ => ⟨hK, fun c3 => ?_, fun c3 => ⟨hK, fun c4 => ?_, fun c4 => s_noHard hh (fun c2 => ?_) (fun c2 => ?_)⟩⟩, fun q => absurd rfl q⟩
  · rw [if_pos (by omega)] at k; exact k h (KX.rf x)
  · rw [if_pos (by omega)] at k; exact k h (KX.rf x)
  · rw [if_pos (by omega)] at k
    exact t_X_come_24 x.S ⟨by decide, fun q => absurd q (by decide), fun _ => k h (KX.rf x)⟩
  refine t_X_come_24 x.S ⟨by decide, fun _ => s_lawInForce x (fun c5 => ?_) (fun l2 c5 c6 => ?_), fun q => absurd rfl q⟩
  · rw [if_neg (by omega), if_pos c5] at k
    exact t_X_come_34b x.S (k h (KX.rf x))
  rw [if_neg (by omega), if_neg (by omega)] at k
  have hn := lie_n x.n7 c
  have l4 := x.l4 c6
  have el : (d 0 4).toNat = l2 := by omega
  rw [el] at k
  refine t_X_come_34 x.S ⟨okg_i rfl rfl rfl rfl ?_, s_motion x hn c6 c2 fun h1 k1 mf _ => ?_⟩
  · simp only [ng, List.all_cons, List.all_nil, ngv, gwl l4, Bool.not_false, Bool.and_true]
    rfl
  have eK : K = (K.toNat : Nat) := by omega
  have z := s_lookFar (P := fun _ h2 => R 95 56 [.ref 0, .int (I l), .int (I (K.toNat : Nat)), .int (I hd), .ref (64 * (l2 + 1)), .retAddr 0, .retAddr 0] [] h2 P) hn k1.1 c6 (j := hd.toNat - 1) (by omega) mf (K := K.toNat) (by omega) fun h2 k2 g2 => t_X_come_56 k2.1.S (come_loop hn (f := itr (nxt d n l2 (hd.toNat - 1)) K.toNat) (fun y hy => itr_lt (f := nxt d n l2 (hd.toNat - 1)) (fun y hy => nxt_lt (x.1.bx hn).2.1 hy) hy _) hl k2.1 g2 (by
    rw [nxt_fh c2]
    exact k h2 (k1.tr k2)) (fct n) 0 (by omega))
  rw [← eK] at z
  exact t_X_come_52 k1.1.S z
def newQ (f : Nat → Nat) (i : Nat) : Prop := ¬ ∃ j, j < i ∧ f j = f i
noncomputable def bareA (n : Nat) (d : Nat → Nat → Int) (hd : Int) : Int := if hd < 1 ∨ 3 < hd then -2 else if n = 0 ∨ d 0 3 = 0 then -3 else (fct n : Nat) - cnQ (newQ (fh d n (d 0 4).toNat hd (-9))) (fct n)
theorem bare_loop (hn2 : 2 ≤ n) (hl : (l : Int) < d 0 3) (hj : j < 3) {a1 a2 : Value} : ∀ (k i : Nat) (h : Hp) (a6 : Value), RX n d h → MF l j h → i + k = fct n → (∀ y, y < fct n → ((∃ t, t < i ∧ nxt d n l j t = y) ∧ iv h 26 (y : Nat) = 1) ∨ ((¬ ∃ t, t < i ∧ nxt d n l j t = y) ∧ iv h 26 (y : Nat) = 0)) →
    (∀ h', KX n d h h' → P (.int (I ((fct n : Nat) - cnQ (newQ (nxt d n l j)) (fct n)))) h') → R 97 64 [.ref 0, a1, a2, .ref (64 * (l + 1) + 16 + 4 * j), .int (I ((fct n : Nat) - cnQ (newQ (nxt d n l j)) i)), .int (I (i : Nat)), a6] [] h P := by
  intro k
  induction k with
  | zero =>
    intro i h a6 X mf hi hv kk
    have bx := X.1.bx hn2
    have f5 := fct_le bx.2.1.2
    have e : i = fct n := by omega
    subst e
    refine t_X_bare_64 bx.1 ?_
    rw [bx.2.2.2.1]
    exact ⟨by omega, by omega, fun c => absurd c (by omega), fun _ => kk h (KX.rf X)⟩
  | succ k ih =>
    intro i h a6 X mf hi hv kk
    have bx := X.1.bx hn2
    have hn := bx.2.1
    have f5 := fct_le hn.2
    obtain ⟨m1, m2⟩ := X.m26 hn2 (q := 26) (by decide)
    have nl := nxt_lt (d := d) (l := l) (j := j) hn (lie := i) (by omega)
    refine t_X_bare_64 bx.1 ?_
    rw [bx.2.2.2.1]
    refine ⟨by omega, by omega, fun _ => ⟨(X.wm hl hj).2.1, ?_⟩, fun c => absurd (by omega) c⟩
    refine s_go X hn2 hl hj mf (lie := i) (by omega) fun h2 k2 mf2 f2 => ?_
    have i26 : ∀ z, iv h2 26 z = iv h 26 z := fun z => f2.i (SA_no (by omega) (by omega) (by omega)) z
    refine t_X_bare_86 k2.1.S ?_
    rw [i26, f2.l]
    refine ⟨by omega, by omega, by omega, ?_, fun e => ⟨by omega, by omega, by omega, ?_⟩, fun e => ?_⟩
    · rcases hv _ nl with ⟨-, q⟩ | ⟨-, q⟩ <;> rw [q] <;> decide
    · have hq : newQ (nxt d n l j) i := by
        rcases hv _ nl with ⟨-, q⟩ | ⟨q, -⟩
        · omega
        · exact q
      have k3 := k2.1.kset hn2 (q := 26) (by decide) (nxt d n l j i : Nat) 1
      have z := ih (i + 1) _ (.int (I (nxt d n l j i : Nat))) k3.1 (mf2.set (by decide)) (by omega) (fun y hy => ?_) fun h' k4 => kk h' ((k2.tr k3).tr k4)
      · rw [cnQ_y hq, show ((fct n : Nat) : Int) - (cnQ (newQ (nxt d n l j)) i + 1) = (fct n : Nat) - cnQ (newQ (nxt d n l j)) i + (-1) by omega] at z
        exact z
      · rw [iv_setI]
        by_cases e3 : y = nxt d n l j i
        · rw [if_pos ⟨rfl, by rw [e3]⟩]
          exact Or.inl ⟨⟨i, by omega, e3.symm⟩, rfl⟩
        · rw [if_neg (fun q => e3 (Int.ofNat.inj q.2)), i26]
          rcases hv y hy with ⟨⟨t, t1, t2⟩, q⟩ | ⟨q, q2⟩
          · exact Or.inl ⟨⟨t, by omega, t2⟩, q⟩
          · refine Or.inr ⟨?_, q2⟩
            rintro ⟨t, t1, t2⟩
            by_cases e4 : t = i
            · rw [e4] at t2; exact e3 t2.symm
            · exact q ⟨t, by omega, t2⟩
    · have hq : ¬ newQ (nxt d n l j) i := by
        rcases hv _ nl with ⟨q, -⟩ | ⟨-, q⟩
        · exact fun z => z q
        · exact absurd q e
      have z := ih (i + 1) h2 (.int (I (nxt d n l j i : Nat))) k2.1 mf2 (by omega) (fun y hy => ?_) fun h' k4 => kk h' (k2.tr k4)
      · rw [cnQ_n hq] at z
        exact z
      · rw [i26]
        rcases hv y hy with ⟨⟨t, t1, t2⟩, q⟩ | ⟨q, q2⟩
        · exact Or.inl ⟨⟨t, by omega, t2⟩, q⟩
        · by_cases e3 : y = nxt d n l j i
          · exfalso
            rw [e3] at q
            exact hq q
          · refine Or.inr ⟨?_, q2⟩
            rintro ⟨t, t1, t2⟩
            by_cases e4 : t = i
            · rw [e4] at t2; exact e3 t2.symm
            · exact q ⟨t, by omega, t2⟩
theorem s_bare (x : RX n d h) {hd : Int} (hh : rng hd) (k : ∀ h', KX n d h h' → P (.int (I (bareA n d hd))) h') : R 97 0 [.ref 0, .int (I hd), .retAddr 0, .retAddr 0, .retAddr 0, .retAddr 0, .retAddr 0] [] h P := by
  unfold bareA at k
  refine t_X_bare x.S (s_noHard hh (fun c2 => ?_) (fun c2 => ?_))
  · rw [if_pos (by omega)] at k
    exact t_X_bare_4 x.S ⟨by decide, fun q => absurd q (by decide), fun _ => k h (KX.rf x)⟩
  refine t_X_bare_4 x.S ⟨by decide, fun _ => s_lawInForce x (fun c5 => ?_) (fun l2 c5 c6 => ?_), fun q => absurd rfl q⟩
  · rw [if_neg (by omega), if_pos (by omega)] at k
    exact t_X_bare_14b x.S (s_noBox x (fun c => t_X_bare_19b x.S ⟨by decide, fun _ => k h (KX.rf x), fun _ => k h (KX.rf x)⟩) (fun c => t_X_bare_19b x.S ⟨by decide, fun _ => k h (KX.rf x), fun _ => k h (KX.rf x)⟩))
  refine t_X_bare_14 x.S (s_noBox x (fun c => ?_) (fun c => ?_))
  · rw [if_neg (by omega), if_pos (by omega)] at k
    exact t_X_bare_19 x.S ⟨by decide, fun q => absurd q (by decide), fun _ => k h (KX.rf x)⟩
  rw [if_neg (by omega), if_neg (by omega)] at k
  have l4 := x.l4 c6
  have el : (d 0 4).toNat = l2 := by omega
  rw [el] at k
  refine t_X_bare_19 x.S ⟨by decide, fun _ => ⟨okg_i rfl rfl rfl rfl ?_, s_motion x c c6 c2 fun h1 k1 mf _ => t_X_bare_35 k1.1.S ?_⟩, fun q => absurd rfl q⟩
  · simp only [ng, List.all_cons, List.all_nil, ngv, gwl l4, Bool.not_false, Bool.and_true]
    rfl
  have bx := k1.1.1.bx c
  rw [bx.2.2.2.1]
  obtain ⟨m1, m2⟩ := k1.1.m26 c (q := 26) (by decide)
  have s26 : ∀ r, r ≠ 26 → (fun r : Nat => r == 26) r = false := fun r hr => by simpa using hr
  refine s_fill4 (a := 26) (by decide) bx.1.t26 m1 m2 fun h2 f2 g2 g3 => ?_
  have k2 := k1.1.ks c f2 (fun r hr => by
        have : r = 26 := by simpa using hr
        omega)
  have mf2 : MF l2 (hd.toNat - 1) h2 := by
    unfold MF
    rw [f2.i (s26 _ (by omega)), f2.i (s26 _ (by omega))]; exact mf
  refine t_X_bare_52 k2.1.S ?_
  have bx2 := k2.1.1.bx c
  rw [bx2.2.2.2.1]
  have z := fun a6 => bare_loop (P := P) (a1 := .int (I hd)) (a2 := .ref (64 * (l2 + 1))) c c6 (j := hd.toNat - 1) (by omega) (fct n) 0 h2 a6 k2.1 mf2 (by omega) (fun y hy => Or.inr ⟨fun ⟨t, t1, _⟩ => absurd t1 (Nat.not_lt_zero _), g2 y (by omega)⟩) fun h' k3 => by
    rw [nxt_fh c2]
    exact k h' ((k1.tr k2).tr k3)
  have e0 : ((fct n : Nat) : Int) - cnQ (newQ (nxt d n l2 (hd.toNat - 1))) 0 = (fct n : Nat) := by rw [cnQ]; omega
  rw [e0] at z
  exact z _
end FAR
def gfu : Nat → Nat → Nat → Nat
  | 0, a, _ => a
  | k + 1, a, b => bif Nat.beq b 0 then a else gfu k b (a % b)
theorem gf2 : allN 3 (fun c => Nat.beq (gfu 64 2 c) (Nat.gcd 2 c)) = true := by decide +kernel
theorem gf6 : allN 7 (fun c => Nat.beq (gfu 64 6 c) (Nat.gcd 6 c)) = true := by decide +kernel
theorem gf24 : allN 25 (fun c => Nat.beq (gfu 64 24 c) (Nat.gcd 24 c)) = true := by decide +kernel
theorem gf120 : allN 121 (fun c => Nat.beq (gfu 64 120 c) (Nat.gcd 120 c)) = true := by decide +kernel
theorem gf720 : allN 721 (fun c => Nat.beq (gfu 64 720 c) (Nat.gcd 720 c)) = true := by decide +kernel
theorem gf5040 : allN 5041 (fun c => Nat.beq (gfu 64 5040 c) (Nat.gcd 5040 c)) = true := by decide +kernel
theorem gf_all {n c : Nat} (hn : 2 ≤ n ∧ n ≤ 7) (hc : c ≤ fct n) : gfu 64 (fct n) c = Nat.gcd (fct n) c := by
  have k1 : n = 2 ∨ n = 3 ∨ n = 4 ∨ n = 5 ∨ n = 6 ∨ n = 7 := by omega
  rcases k1 with rfl | rfl | rfl | rfl | rfl | rfl
  · exact Nat.eq_of_beq_eq_true (allN_at gf2 c (Nat.lt_succ_of_le hc))
  · exact Nat.eq_of_beq_eq_true (allN_at gf6 c (Nat.lt_succ_of_le hc))
  · exact Nat.eq_of_beq_eq_true (allN_at gf24 c (Nat.lt_succ_of_le hc))
  · exact Nat.eq_of_beq_eq_true (allN_at gf120 c (Nat.lt_succ_of_le hc))
  · exact Nat.eq_of_beq_eq_true (allN_at gf720 c (Nat.lt_succ_of_le hc))
  · exact Nat.eq_of_beq_eq_true (allN_at gf5040 c (Nat.lt_succ_of_le hc))
noncomputable def topN (n : Nat) (d : Nat → Nat → Int) (g k hd : Int) : Nat := (cnQ (fun i => topQ n g (itr (fh d n (d 0 4).toNat hd (-9)) k.toNat i)) (fct n)).toNat
noncomputable def oddsA (n : Nat) (d : Nat → Nat → Int) (g k hd w : Int) : Int := if g < 0 ∨ (n : Int) ≤ g ∨ k < 0 ∨ 99 < k ∨ hd < 1 ∨ 3 < hd ∨ w < 0 ∨ 1 < w ∨ d 0 3 = 0 then -9223372036854775808 else if w = 0 then ((topN n d g k hd / Nat.gcd (fct n) (topN n d g k hd) : Nat) : Int) else ((fct n / Nat.gcd (fct n) (topN n d g k hd) : Nat) : Int)
section ODDS
variable {n : Nat} {d : Nat → Nat → Int} {P : Value → Hp → Prop}
theorem gcd_loop {h : Hp} {a0 a1 : Value} : ∀ (k r a b : Nat) (a5 : Value), r + k = 64 → a < 10000 → b < 10000 → P (.int (I (gfu k a b : Nat))) h → R 99 7 [a0, a1, .int (I (a : Nat)), .int (I (b : Nat)), .int (I (r : Nat)), a5] [] h P := by
  intro k
  induction k with
  | zero =>
    intro r a b a5 hr ha hb kk
    exact t_X_commonDivisor_7 ⟨by omega, fun c => absurd c (by omega), fun _ => kk⟩
  | succ k ih =>
    intro r a b a5 hr ha hb kk
    refine t_X_commonDivisor_7 ⟨by omega, fun _ => ⟨by omega, fun c => ⟨by omega, by omega, ?_⟩, fun c => ?_⟩, fun c => absurd (by omega) c⟩
    · have hbn : Nat.beq b 0 = false := by
        cases hq : Nat.beq b 0 with
        | false => rfl
        | true => have := Nat.eq_of_beq_eq_true hq; omega
      rw [gfu, hbn] at kk
      have := Nat.mod_lt a (show 0 < b by omega)
      exact ih (r + 1) b (a % b) _ (by omega) hb (by omega) kk
    · have e : b = 0 := by omega
      subst e
      exact kk
theorem odds_loop {h0 : Hp} (hn2 : 2 ≤ n) {f : Nat → Nat} (hf : ∀ y, y < fct n → f y < fct n) {g w : Int} {a2 a3 a5 : Value} (hg : rng g) (hw : rng w) (kk : ∀ h', KX n d h0 h' → P (.long (J (if w = 0 then (((cnQ (fun i => topQ n g (f i)) (fct n)).toNat / Nat.gcd (fct n) (cnQ (fun i => topQ n g (f i)) (fct n)).toNat : Nat) : Int) else ((fct n / Nat.gcd (fct n) (cnQ (fun i => topQ n g (f i)) (fct n)).toNat : Nat) : Int)))) h') : ∀ (k i : Nat) (h : Hp), KX n d h0 h → (∀ y, y < fct n → iv h 24 (y : Nat) = (f y : Nat)) → i + k = fct n →
    R 98 69 [.ref 0, .int (I g), a2, a3, .int (I w), a5, .int (I (cnQ (fun i => topQ n g (f i)) i)), .int (I (i : Nat))] [] h P := by
  intro k
  induction k with
  | zero =>
    intro i h K hv hi
    have X := K.1
    have bx := X.1.bx hn2
    have hn := bx.2.1
    have f5 := fct_le hn.2
    have f1 := fct_pos n
    have e : i = fct n := by omega
    subst e
    have cb := cnQ_bd (fun i => topQ n g (f i)) (fct n)
    have kk := kk h K
    generalize hc : cnQ (fun i => topQ n g (f i)) (fct n) = c at *
    have ec : c = (c.toNat : Nat) := by omega
    refine t_X_odds_69 bx.1 ?_
    rw [bx.2.2.2.1]
    refine ⟨by omega, by omega, fun q => absurd q (by omega), fun _ => ?_⟩
    have hgf := gf_all hn (c := c.toNat) (by omega)
    have gp : 0 < Nat.gcd (fct n) c.toNat := Nat.gcd_pos_of_pos_left _ f1
    have gl : Nat.gcd (fct n) c.toNat ≤ fct n := Nat.gcd_le_left _ f1
    have q1 := Nat.div_le_self c.toNat (Nat.gcd (fct n) c.toNat)
    have q2 := Nat.div_le_self (fct n) (Nat.gcd (fct n) c.toNat)
    rw [ec]
    refine t_X_commonDivisor (gcd_loop 64 0 (fct n) c.toNat _ (by omega) (by omega) (by omega) ?_)
    rw [hgf]
    refine t_X_odds_132 bx.1 ?_
    rw [bx.2.2.2.1]
    refine ⟨by omega, fun q => absurd q (by omega), fun _ => ⟨hw, fun q => ⟨by omega, by omega, ?_, ?_⟩, fun q => ⟨by omega, by omega, ?_, ?_⟩⟩⟩
    · exact (⟨Int.le_trans (by decide) (Int.natCast_nonneg _), Int.lt_of_le_of_lt (Int.ofNat_le.mpr q1) (by omega)⟩ : rng ((c.toNat / Nat.gcd (fct n) c.toNat : Nat) : Int))
    · rw [if_pos q] at kk; exact kk
    · exact (⟨Int.le_trans (by decide) (Int.natCast_nonneg _), Int.lt_of_le_of_lt (Int.ofNat_le.mpr q2) (by omega)⟩ : rng ((fct n / Nat.gcd (fct n) c.toNat : Nat) : Int))
    · rw [if_neg q] at kk; exact kk
  | succ k ih =>
    intro i h K hv hi
    have X := K.1
    have bx := X.1.bx hn2
    have hn := bx.2.1
    have f5 := fct_le hn.2
    obtain ⟨m1, m2⟩ := X.m26 hn2 (q := 24) (by decide)
    have q1 := hf i (by omega)
    refine t_X_odds_69 bx.1 ?_
    rw [bx.2.2.2.1, hv i (by omega)]
    refine ⟨by omega, by omega, fun _ => ⟨by omega, by omega, by omega, ?_⟩, fun q => absurd (by omega) q⟩
    refine s_row3 X hn2 q1 fun h2 k2 f2 b2 r2 => t_X_odds_95 b2.1 ?_
    have en : (n : Int) - 1 = ((n - 1 : Nat) : Int) := by omega
    rw [b2.2.2.1, en]
    have d8 := dg_lt (rw_ n (f i)) (n - 1)
    have z := ih (i + 1) h2 (K.tr k2) (fun y hy => by rw [f2.i (by decide)]; exact hv y hy) (by omega)
    refine s_grainIn (r2.lt hn) (by omega) (t_X_odds_107 b2.1 ⟨by omega, hg, fun c => ?_, fun c => ?_⟩)
    · rw [cnQ_y (Q := fun i => topQ n g (f i)) c] at z; exact z
    · rw [cnQ_n (Q := fun i => topQ n g (f i)) c] at z; exact z
theorem s_odds {h : Hp} (x : RX n d h) {g K hd w : Int} (hg : rng g) (hK : rng K) (hh : rng hd) (hw : rng w) (k : ∀ h', KX n d h h' → P (.long (J (oddsA n d g K hd w))) h') : R 98 0 [.ref 0, .int (I g), .int (I K), .int (I hd), .int (I w), .retAddr 0, .retAddr 0, .retAddr 0] [] h P := by
  unfold oddsA at k
  refine t_X_odds x.S (s_lawInForce x (fun c5 => ?_) (fun l2 c5 c6 => ?_))
  · rw [if_pos (by omega)] at k
    have k := k h (KX.rf x)
    refine t_X_odds_4b x.S (s_noGrain x hg (fun c => ?_) (fun c => ?_))
    · exact t_X_odds_11b x.S ⟨by decide, fun q => absurd q (by decide), fun _ => k⟩
    · refine t_X_odds_11b x.S ⟨by decide, fun _ => ⟨hK, fun _ => k, fun _ => ⟨hK, fun _ => k, fun _ => s_noHard hh (fun c2 => ?_) (fun c2 => ?_)⟩⟩, fun _ => k⟩
      · exact t_X_odds_28b x.S ⟨by decide, fun q => absurd q (by decide), fun _ => k⟩
      · exact t_X_odds_28b x.S ⟨by decide, fun _ => ⟨hw, fun _ => k, fun _ => ⟨hw, fun _ => k, fun _ => k⟩⟩, fun _ => k⟩
  refine t_X_odds_4 x.S (s_noGrain x hg (fun c => ?_) (fun c => ?_))
  · rw [if_pos (by omega)] at k
    exact t_X_odds_11 x.S ⟨by decide, fun q => absurd q (by decide), fun _ => k h (KX.rf x)⟩
  refine t_X_odds_11 x.S ⟨by decide, fun _ => ⟨hK, fun c3 => ?_, fun c3 => ⟨hK, fun c4 => ?_, fun c4 => s_noHard hh (fun c2 => ?_) (fun c2 => ?_)⟩⟩, fun q => absurd rfl q⟩
  · rw [if_pos (by omega)] at k; exact k h (KX.rf x)
  · rw [if_pos (by omega)] at k; exact k h (KX.rf x)
  · rw [if_pos (by omega)] at k
    exact t_X_odds_28 x.S ⟨by decide, fun q => absurd q (by decide), fun _ => k h (KX.rf x)⟩
  have hn : 2 ≤ n := by have := x.n7; omega
  have l4 := x.l4 c6
  refine t_X_odds_28 x.S ⟨by decide, fun _ => ⟨hw, fun c7 => ?_, fun c7 => ⟨hw, fun c8 => ?_, fun c8 => ⟨okg_i rfl rfl rfl rfl ?_, s_motion x hn c6 c2 fun h1 k1 mf _ => ?_⟩⟩⟩, fun q => absurd rfl q⟩
  · rw [if_pos (by omega)] at k; exact k h (KX.rf x)
  · rw [if_pos (by omega)] at k; exact k h (KX.rf x)
  · simp only [ng, List.all_cons, List.all_nil, ngv, gwl l4, Bool.not_false, Bool.and_true]
    rfl
  rw [if_neg (by omega)] at k
  unfold topN at k
  have el : (d 0 4).toNat = l2 := by omega
  rw [el] at k
  have eK : K = (K.toNat : Nat) := by omega
  have z := s_lookFar (P := fun _ h2 => R 98 63 [.ref 0, .int (I g), .int (I (K.toNat : Nat)), .int (I hd), .int (I w), .ref (64 * (l2 + 1)), .retAddr 0, .retAddr 0] [] h2 P) hn k1.1 c6 (j := hd.toNat - 1) (by omega) mf (K := K.toNat) (by omega) fun h2 k2 g2 => t_X_odds_63 k2.1.S (odds_loop hn (f := itr (nxt d n l2 (hd.toNat - 1)) K.toNat) (fun y hy => itr_lt (f := nxt d n l2 (hd.toNat - 1)) (fun y hy => nxt_lt (x.1.bx hn).2.1 hy) hy _) hg hw (by
    rw [nxt_fh c2]
    exact fun h' k3 => k h' k3) (fct n) 0 h2 (k1.tr k2) g2 (by omega))
  rw [← eK] at z
  exact t_X_odds_59 k1.1.S z
end ODDS
