/-! The reference: where all lies are behind many shakes. -/
section YFAR
variable {n : Nat} {d : Nat → Nat → Int} {P : Value → Hp → Prop} {h : Hp}
theorem goes1 (hn2 : 2 ≤ n) {l : Nat} (el : (l : Int) = d 0 4) (hl : (l : Int) < d 0 3) {hd : Int} (hh : rng hd) {a2 a4 : Value} : ∀ (k i : Nat) (h : Hp), RY n d h → i + k = fct n → (∀ y : Nat, y < i → iv h 433 y = (fh d n l hd (-9) y : Nat) ∧ iv h 434 y = (y : Nat)) →
    (∀ h', KS h h' → (∀ y : Nat, y < fct n → iv h' 433 y = (fh d n l hd (-9) y : Nat) ∧ iv h' 434 y = (y : Nat)) → ∀ (K : Int), a2 = .int (I K) → R 185 41 [.ref 400, .int (I hd), a2, .int (I 0), a4] [] h' P) → ∀ (K : Int), a2 = .int (I K) → R 185 2 [.ref 400, .int (I hd), a2, .int (I (i : Nat)), a4] [] h P := by
  intro k
  induction k with
  | zero =>
    intro i h x hi hv kk K eK
    subst eK
    have hn := x.n7
    have f5 := fct_le (k := n) (by omega)
    refine t_Y_layGoes_2 x.S ?_
    rw [x.ls, lies_pos hn2]
    exact ⟨by omega, by omega, fun c => absurd c (by omega), fun _ => kk h (KS.rf h) (fun y hy => hv y (by omega)) K rfl⟩
  | succ k ih =>
    intro i h x hi hv kk K eK
    have hn := x.n7
    have hn7 : 2 ≤ n ∧ n ≤ 7 := by omega
    have f5 := fct_le (k := n) (by omega)
    have ih := ih
    subst eK
    refine t_Y_layGoes_2 x.S ?_
    rw [x.ls, lies_pos hn2, x.l4.1, ← el]
    refine ⟨by omega, by omega, fun _ => ?_, fun c => absurd (by omega) c⟩
    have fi := fh_lt (d := d) (l := l) (hd := hd) (lo := -9) hn7 i (by omega)
    refine y_nextOf x (by decide) hn2 hl hh (lie := i) (by omega) fun h1 f1 => ?_
    have x1 := x.ks f1.ks
    refine t_Y_layGoes_25 x1.S ?_
    rw [wr_eq (show rng (fh d n l hd (-9) i : Nat) by omega), wr_eq (show rng (i : Nat) by omega)]
    have k2 : KS h1 (setI (setI h1 433 (i : Nat) (fh d n l hd (-9) i : Nat)) 434 (i : Nat) (i : Nat)) := (KS.set (by decide) _ _).tr (KS.set (by decide) _ _)
    refine ⟨by omega, by omega, by omega, by omega, ih (i + 1) _ (x1.ks k2) (by omega) (fun y hy => ?_) (fun h' k3 g => kk h' ((f1.ks.tr k2).tr k3) g) K rfl⟩
    rw [iv_ne (by decide), iv_setI, iv_setI]
    by_cases e : y = i
    · rw [if_pos ⟨rfl, by rw [e]⟩, if_pos ⟨rfl, by rw [e]⟩, e]
      exact ⟨rfl, rfl⟩
    · have ne : ¬ (433 = 433 ∧ (y : Int) = (i : Nat)) := fun z => e (Int.ofNat.inj z.2)
      have ne2 : ¬ (434 = 434 ∧ (y : Int) = (i : Nat)) := fun z => e (Int.ofNat.inj z.2)
      rw [if_neg ne, if_neg ne2, iv_ne (by decide), f1.i (by decide) (by decide), f1.i (by decide) (by decide)]
      exact hv y (by omega)
theorem goes2 (hn2 : 2 ≤ n) {f : Nat → Nat} (hf : ∀ y, y < fct n → f y < fct n) {K t : Int} {a1 : Value} {s : Nat} : ∀ (k i : Nat) (h : Hp), RY n d h → i + k = fct n → (∀ y : Nat, y < fct n → iv h 433 y = (f y : Nat)) → (∀ y : Nat, y < fct n → iv h 434 y = (itr f (if y < i then s + 1 else s) y : Nat)) →
    (∀ h' a4, KS h h' → (∀ y : Nat, y < fct n → iv h' 433 y = (f y : Nat)) → (∀ y : Nat, y < fct n → iv h' 434 y = (itr f (s + 1) y : Nat)) → R 185 41 [.ref 400, a1, .int (I K), .int (I (t + 1)), a4] [] h' P) → R 185 49 [.ref 400, a1, .int (I K), .int (I t), .int (I (i : Nat))] [] h P := by
  intro k
  induction k with
  | zero =>
    intro i h x hi hg hv kk
    have hn := x.n7
    have f5 := fct_le (k := n) (by omega)
    refine t_Y_layGoes_49 x.S ?_
    rw [x.ls, lies_pos hn2]
    refine ⟨by omega, by omega, fun c => absurd c (by omega), fun _ => kk h _ (KS.rf h) hg fun y hy => ?_⟩
    have := hv y hy
    rw [if_pos (by omega)] at this
    exact this
  | succ k ih =>
    intro i h x hi hg hv kk
    have hn := x.n7
    have f5 := fct_le (k := n) (by omega)
    have q1 := hv i (by omega)
    rw [if_neg (Nat.lt_irrefl _)] at q1
    have b1 := itr_lt hf (x := i) (by omega) s
    have q2 := hg _ b1
    have b2 := hf _ b1
    refine t_Y_layGoes_49 x.S ?_
    rw [x.ls, lies_pos hn2, q1, q2, wr_eq (show rng (f (itr f s i) : Nat) by omega)]
    have k1 : KS h (setI h 434 (i : Nat) (f (itr f s i) : Nat)) := KS.set (by decide) _ _
    refine ⟨by omega, by omega, fun _ => ⟨by omega, by omega, by omega, by omega, by omega, by omega, ?_⟩, fun c => absurd (by omega) c⟩
    refine ih (i + 1) _ (x.ks k1) (by omega) (fun y hy => by rw [iv_ne (by decide)]; exact hg y hy) (fun y hy => ?_) fun h' a4 k2 g1 g2 => kk h' a4 (k1.tr k2) g1 g2
    rw [iv_setI]
    by_cases e : y = i
    · rw [if_pos ⟨rfl, by rw [e]⟩, if_pos (by omega), e]
      rfl
    · rw [if_neg (fun z => e (Int.ofNat.inj z.2)), hv y hy]
      by_cases c : y < i
      · rw [if_pos c, if_pos (by omega)]
      · rw [if_neg c, if_neg (by omega)]
theorem goes3 (hn2 : 2 ≤ n) {f : Nat → Nat} (hf : ∀ y, y < fct n → f y < fct n) {K : Nat} (hK : K ≤ 99) {a1 : Value} : ∀ (k s : Nat) (h : Hp) (a4 : Value), s + k = K → RY n d h → (∀ y : Nat, y < fct n → iv h 433 y = (f y : Nat)) → (∀ y : Nat, y < fct n → iv h 434 y = (itr f s y : Nat)) →
    (∀ h', KS h h' → (∀ y : Nat, y < fct n → iv h' 434 y = (itr f K y : Nat)) → P .null h') → R 185 41 [.ref 400, a1, .int (I (K : Nat)), .int (I (s : Nat)), a4] [] h P := by
  intro k
  induction k with
  | zero =>
    intro s h a4 hs x hg hv kk
    have e : s = K := by omega
    subst e
    exact t_Y_layGoes_41 x.S ⟨by omega, by omega, fun c => absurd c (by omega), fun _ => kk h (KS.rf h) hv⟩
  | succ k ih =>
    intro s h a4 hs x hg hv kk
    refine t_Y_layGoes_41 x.S ⟨by omega, by omega, fun _ => ?_, fun c => absurd (by omega) c⟩
    exact goes2 (P := P) hn2 hf (fct n) 0 h x (by omega) hg (fun y hy => by rw [if_neg (Nat.not_lt_zero _)]; exact hv y hy) fun h1 a4 k1 g1 g2 => ih (s + 1) h1 a4 (by omega) (x.ks k1) g1 g2 fun h' k2 g => kk h' (k1.tr k2) g
theorem y_layGoes (x : RY n d h) (hn2 : 2 ≤ n) {l : Nat} (el : (l : Int) = d 0 4) (hl : (l : Int) < d 0 3) {hd : Int} (hh : rng hd) {K : Nat} (hK : K ≤ 99) (kk : ∀ h', KS h h' → (∀ y : Nat, y < fct n → iv h' 434 y = (itr (fh d n l hd (-9)) K y : Nat)) → P .null h') : R 185 0 [.ref 400, .int (I hd), .int (I (K : Nat)), .retAddr 0, .retAddr 0] [] h P := by
  have hn := x.n7
  have hn7 : 2 ≤ n ∧ n ≤ 7 := by omega
  refine t_Y_layGoes x.S (goes1 hn2 el hl hh (fct n) 0 h x (by omega) (fun y hy => absurd hy (Nat.not_lt_zero _)) (fun h1 k1 g1 K' e => ?_) (K : Nat) rfl)
  exact goes3 hn2 (fh_lt hn7) hK K 0 h1 _ (by omega) (x.ks k1) (fun y hy => (g1 y hy).1) (fun y hy => (g1 y hy).2) fun h' k2 g => kk h' (k1.tr k2) g
theorem ycome_loop (x : RY n d h) (hn2 : 2 ≤ n) {f : Nat → Nat} (hf : ∀ y, y < fct n → f y < fct n) {v : Int} {a2 a3 : Value} (hv : rng v) (g : ∀ y : Nat, y < fct n → iv h 434 (y : Nat) = (f y : Nat)) (kk : P (.int (I (cnQ (fun i => ((f i : Nat) : Int) = v) (fct n)))) h) : ∀ (k i : Nat), i + k = fct n →
    R 184 52 [.ref 400, .int (I v), a2, a3, .int (I (cnQ (fun i => ((f i : Nat) : Int) = v) i)), .int (I (i : Nat))] [] h P := by
  have hn := x.n7
  have f5 := fct_le (k := n) (by omega)
  intro k
  induction k with
  | zero =>
    intro i hi
    have e : i = fct n := by omega
    subst e
    refine t_Y_come_52 x.S ?_
    rw [x.ls, lies_pos hn2]
    exact ⟨by omega, by omega, fun c => absurd c (by omega), fun _ => kk⟩
  | succ k ih =>
    intro i hi
    have q1 := hf i (by omega)
    have z := ih (i + 1) (by omega)
    refine t_Y_come_52 x.S ?_
    rw [x.ls, lies_pos hn2, g i (by omega)]
    refine ⟨by omega, by omega, fun _ => ⟨by omega, by omega, by omega, hv, fun c => ?_, fun c => ?_⟩, fun c => absurd (by omega) c⟩
    · rw [cnQ_y (Q := fun i => ((f i : Nat) : Int) = v) c] at z; exact z
    · rw [cnQ_n (Q := fun i => ((f i : Nat) : Int) = v) c] at z
      rw [Int.add_zero]
      exact z
theorem y_come (x : RY n d h) {l K hd : Int} (hl : rng l) (hK : rng K) (hh : rng hd) (k : ∀ h', KY n d h h' → P (.int (I (comeA n d l K hd))) h') : R 184 0 [.ref 400, .int (I l), .int (I K), .int (I hd), .retAddr 0, .retAddr 0] [] h P := by
  unfold comeA at k
  have hn := x.n7
  have l3 := x.l3
  refine t_Y_come x.S (y_isLie x hl (fun c => ?_) (fun c => ?_))
  · rw [if_neg (by omega)] at k
    refine t_Y_come_5 x.S ⟨by decide, fun q => absurd q (by decide), fun _ => y_within hK (by decide) (by decide) (fun c2 => ?_) (fun c2 => ?_)⟩
    · refine t_Y_come_17 x.S ⟨by decide, fun q => absurd q (by decide), fun _ => y_isHard hh (fun c3 => ?_) (fun c3 => ?_)⟩
      · rw [if_neg (by omega)] at k
        refine t_Y_come_24 x.S ?_
        rw [l3.1]
        refine ⟨by decide, fun q => absurd q (by decide), fun _ => ⟨by omega, fun c4 => ?_, fun c4 => ?_⟩⟩
        · rw [if_pos c4] at k; exact k h (KY.rf x)
        · rw [if_neg c4] at k
          have hn2 := lie_n x.n7 c
          have hn7 : 2 ≤ n ∧ n ≤ 7 := by omega
          obtain ⟨l2, el, hl2, e2⟩ := x.inF c4
          rw [e2] at k
          obtain ⟨K, rfl⟩ : ∃ m : Nat, K = m := ⟨K.toNat, by omega⟩
          refine y_layGoes x hn2 el hl2 hh (by omega) fun h1 k1 g1 => ?_
          have x1 := x.ks k1
          exact t_Y_come_46 x1.S (ycome_loop (P := P) x1 hn2 (fun y hy => itr_lt (fh_lt hn7) hy K) hl g1 (k h1 (x.k k1)) (fct n) 0 (by omega))
      · rw [if_pos (by omega)] at k
        exact t_Y_come_24 x.S ⟨by decide, fun _ => k h (KY.rf x), fun q => absurd rfl q⟩
    · rw [if_pos (by omega)] at k
      exact t_Y_come_17 x.S ⟨by decide, fun _ => k h (KY.rf x), fun q => absurd rfl q⟩
  · rw [if_pos (by omega)] at k
    exact t_Y_come_5 x.S ⟨by decide, fun _ => k h (KY.rf x), fun q => absurd rfl q⟩
theorem y_clearMet1 (x : RY n d h) (hn2 : 2 ≤ n) (kk : ∀ h', KS h h' → (∀ z, iv h' 434 z = iv h 434 z) → (∀ y : Nat, y < fct n → iv h' 428 y = -9) → P .null h') : R 171 0 [.ref 400, .retAddr 0] [] h P :=
  t_Y_clearMet x.S (clear_loop hn2 (fct n) 0 h x (by omega) (fun y hy => absurd hy (Nat.not_lt_zero _)) fun h' f g => kk h' (f.ks fun r hr => by
    have : r = 428 := by simpa using hr
    omega) (fun z => f.i (by decide) z) g)
theorem ybare_loop (hn2 : 2 ≤ n) {f : Nat → Nat} (hf : ∀ y, y < fct n → f y < fct n) {a1 : Value} : ∀ (k i : Nat) (h : Hp), RY n d h → i + k = fct n → (∀ y : Nat, y < fct n → iv h 434 (y : Nat) = (f y : Nat)) → (∀ y : Nat, y < fct n → ((∃ t, t < i ∧ f t = y) ∧ iv h 428 (y : Nat) = 0) ∨ ((¬ ∃ t, t < i ∧ f t = y) ∧ iv h 428 (y : Nat) = -9)) →
    (∀ h', KY n d h h' → P (.int (I ((fct n : Nat) - cnQ (newQ f) (fct n)))) h') → R 186 44 [.ref 400, a1, .int (I ((fct n : Nat) - cnQ (newQ f) i)), .int (I (i : Nat))] [] h P := by
  intro k
  induction k with
  | zero =>
    intro i h x hi g hv kk
    have hn := x.n7
    have f5 := fct_le (k := n) (by omega)
    have e : i = fct n := by omega
    subst e
    refine t_Y_bare_44 x.S ?_
    rw [x.ls, lies_pos hn2]
    exact ⟨by omega, by omega, fun c => absurd c (by omega), fun _ => kk h (KY.rf x)⟩
  | succ k ih =>
    intro i h x hi g hv kk
    have hn := x.n7
    have f5 := fct_le (k := n) (by omega)
    have fi := hf i (by omega)
    have k1 : KS h (setI h 428 (f i : Nat) 0) := KS.set (by decide) _ _
    have hv2 : ∀ y : Nat, y < fct n → ((∃ t, t < i + 1 ∧ f t = y) ∧ iv (setI h 428 (f i : Nat) 0) 428 (y : Nat) = 0) ∨ ((¬ ∃ t, t < i + 1 ∧ f t = y) ∧ iv (setI h 428 (f i : Nat) 0) 428 (y : Nat) = -9) := fun y hy => by
      rw [iv_setI]
      by_cases e3 : y = f i
      · rw [if_pos ⟨rfl, by rw [e3]⟩]
        exact Or.inl ⟨⟨i, by omega, e3.symm⟩, rfl⟩
      · rw [if_neg (fun q => e3 (Int.ofNat.inj q.2))]
        rcases hv y hy with ⟨⟨t, t1, t2⟩, q⟩ | ⟨q, q2⟩
        · exact Or.inl ⟨⟨t, by omega, t2⟩, q⟩
        · refine Or.inr ⟨?_, q2⟩
          rintro ⟨t, t1, t2⟩
          by_cases e4 : t = i
          · rw [e4] at t2; exact e3 t2.symm
          · exact q ⟨t, by omega, t2⟩
    have z := ih (i + 1) _ (x.ks k1) (by omega) (fun y hy => by rw [iv_ne (by decide)]; exact g y hy) hv2 fun h' k4 => kk h' ((x.k k1).tr k4)
    refine t_Y_bare_44 x.S ?_
    rw [x.ls, lies_pos hn2, g i (by omega)]
    refine ⟨by omega, by omega, fun _ => ⟨by omega, by omega, by omega, by omega, ?_, fun e => ⟨by omega, by omega, by omega, by omega, ?_⟩, fun e => ⟨by omega, by omega, by omega, by omega, ?_⟩⟩, fun c => absurd (by omega) c⟩
    · rcases hv _ fi with ⟨-, q⟩ | ⟨-, q⟩ <;> rw [q] <;> decide
    · have hq : newQ f i := by
        rcases hv _ fi with ⟨-, q⟩ | ⟨q, -⟩
        · omega
        · exact q
      rw [cnQ_y hq, show ((fct n : Nat) : Int) - (cnQ (newQ f) i + 1) = (fct n : Nat) - cnQ (newQ f) i - 1 by omega] at z
      exact z
    · have hq : ¬ newQ f i := by
        rcases hv _ fi with ⟨q, -⟩ | ⟨-, q⟩
        · exact fun z => z q
        · exact absurd q e
      rw [cnQ_n hq] at z
      rw [Int.sub_zero]
      exact z
theorem y_bare (x : RY n d h) {hd : Int} (hh : rng hd) (k : ∀ h', KY n d h h' → P (.int (I (bareA n d hd))) h') : R 186 0 [.ref 400, .int (I hd), .retAddr 0, .retAddr 0] [] h P := by
  unfold bareA at k
  have hn := x.n7
  have l3 := x.l3
  refine t_Y_bare x.S (y_isHard hh (fun c => ?_) (fun c => ?_))
  · rw [if_neg (by omega)] at k
    refine t_Y_bare_4 x.S ?_
    rw [x.g, l3.1]
    refine ⟨by decide, fun q => absurd q (by decide), fun _ => ⟨by omega, fun c4 => ?_, fun c4 => ⟨by omega, fun c5 => ?_, fun c5 => ?_⟩⟩⟩
    · rw [if_pos (by omega)] at k; exact k h (KY.rf x)
    · rw [if_pos (by omega)] at k; exact k h (KY.rf x)
    · rw [if_neg (by omega)] at k
      have hn2 : 2 ≤ n := by omega
      have hn7 : 2 ≤ n ∧ n ≤ 7 := by omega
      obtain ⟨l2, el, hl2, e2⟩ := x.inF c5
      rw [e2] at k
      refine y_layGoes x hn2 el hl2 hh (K := 1) (by decide) fun h1 k1 g1 => ?_
      have x1 := x.ks k1
      have g1 : ∀ y : Nat, y < fct n → iv h1 434 y = (fh d n l2 hd (-9) y : Nat) := g1
      refine t_Y_bare_33 x1.S (y_clearMet1 x1 hn2 fun h2 k2 f2 g2 => ?_)
      have x2 := x1.ks k2
      refine t_Y_bare_37 x2.S ?_
      rw [x2.ls, lies_pos hn2]
      have z := ybare_loop (P := P) (a1 := .int (I hd)) hn2 (fh_lt (d := d) (l := l2) (hd := hd) (lo := -9) hn7) (fct n) 0 h2 x2 (by omega) (fun y hy => by rw [f2]; exact g1 y hy) (fun y hy => Or.inr ⟨fun ⟨t, t1, _⟩ => absurd t1 (Nat.not_lt_zero _), g2 y hy⟩) fun h' k3 => k h' ((x.k (k1.tr k2)).tr k3)
      have e0 : ((fct n : Nat) : Int) - cnQ (newQ (fh d n l2 hd (-9))) 0 = (fct n : Nat) := by rw [cnQ]; omega
      rw [e0] at z
      exact z
  · rw [if_pos (by omega)] at k
    exact t_Y_bare_4 x.S ⟨by decide, fun _ => k h (KY.rf x), fun q => absurd rfl q⟩
theorem ygcd_loop {a0 a2 : Int} {h : Hp} : ∀ (B b a : Nat) (a8 a9 : Value), b ≤ B → a < 10000 → b < 10000 → P (.long (J (Nat.gcd b a : Nat))) h → R 188 6 [.long (J a0), .retAddr 0, .long (J a2), .retAddr 0, .long (J (a : Nat)), .retAddr 0, .long (J (b : Nat)), .retAddr 0, a8, a9] [] h P := by
  intro B
  induction B with
  | zero =>
    intro b a a8 a9 hB ha hb kk
    have e : b = 0 := by omega
    subst e
    rw [Nat.gcd_zero_left] at kk
    exact t_Y_common_6 ⟨by decide, fun _ => kk, fun c => absurd (by decide) c⟩
  | succ B ih =>
    intro b a a8 a9 hB ha hb kk
    by_cases e : b = 0
    · subst e
      rw [Nat.gcd_zero_left] at kk
      exact t_Y_common_6 ⟨by decide, fun _ => kk, fun c => absurd (by decide) c⟩
    · have hc : lcp ((b : Nat) : Int) 0 = 1 := by
        have hg : J ((b : Nat) : Int) > J 0 := (J_lt (a := 0) (b := ((b : Nat) : Int)) ⟨by decide, by decide⟩ ⟨by omega, by omega⟩).mpr (by omega)
        unfold lcp lg_cmp
        rw [if_pos hg]
        rfl
      have hm := Nat.mod_lt a (show 0 < b by omega)
      rw [Nat.gcd_rec] at kk
      refine t_Y_common_6 ?_
      rw [hc]
      exact ⟨by decide, fun q => absurd q (by decide), fun _ => ⟨by omega, by omega, ih (a % b) b _ _ (by omega) hb (by omega) kk⟩⟩
theorem yodds_loop {h0 : Hp} (hn2 : 2 ≤ n) {f : Nat → Nat} (hf : ∀ y, y < fct n → f y < fct n) {g w : Int} {a2 a3 a7 : Value} (hg : rng g) (hw : rng w) (kk : ∀ h', KY n d h0 h' → P (.long (J (if w = 0 then (((cnQ (fun i => topQ n g (f i)) (fct n)).toNat / Nat.gcd (fct n) (cnQ (fun i => topQ n g (f i)) (fct n)).toNat : Nat) : Int) else ((fct n / Nat.gcd (fct n) (cnQ (fun i => topQ n g (f i)) (fct n)).toNat : Nat) : Int)))) h') : ∀ (k i : Nat) (h : Hp), KY n d h0 h → (∀ y : Nat, y < fct n → iv h 434 (y : Nat) = (f y : Nat)) → i + k = fct n →
    R 187 58 [.ref 400, .int (I g), a2, a3, .int (I w), .int (I (cnQ (fun i => topQ n g (f i)) i)), .int (I (i : Nat)), a7] [] h P := by
  intro k
  induction k with
  | zero =>
    intro i h K hv hi
    have x := K.1
    have hn := x.n7
    have f5 := fct_le (k := n) (by omega)
    have f1 := fct_pos n
    have e : i = fct n := by omega
    subst e
    have cb := cnQ_bd (fun i => topQ n g (f i)) (fct n)
    have kk := kk h K
    generalize hc : cnQ (fun i => topQ n g (f i)) (fct n) = c at *
    obtain ⟨c, rfl⟩ : ∃ m : Nat, c = m := ⟨c.toNat, by omega⟩
    have ec : ((c : Nat) : Int).toNat = c := rfl
    rw [ec] at kk
    have gp : 0 < Nat.gcd (fct n) c := Nat.gcd_pos_of_pos_left _ f1
    have gl : Nat.gcd (fct n) c ≤ fct n := Nat.gcd_le_left _ f1
    refine t_Y_odds_58 x.S ?_
    rw [x.ls, lies_pos hn2]
    refine ⟨by omega, by omega, fun q => absurd q (by omega), fun _ => ⟨by omega, by omega, ?_⟩⟩
    refine t_Y_common (ygcd_loop (fct n) (fct n) c _ _ (Nat.le_refl _) (by omega) (by omega) ?_)
    refine t_Y_odds_109 x.S ?_
    rw [x.ls, lies_pos hn2]
    refine ⟨hw, fun q => ⟨by omega, by omega, by omega, ?_⟩, fun q => ⟨by omega, by omega, by omega, ?_⟩⟩
    · rw [if_pos q] at kk; exact kk
    · rw [if_neg q] at kk; exact kk
  | succ k ih =>
    intro i h K hv hi
    have x := K.1
    have hn := x.n7
    have f5 := fct_le (k := n) (by omega)
    have q1 := hf i (by omega)
    refine t_Y_odds_58 x.S ?_
    rw [x.ls, lies_pos hn2, hv i (by omega)]
    refine ⟨by omega, by omega, fun _ => ⟨by omega, by omega, ?_⟩, fun q => absurd (by omega) q⟩
    refine y_isOnTop x hn2 hg q1 (fun c h1 f1 => ?_) (fun c h1 f1 => ?_)
    · have z := ih (i + 1) h1 (K.tr (x.k f1.ks)) (fun y hy => by rw [f1.i (by decide) (by decide)]; exact hv y hy) (by omega)
      rw [cnQ_y (Q := fun i => topQ n g (f i)) c] at z
      exact t_Y_odds_81 (x.ks f1.ks).S ⟨by decide, fun q => absurd q (by decide), fun _ => z⟩
    · have z := ih (i + 1) h1 (K.tr (x.k f1.ks)) (fun y hy => by rw [f1.i (by decide) (by decide)]; exact hv y hy) (by omega)
      rw [cnQ_n (Q := fun i => topQ n g (f i)) c] at z
      refine t_Y_odds_81 (x.ks f1.ks).S ⟨by decide, fun _ => ?_, fun q => absurd rfl q⟩
      rw [Int.add_zero]
      exact z
theorem y_odds (x : RY n d h) {g K hd w : Int} (hg : rng g) (hK : rng K) (hh : rng hd) (hw : rng w) (k : ∀ h', KY n d h h' → P (.long (J (oddsA n d g K hd w))) h') : R 187 0 [.ref 400, .int (I g), .int (I K), .int (I hd), .int (I w), .retAddr 0, .retAddr 0, .retAddr 0] [] h P := by
  unfold oddsA at k
  have hn := x.n7
  have l3 := x.l3
  refine t_Y_odds x.S (y_isGrain x hg (fun c => ?_) (fun c => ?_))
  · refine t_Y_odds_5 x.S ⟨by decide, fun q => absurd q (by decide), fun _ => y_within hK (by decide) (by decide) (fun c2 => ?_) (fun c2 => ?_)⟩
    · refine t_Y_odds_15 x.S ⟨by decide, fun q => absurd q (by decide), fun _ => y_isHard hh (fun c3 => ?_) (fun c3 => ?_)⟩
      · refine t_Y_odds_22 x.S ⟨by decide, fun q => absurd q (by decide), fun _ => y_within hw (by decide) (by decide) (fun c4 => ?_) (fun c4 => ?_)⟩
        · refine t_Y_odds_32 x.S ?_
          rw [l3.1]
          refine ⟨by decide, fun q => absurd q (by decide), fun _ => ⟨by omega, fun c5 => ?_, fun c5 => ?_⟩⟩
          · rw [if_pos (by omega)] at k; exact k h (KY.rf x)
          · rw [if_neg (by omega)] at k
            have hn2 : 2 ≤ n := by omega
            have hn7 : 2 ≤ n ∧ n ≤ 7 := by omega
            obtain ⟨l2, el, hl2, e2⟩ := x.inF c5
            unfold topN at k
            rw [e2] at k
            obtain ⟨K, rfl⟩ : ∃ m : Nat, K = m := ⟨K.toNat, by omega⟩
            refine y_layGoes x hn2 el hl2 hh (by omega) fun h1 k1 g1 => ?_
            have x1 := x.ks k1
            refine t_Y_odds_52 x1.S ?_
            exact yodds_loop (P := P) (h0 := h) hn2 (f := itr (fh d n l2 hd (-9)) K) (fun y hy => itr_lt (fh_lt hn7) hy K) hg hw k (fct n) 0 h1 (x.k k1) g1 (by omega)
        · rw [if_pos (by omega)] at k
          exact t_Y_odds_32 x.S ⟨by decide, fun _ => k h (KY.rf x), fun q => absurd rfl q⟩
      · rw [if_pos (by omega)] at k
        exact t_Y_odds_22 x.S ⟨by decide, fun _ => k h (KY.rf x), fun q => absurd rfl q⟩
    · rw [if_pos (by omega)] at k
      exact t_Y_odds_15 x.S ⟨by decide, fun _ => k h (KY.rf x), fun q => absurd rfl q⟩
  · rw [if_pos (by omega)] at k
    exact t_Y_odds_5 x.S ⟨by decide, fun _ => k h (KY.rf x), fun q => absurd rfl q⟩
end YFAR
