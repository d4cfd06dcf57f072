/-! The law writes a law's text. -/
def cyv (g : Int → Int) (M : Nat) (f : Int) (k : Nat) : Int := shr (clv g M ((f + 1) + ((k : Nat) : Int) % 2)) ((((k : Nat) : Int) / 2) * 8)
def cLt (g : Int → Int) (M : Nat) (f : Int) (k : Nat) : Int := smv (cyv g M f k) 6
def cNm (g : Int → Int) (M : Nat) (f : Int) (k : Nat) : Int := smv (shr (cyv g M f k) 3) (if smv (shr (cyv g M f k) 5) 3 = 0 then 10 else 4)
def cHd (g : Int → Int) (M : Nat) (f : Int) (k : Nat) : Int := 1 + smv (shr (cyv g M f k) 6) (if smv (shr (clv g M f) 7) 2 = 0 then 1 else 3)
def cCn (g : Int → Int) (M : Nat) (f : Int) : Nat := (1 + smv (clv g M f) 6).toNat
def lcode (l : Int) : Int := if l = 0 then 102 else if l = 1 then 104 else if l = 2 then 114 else if l = 3 then 116 else if l = 4 then 110 else 97
theorem cLt_bd (g : Int → Int) (M : Nat) (f : Int) (k : Nat) : 0 ≤ cLt g M f k ∧ cLt g M f k ≤ 5 := by
  have := smv_bd (cyv g M f k) (m := 6) (by decide)
  unfold cLt
  omega
theorem cNm_bd (g : Int → Int) (M : Nat) (f : Int) (k : Nat) : 0 ≤ cNm g M f k ∧ cNm g M f k ≤ 9 := by
  unfold cNm
  split
  · have := smv_bd (shr (cyv g M f k) 3) (m := 10) (by decide); omega
  · have := smv_bd (shr (cyv g M f k) 3) (m := 4) (by decide); omega
theorem cHd_bd (g : Int → Int) (M : Nat) (f : Int) (k : Nat) : 1 ≤ cHd g M f k ∧ cHd g M f k ≤ 3 := by
  unfold cHd
  split
  · have := smv_bd (shr (cyv g M f k) 6) (m := 1) (by decide); omega
  · have := smv_bd (shr (cyv g M f k) 6) (m := 3) (by decide); omega
theorem cCn_bd (g : Int → Int) (M : Nat) (f : Int) : (1 ≤ cCn g M f ∧ cCn g M f ≤ 6) ∧ (cCn g M f : Int) = 1 + smv (clv g M f) 6 := by
  have := smv_bd (clv g M f) (m := 6) (by decide)
  unfold cCn
  omega
theorem lcode_ltc {l : Int} (h : 0 ≤ l ∧ l ≤ 5) : ltc (lcode l) = l ∧ 0 ≤ lcode l ∧ lcode l < 128 := by
  have : l = 0 ∨ l = 1 ∨ l = 2 ∨ l = 3 ∨ l = 4 ∨ l = 5 := by omega
  rcases this with rfl | rfl | rfl | rfl | rfl | rfl <;> decide
def AC (C : Nat) (A B D : Nat → Int) (k L : Nat) (h : Hp) : Prop := (tg h L = 20 ∧ ln h L = 19) ∧ iv h L 0 = (C : Nat) ∧ ∀ j : Nat, j < k → iv h L (1 + 3 * (j : Nat)) = A j ∧ iv h L (2 + 3 * (j : Nat)) = B j ∧ iv h L (3 + 3 * (j : Nat)) = D j
def CTX (A B D : Nat → Int) (H : Nat → Int) (k : Nat) : Prop := ∀ j, j < k → H (60 + 4 * j) = lcode (A j) ∧ H (60 + (4 * j + 1)) = 48 + B j ∧ H (60 + (4 * j + 2)) = 48 + D j ∧ (j + 1 < k → H (60 + (4 * j + 3)) = 59)
section CAUSES
variable {g : Int → Int} {M kc ku n G : Nat} {h0 : Hp} {d0 d : Nat → Nat → Int} {t : Nat} {h : Hp} {P : Value → Hp → Prop} {C : Nat} {A B D : Nat → Int} {k : Nat}
theorem AC.gp (a : AC C A B D k G h) {h1 : Hp} (q : Gp h h1 G) : AC C A B D k G h1 := by
  obtain ⟨⟨a1, a2⟩, a3, a4⟩ := a
  obtain ⟨q1, q2, q3, -⟩ := q
  refine ⟨⟨q1.trans a1, q2.trans a2⟩, (q3 _).trans a3, fun k hk => ?_⟩
  rw [q3, q3, q3]; exact a4 k hk
theorem CTX.keep {H H' : Nat → Int} (b : CTX A B D H k) (e : ∀ p, p + 1 < 60 + 4 * k → H' p = H p) : CTX A B D H' k := fun j hj => by
  obtain ⟨b1, b2, b3, b4⟩ := b j hj
  refine ⟨by rw [e _ (by omega)]; exact b1, by rw [e _ (by omega)]; exact b2, by rw [e _ (by omega)]; exact b3, fun z => by rw [e _ (by omega)]; exact b4 z⟩
theorem CTX.next {H : Nat → Int} (b : CTX A B D H k) (s : 0 < k → H (60 + (4 * k - 1)) = 59) (h1 : H (60 + 4 * k) = lcode (A k)) (h2 : H (60 + (4 * k + 1)) = 48 + B k) (h3 : H (60 + (4 * k + 2)) = 48 + D k) : CTX A B D H (k + 1) := fun j hj => by
  by_cases c : j = k
  · rw [c]
    exact ⟨h1, h2, h3, fun z => absurd z (by omega)⟩
  · obtain ⟨b1, b2, b3, b4⟩ := b j (by omega)
    refine ⟨b1, b2, b3, fun z => ?_⟩
    by_cases c2 : j + 1 = k
    · have := s (by omega)
      rw [show 4 * k - 1 = 4 * j + 3 by omega] at this
      exact this
    · exact b4 (by omega)
theorem AC.set (a : AC C A B D k G h) (hk : k < 6) {v1 v2 v3 : Int} (e1 : v1 = A k) (e2 : v2 = B k) (e3 : v3 = D k) : AC C A B D (k + 1) G (setI (setI (setI h G (1 + 3 * (k : Nat)) v1) G (2 + 3 * (k : Nat)) v2) G (3 + 3 * (k : Nat)) v3) := by
  obtain ⟨⟨a1, a2⟩, a3, a4⟩ := a
  refine ⟨⟨a1, a2⟩, ?_, fun j hj => ?_⟩
  · rw [iv_nk (by omega), iv_nk (by omega), iv_nk (by omega)]; exact a3
  · by_cases c : j = k
    · rw [c]
      refine ⟨?_, ?_, ?_⟩
      · rw [iv_nk (by omega), iv_nk (by omega), iv_eq]; exact e1
      · rw [iv_nk (by omega), iv_eq]; exact e2
      · rw [iv_eq]; exact e3
    · rw [iv_nk (by omega), iv_nk (by omega), iv_nk (by omega), iv_nk (by omega), iv_nk (by omega), iv_nk (by omega), iv_nk (by omega), iv_nk (by omega), iv_nk (by omega)]
      exact a4 j (by omega)
theorem caus_183 {f x : Int} {a7 : Value} (a : LQ g M kc ku n 1 2 30 G h0 d0 d t h) (ac : AC C A B D (k + 1) G h) (hk : k < 6) (hA : ∀ j, 0 ≤ A j ∧ A j ≤ 5) (hB : ∀ j, 0 ≤ B j ∧ B j ≤ 9) (hD : ∀ j, 1 ≤ D j ∧ D j ≤ 3) (b : CTX A B D (d 12) k) (sep : 0 < k → d 12 (60 + (4 * k - 1)) = 59)
    (kk : ∀ (h' : Hp) (d' : Nat → Nat → Int) (t' : Nat), LQ g M kc ku n 1 2 30 G h0 d0 d' t' h' → t' ≤ t + 3 → AC C A B D (k + 1) G h' → CTX A B D (d' 12) (k + 1) → ∀ a7 a8 : Value, R 90 40 [.ref 0, .ref 502, .int (I f), .ref G, .int (I x), .int (I (4 * (k + 1) - 1 : Nat)), .int (I (k + 1 : Nat)), a7, a8] [] h' P) (hG : 10000 ≤ G) :
    R 90 183 [.ref 0, .ref 502, .int (I f), .ref G, .int (I x), .int (I (4 * k : Nat)), .int (I (k : Nat)), a7, .int (I (A k))] [] h P := by
  have ka := hA k
  have kb := hB k
  have kd := hD k
  have lc := lcode_ltc ka
  have m1 : R 90 246 [.ref 0, .ref 502, .int (I f), .ref G, .int (I x), .int (I ((4 * k : Nat) + 1)), .int (I (k : Nat)), a7, .int (I (A k))] [.int (I (lcode (A k))), .int (I (4 * k : Nat)), .int (I 1), .ref 0] h P := by
    refine t_L_causes_246 ⟨a.tg0, q_put (sk := 1) (i := 4 * k) a (by decide) (cut2 _) (by decide) (by omega) (by omega) fun h1 a1 f1 => t_L_causes_249 ⟨by decide, fun _ => ?_, fun z => absurd rfl z⟩⟩
    have ac1 := ac.gp (f1 G hG)
    obtain ⟨⟨gt1, gl1⟩, -, ga1⟩ := id ac1
    rw [gl1, (ga1 k (by omega)).2.1]
    refine ⟨Or.inl gt1, by omega, by omega, by omega, a1.tg0, q_put (sk := 1) (i := 4 * k + 1) a1 (by decide) (cut2 _) (by decide) (by omega) (by omega) fun h2 a2 f2 => t_L_causes_274 ⟨by decide, fun _ => ?_, fun z => absurd rfl z⟩⟩
    have ac2 := ac1.gp (f2 G hG)
    obtain ⟨⟨gt2, gl2⟩, -, ga2⟩ := id ac2
    rw [gl2, (ga2 k (by omega)).2.2]
    refine ⟨Or.inl gt2, by omega, by omega, by omega, a2.tg0, q_put (sk := 1) (i := 4 * k + 1 + 1) a2 (by decide) (cut2 _) (by decide) (by omega) (by omega) fun h3 a3 f3 => t_L_causes_299 ⟨by decide, fun _ => ?_, fun z => absurd rfl z⟩⟩
    have z := kk h3 _ _ a3 (by omega) (ac2.gp (f3 G hG)) (CTX.next (b.keep fun p hp => by rw [PD_o _ _ _ _ (by omega), PD_o _ _ _ _ (by omega), PD_o _ _ _ _ (by omega)]) (fun z => by rw [PD_o _ _ _ _ (by omega), PD_o _ _ _ _ (by omega), PD_o _ _ _ _ (by omega)]; exact sep z) (by rw [PD_o _ _ _ _ (by omega), PD_o _ _ _ _ (by omega), PD_at _ _ _ _ (by omega)]) (by rw [PD_o _ _ _ _ (by omega), PD_at _ _ _ _ (by omega)]) (PD_at _ _ _ _ (by omega)))
    rw [show 4 * (k + 1) - 1 = 4 * k + 1 + 1 + 1 by omega] at z
    exact z _ _
  unfold lcode at m1
  refine t_L_causes_183 ⟨by omega, fun q => ?_, fun q => ⟨by omega, fun q1 => ?_, fun q1 => ⟨by omega, fun q2 => ?_, fun q2 => ⟨by omega, fun q3 => ?_, fun q3 => ⟨by omega, fun q4 => ?_, fun q4 => ?_⟩⟩⟩⟩⟩
  · rw [if_pos q] at m1; exact m1
  · rw [if_neg q, if_pos q1] at m1; exact m1
  · rw [if_neg q, if_neg q1, if_pos q2] at m1; exact m1
  · rw [if_neg q, if_neg q1, if_neg q2, if_pos q3] at m1; exact m1
  · rw [if_neg q, if_neg q1, if_neg q2, if_neg q3, if_pos q4] at m1; exact m1
  · rw [if_neg q, if_neg q1, if_neg q2, if_neg q3, if_neg q4] at m1; exact m1
theorem caus_loop (hM : M ≤ 260) (hG : 10000 ≤ G) {f : Int} (hf : 0 ≤ f ∧ f < 100) {t0 : Nat} (kk : ∀ (h' : Hp) (d' : Nat → Nat → Int) (t' : Nat), LQ g M kc ku n 1 2 30 G h0 d0 d' t' h' → t' ≤ t0 + 24 → AC (cCn g M f) (cLt g M f) (cNm g M f) (cHd g M f) (cCn g M f) G h' → CTX (cLt g M f) (cNm g M f) (cHd g M f) (d' 12) (cCn g M f) → P (.int (I (4 * cCn g M f - 1 : Nat))) h') : ∀ (r k : Nat) (h : Hp) (d : Nat → Nat → Int) (t : Nat), k + r = cCn g M f → LQ g M kc ku n 1 2 30 G h0 d0 d t h → t ≤ t0 + 4 * k → AC (cCn g M f) (cLt g M f) (cNm g M f) (cHd g M f) k G h → CTX (cLt g M f) (cNm g M f) (cHd g M f) (d 12) k → ∀ a7 a8 : Value,
    R 90 40 [.ref 0, .ref 502, .int (I f), .ref G, .int (I (clv g M f)), .int (I (4 * k - 1 : Nat)), .int (I (k : Nat)), a7, a8] [] h P := by
  have nb := cCn_bd g M f
  intro r
  induction r with
  | zero =>
    intro k h d t hk a ht ah b a7 a8
    obtain ⟨⟨gt, gl⟩, g24, ga⟩ := id ah
    refine t_L_causes_40 ?_
    rw [g24, gl]
    obtain rfl : k = cCn g M f := by omega
    exact ⟨Or.inl gt, by omega, by omega, by omega, by omega, fun q => absurd q (by omega), fun _ => kk h d t a (by omega) ah b⟩
  | succ r ih =>
    intro k h d t hk a ht ah b a7 a8
    obtain ⟨⟨gt, gl⟩, g24, ga⟩ := id ah
    have h60 : k < 6 := by omega
    have s1 := smv_bd (shr (cyv g M f k) 5) (m := 3) (by decide)
    have s2 := smv_bd (shr (clv g M f) 7) (m := 2) (by decide)
    have bL := cLt_bd g M f k
    have bN := cNm_bd g M f k
    have bH := cHd_bd g M f k
    refine t_L_causes_40 ?_
    rw [g24, gl]
    refine ⟨Or.inl gt, by omega, by omega, by omega, by omega, fun _ => ⟨by omega, s_cell a.1.sc hM ⟨by omega, by omega⟩ (t_L_causes_60 ⟨by omega, s_some (by decide) (t_L_causes_84 ⟨gt, by omega, by omega, by omega, s_some (by decide) ?_⟩)⟩)⟩, fun q => absurd (by omega) q⟩
    have eL : wr (cLt g M f k) = cLt g M f k := wr_eq (by omega)
    have eN : wr (cNm g M f k) = cNm g M f k := wr_eq (by omega)
    have eH : wr (cHd g M f k) = cHd g M f k := wr_eq (by omega)
    have p3 : ∀ (b3 : Int) (hh : Hp) (a8 : Value), b3 = (if smv (shr (clv g M f) 7) 2 = 0 then 1 else 3) → hh = setI (setI h G (1 + 3 * (k : Nat)) (wr (cLt g M f k))) G (2 + 3 * (k : Nat)) (wr (cNm g M f k)) → R 90 147 [.ref 0, .ref 502, .int (I f), .ref G, .int (I (clv g M f)), .int (I (4 * k - 1 : Nat)), .int (I (k : Nat)), .int (I (cyv g M f k)), a8] [.int (I b3), .int (I (shr (cyv g M f k) 6)), .int (I 1), .int (I (3 + 3 * (k : Nat))), .ref G] hh P := fun b3 hh a8 e3 eh => by
      have hb : 0 < b3 ∧ b3 < 2147483648 := by rw [e3]; split <;> decide
      subst eh
      have e4 : 1 + smv (shr (cyv g M f k) 6) b3 = cHd g M f k := by rw [e3]; rfl
      refine t_L_causes_147 (s_some hb (t_L_causes_150 ?_))
      rw [e4]
      have ah1 := ah.set h60 eL eN eH
      have fr : Fr (fun r => r == G) h (setI (setI (setI h G (1 + 3 * (k : Nat)) (wr (cLt g M f k))) G (2 + 3 * (k : Nat)) (wr (cNm g M f k))) G (3 + 3 * (k : Nat)) (wr (cHd g M f k))) := ((Fr.set (S := fun r => r == G) h _ _ (beq_self_eq_true G)).tr (Fr.set _ _ _ (beq_self_eq_true G))).tr (Fr.set _ _ _ (beq_self_eq_true G))
      have a1 := a.o fr hG
      have e5 := (ah1.2.2 k (by omega)).1
      rw [e5]
      refine ⟨gt, ?_, by omega, ?_, Or.inl gt, ?_, by omega, ?_, by omega, fun q => ⟨a1.tg0, ?_⟩, fun q => ?_⟩
      · show ((ln h G : Nat) : Int) ≤ _; omega
      · show _ < ((ln h G : Nat) : Int); omega
      · show ((ln h G : Nat) : Int) ≤ _; omega
      · show _ < ((ln h G : Nat) : Int); omega
      · refine q_put (sk := 1) (i := 4 * k - 1) a1 (by decide) (cut2 _) (by decide) (by omega) (by decide) fun h2 a2 f2 => t_L_causes_179 ⟨by decide, fun _ => ?_, fun z => absurd rfl z⟩
        have z := caus_183 (f := f) (x := clv g M f) (a7 := .int (I (cyv g M f k))) a2 (ah1.gp (f2 G hG)) h60 (cLt_bd g M f) (cNm_bd g M f) (cHd_bd g M f) (b.keep fun p hp => PD_o _ _ _ _ (by omega)) (fun _ => PD_at _ _ _ _ (by omega)) (fun h' d' t' l1 l2 l3 l4 => ih (k + 1) h' d' t' (by omega) l1 (by omega) l3 l4) hG
        rw [show 4 * k = 4 * k - 1 + 1 by omega] at z
        exact z
      · have k0 : k = 0 := by omega
        subst k0
        exact caus_183 (f := f) (x := clv g M f) (a7 := .int (I (cyv g M f 0))) a1 ah1 h60 (cLt_bd g M f) (cNm_bd g M f) (cHd_bd g M f) b (fun z => absurd z (by omega)) (fun h' d' t' l1 l2 l3 l4 => ih 1 h' d' t' (by omega) l1 (by omega) l3 l4) hG
    have p2 : ∀ (b2 : Int) (a8 : Value), b2 = (if smv (shr (cyv g M f k) 5) 3 = 0 then 10 else 4) → R 90 113 [.ref 0, .ref 502, .int (I f), .ref G, .int (I (clv g M f)), .int (I (4 * k - 1 : Nat)), .int (I (k : Nat)), .int (I (cyv g M f k)), a8] [.int (I b2), .int (I (shr (cyv g M f k) 3)), .int (I (2 + 3 * (k : Nat))), .ref G] (setI h G (1 + 3 * (k : Nat)) (wr (cLt g M f k))) P := fun b2 a8 e2 => by
      have hb : 0 < b2 ∧ b2 < 2147483648 := by rw [e2]; split <;> decide
      have e4 : smv (shr (cyv g M f k) 3) b2 = cNm g M f k := by rw [e2]; rfl
      refine t_L_causes_113 (s_some hb (t_L_causes_116 ⟨gt, ?_, by omega, ?_, s_some (by decide) (t_L_causes_139 ⟨by omega, fun q => ?_, fun q => ?_⟩)⟩))
      · show ((ln h G : Nat) : Int) ≤ _; omega
      · show _ < ((ln h G : Nat) : Int); omega
      · exact p3 1 _ _ (by rw [if_pos q]) (by rw [e4])
      · exact p3 3 _ _ (by rw [if_neg q]) (by rw [e4])
    exact t_L_causes_104 (s0 := smv (shr (cyv g M f k) 5) 3) ⟨by omega, fun q => p2 10 _ (by rw [if_pos q]), fun q => p2 4 _ (by rw [if_neg q])⟩
theorem s_Lcauses (hM : M ≤ 260) {f : Int} (hf : 0 ≤ f ∧ f < 100) (a : ZZ g M kc ku n d t h) (hG : 10000 ≤ G) (gt : tg h G = 20) (gl : ln h G = 19) (kk : ∀ (h' : Hp) (d' : Nat → Nat → Int) (t' : Nat), ZZ g M kc ku n d' t' h' → t' ≤ t + 25 → DE d d' → d' 10 1 = 2 → d' 11 1 = 30 → (∀ r, 10000 ≤ r → r ≠ G → Gp h h' r) → AC (cCn g M f) (cLt g M f) (cNm g M f) (cHd g M f) (cCn g M f) G h' → CTX (cLt g M f) (cNm g M f) (cHd g M f) (d' 12) (cCn g M f) → P (.int (I (4 * cCn g M f - 1 : Nat))) h') :
    R 90 0 [.ref 0, .ref 502, .int (I f), .ref G, .retAddr 0, .retAddr 0, .retAddr 0, .retAddr 0, .retAddr 0] [] h P := by
  have nb := cCn_bd g M f
  refine t_L_causes (s_cell a.sc hM ⟨by omega, by omega⟩ (t_L_causes_5 (s_some (by decide) (t_L_causes_17 ⟨gt, by omega, by decide, by omega, a.rx.S.t0, ?_⟩))))
  have fr : Fr (fun r => r == G) h (setI h G 0 (wr (1 + smv (clv g M f) 6))) := Fr.set (S := fun r => r == G) h _ _ (beq_self_eq_true G)
  have a1 := a.o fr hG
  refine z_sheet (k := 1) a1 (by decide) (by decide) (by decide) fun h1 z1 g1 => t_L_causes_27 ⟨by decide, fun _ => ?_, fun z => absurd rfl z⟩
  have f1 : ∀ r, 10000 ≤ r → Gp (setI h G 0 (wr (1 + smv (clv g M f) 6))) h1 r := fun r hr => g1.p (X4_n (by omega))
  have ah : AC (cCn g M f) (cLt g M f) (cNm g M f) (cHd g M f) 0 G (setI h G 0 (wr (1 + smv (clv g M f) 6))) := ⟨⟨gt, gl⟩, by rw [iv_eq, nb.2]; exact wr_eq (by have := smv_bd (clv g M f) (m := 6) (by decide); omega), fun j hj => absurd hj (Nat.not_lt_zero j)⟩
  exact caus_loop (h0 := h) (d0 := d) (t0 := t + 1) hM hG hf (fun h' d' t' l1 l2 l3 l4 => kk h' d' t' l1.1 (by omega) l1.2.1 l1.2.2.1.1 l1.2.2.1.2 l1.2.2.2 l3 l4) (cCn g M f) 0 h1 _ (t + 1) (by omega) ⟨z1, sht_de d 1 2 30, ⟨sht_10 _ _ _ _, sht_11 _ _ _ _⟩, fun r h1' h2 => (fr.gp1 h2).tr (f1 r h1')⟩ (by omega) (ah.gp (f1 G hG)) (fun j hj => absurd hj (Nat.not_lt_zero j)) _ _
end CAUSES
