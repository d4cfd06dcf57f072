/-! The law writes a box's text. -/
/-- while the law writes a text -/
noncomputable def LQ (g : Int → Int) (M kc ku n sk : Nat) (s m : Int) (G : Nat) (h0 : Hp) (d0 : Nat → Nat → Int) (d : Nat → Nat → Int) (t : Nat) (h : Hp) : Prop := ZZ g M kc ku n d t h ∧ DE d0 d ∧ (d 10 sk = s ∧ d 11 sk = m) ∧ ∀ r, 10000 ≤ r → r ≠ G → Gp h0 h r
def AH (N : Nat) (S W : Nat → Int) (K : Nat → Nat) (k G : Nat) (h : Hp) : Prop := (tg h G = 20 ∧ ln h G = 25) ∧ iv h G 24 = (N : Nat) ∧ ∀ j : Nat, j < k → iv h G (j : Nat) = S j ∧ iv h G (8 + (j : Nat)) = W j ∧ iv h G (16 + (j : Nat)) = (K j : Nat)
section LAWBOX
variable {g : Int → Int} {M kc ku n sk : Nat} {s m : Int} {G : Nat} {h0 : Hp} {d0 d : Nat → Nat → Int} {t : Nat} {h : Hp} {P : Value → Hp → Prop} {N : Nat} {S W : Nat → Int} {K : Nat → Nat} {k : Nat}
theorem AH.gp (a : AH N S W K k G h) {h1 : Hp} (q : Gp h h1 G) : AH N S W K k G h1 := by
  obtain ⟨⟨a1, a2⟩, a3, a4⟩ := a
  obtain ⟨q1, q2, q3, -⟩ := q
  refine ⟨⟨q1.trans a1, q2.trans a2⟩, (q3 _).trans a3, fun k hk => ?_⟩
  rw [q3, q3, q3]; exact a4 k hk
theorem LQ.tg0 (a : LQ g M kc ku n sk s m G h0 d0 d t h) : tg h 0 = 12 := a.1.rx.S.t0
theorem q_put (a : LQ g M kc ku n sk s m G h0 d0 d t h) (hk : sk < 4) {i : Nat} {v : Int} (hs : cutv s v = v) (hs9 : s ≠ -9) (hi : (i : Int) < m) (hv : rng v) (kk : ∀ h', LQ g M kc ku n sk s m G h0 d0 (PD d sk i v) (t + 1) h' → (∀ r, 10000 ≤ r → Gp h h' r) → P (.int (I 1)) h') : R 84 0 [.ref 0, .int (I (sk : Nat)), .int (I (i : Nat)), .int (I v), .retAddr 0] [] h P := by
  obtain ⟨a1, a2, ⟨a3, a4⟩, a5⟩ := a
  refine z_put a1 hk a3 hs hs9 (by omega) hv fun h' z gr => ?_
  have fr : ∀ r, 10000 ≤ r → Gp h h' r := fun r hr => gr.p (X4_n (by omega))
  refine kk h' ⟨z, a2.tr (PD_de d sk i v), ?_, fun r h1 h2 => (a5 r h1 h2).tr (fr r h1)⟩ fr
  rw [PD_f _ _ _ _ (by decide), PD_f _ _ _ _ (by decide)]
  exact ⟨a3, a4⟩
/-- from the kind's second letter on -/
theorem put_290 {fr x : Int} {a3 a8 : Value} {dk : Nat → Nat → Int} (a : LQ g M kc ku n 0 0 60 G h0 d0 d t h) (ah : AH N S W K (k + 1) G h) (hk : k < 6) (hK : ∀ j, K j ≤ 2) {at_ : Nat} (ea : at_ = ps K k + 3 + (if 0 < K k then 1 else 0)) (hkeep : ∀ p, p < ps K k → d 12 p = dk 12 p) (b : BTX S W K (dk 12) k) (sep : 0 < k → dk 12 (ps K k - 1) = 59) (c1 : d 12 (ps K k) = 103) (c2 : d 12 (ps K k + 1) = 48 + S k) (c3 : d 12 (ps K k + 2) = 48 + W k) (c4 : 0 < K k → d 12 (ps K k + 3) = 108)
    (kk : ∀ (h' : Hp) (d' : Nat → Nat → Int) (t' : Nat), LQ g M kc ku n 0 0 60 G h0 d0 d' t' h' → t' ≤ t + 1 → AH N S W K (k + 1) G h' → BTX S W K (d' 12) (k + 1) → R 89 43 [.ref 0, .ref 502, .int (I fr), a3, .ref G, .int (I x), .int (I (ps K (k + 1) - 1 : Nat)), .int (I (k + 1 : Nat)), a8] [] h' P) (hG : 10000 ≤ G) :
    R 89 290 [.ref 0, .ref 502, .int (I fr), a3, .ref G, .int (I x), .int (I (at_ : Nat)), .int (I (k : Nat)), a8] [] h P := by
  obtain ⟨⟨gt, gl⟩, g24, ga⟩ := id ah
  have e16 := (ga k (by omega)).2.2
  have k2 := hK k
  have pb := ps_bd hK k
  have ep : ps K (k + 1) - 1 = ps K k + 3 + K k := by rw [ps]; omega
  refine t_L_put_290 ?_
  rw [e16, gl]
  refine ⟨Or.inl gt, by omega, by omega, by omega, by omega, fun q => ⟨a.tg0, ?_⟩, fun q => t_L_put_321 ?_⟩
  · have kq : K k = 2 := by omega
    rw [if_pos (by omega)] at ea
    refine q_put (i := at_) a (by decide) (cut0 (by decide)) (by decide) (by omega) (by decide) fun h1 a1 f1 => t_L_put_314 ⟨by decide, fun _ => t_L_put_321 ?_, fun z => absurd rfl z⟩
    have z := kk h1 _ _ a1 (by omega) (ah.gp (f1 G hG)) (BTX.next (b.keep fun p hp => by rw [PD_o _ _ _ _ (by omega)]; exact hkeep p (by omega)) (fun z => by rw [PD_o _ _ _ _ (by omega), hkeep _ (by have : ps K 1 ≤ ps K k := ps_le z; rw [ps] at this; omega)]; exact sep z) (by rw [PD_o _ _ _ _ (by omega)]; exact c1) (by rw [PD_o _ _ _ _ (by omega)]; exact c2) (by rw [PD_o _ _ _ _ (by omega)]; exact c3) (fun z => by rw [PD_o _ _ _ _ (by omega)]; exact c4 z) (fun z => PD_at _ _ _ _ (by omega)))
    rw [ep, show ps K k + 3 + K k = at_ + 1 by omega] at z
    exact z
  · have ea2 : at_ = ps K k + 3 + K k := by
      by_cases c : 0 < K k
      · rw [if_pos c] at ea; omega
      · rw [if_neg c] at ea; omega
    have z := kk h _ _ a (by omega) ah (BTX.next (b.keep fun p hp => hkeep p (by omega)) (fun z => by rw [hkeep _ (by have : ps K 1 ≤ ps K k := ps_le z; rw [ps] at this; omega)]; exact sep z) c1 c2 c3 c4 (fun z => absurd z (by omega)))
    rw [ep, ← ea2] at z
    exact z
theorem put_200 {fr x : Int} {a3 a8 : Value} (a : LQ g M kc ku n 0 0 60 G h0 d0 d t h) (ah : AH N S W K (k + 1) G h) (hk : k < 6) (hK : ∀ j, K j ≤ 2) (hS : ∀ j, 1 ≤ S j ∧ S j ≤ 9) (hW : ∀ j, 1 ≤ W j ∧ W j ≤ 9) (b : BTX S W K (d 12) k) (sep : 0 < k → d 12 (ps K k - 1) = 59)
    (kk : ∀ (h' : Hp) (d' : Nat → Nat → Int) (t' : Nat), LQ g M kc ku n 0 0 60 G h0 d0 d' t' h' → t' ≤ t + 5 → AH N S W K (k + 1) G h' → BTX S W K (d' 12) (k + 1) → R 89 43 [.ref 0, .ref 502, .int (I fr), a3, .ref G, .int (I x), .int (I (ps K (k + 1) - 1 : Nat)), .int (I (k + 1 : Nat)), a8] [] h' P) (hG : 10000 ≤ G) :
    R 89 200 [.ref 0, .ref 502, .int (I fr), a3, .ref G, .int (I x), .int (I (ps K k : Nat)), .int (I (k : Nat)), a8] [] h P := by
  have k2 := hK k
  have sb := hS k
  have wb := hW k
  have pb := ps_bd hK k
  have z0 : ¬ ((1 : Int) = 1 → False) := fun z => z rfl
  refine t_L_put_200 ⟨a.tg0, q_put (i := ps K k) a (by decide) (cut0 (by decide)) (by decide) (by omega) (by decide) fun h1 a1 f1 => t_L_put_212 ⟨by decide, fun _ => ?_, fun z => absurd rfl z⟩⟩
  have ah1 := ah.gp (f1 G hG)
  obtain ⟨⟨gt1, gl1⟩, -, ga1⟩ := id ah1
  rw [gl1, (ga1 k (by omega)).1]
  refine ⟨Or.inl gt1, by omega, by omega, by omega, a1.tg0, q_put (i := ps K k + 1) a1 (by decide) (cut0 (by omega)) (by decide) (by omega) (by omega) fun h2 a2 f2 => t_L_put_234 ⟨by decide, fun _ => ?_, fun z => absurd rfl z⟩⟩
  have ah2 := ah1.gp (f2 G hG)
  obtain ⟨⟨gt2, gl2⟩, -, ga2⟩ := id ah2
  rw [gl2, (ga2 k (by omega)).2.1]
  refine ⟨Or.inl gt2, by omega, by omega, by omega, a2.tg0, q_put (i := ps K k + 1 + 1) a2 (by decide) (cut0 (by omega)) (by decide) (by omega) (by omega) fun h3 a3 f3 => t_L_put_259 ⟨by decide, fun _ => ?_, fun z => absurd rfl z⟩⟩
  have ah3 := ah2.gp (f3 G hG)
  obtain ⟨⟨gt3, gl3⟩, -, ga3⟩ := id ah3
  rw [gl3, (ga3 k (by omega)).2.2]
  have H0 : ∀ p, p < ps K k → PD (PD (PD d 0 (ps K k) 103) 0 (ps K k + 1) (48 + S k)) 0 (ps K k + 1 + 1) (48 + W k) 12 p = d 12 p := fun p hp => by rw [PD_o _ _ _ _ (by omega), PD_o _ _ _ _ (by omega), PD_o _ _ _ _ (by omega)]
  have H1 : PD (PD (PD d 0 (ps K k) 103) 0 (ps K k + 1) (48 + S k)) 0 (ps K k + 1 + 1) (48 + W k) 12 (ps K k) = 103 := by rw [PD_o _ _ _ _ (by omega), PD_o _ _ _ _ (by omega), PD_at _ _ _ _ (by omega)]
  have H2 : PD (PD (PD d 0 (ps K k) 103) 0 (ps K k + 1) (48 + S k)) 0 (ps K k + 1 + 1) (48 + W k) 12 (ps K k + 1) = 48 + S k := by rw [PD_o _ _ _ _ (by omega), PD_at _ _ _ _ (by omega)]
  have H3 : PD (PD (PD d 0 (ps K k) 103) 0 (ps K k + 1) (48 + S k)) 0 (ps K k + 1 + 1) (48 + W k) 12 (ps K k + 2) = 48 + W k := PD_at _ _ _ _ (by omega)
  generalize PD (PD (PD d 0 (ps K k) 103) 0 (ps K k + 1) (48 + S k)) 0 (ps K k + 1 + 1) (48 + W k) = d3 at *
  refine ⟨Or.inl gt3, by omega, by omega, by omega, by omega, fun q => ⟨a3.tg0, q_put (i := ps K k + 1 + 1 + 1) a3 (by decide) (cut0 (by decide)) (by decide) (by omega) (by decide) fun h4 a4 f4 => t_L_put_286 ⟨by decide, fun _ => ?_, fun z => absurd rfl z⟩⟩, fun q => ?_⟩
  · exact put_290 (at_ := ps K k + 1 + 1 + 1 + 1) a4 (ah3.gp (f4 G hG)) hk hK (by rw [if_pos (by omega)]) (fun p hp => by rw [PD_o _ _ _ _ (by omega)]; exact H0 p hp) b sep (by rw [PD_o _ _ _ _ (by omega)]; exact H1) (by rw [PD_o _ _ _ _ (by omega)]; exact H2) (by rw [PD_o _ _ _ _ (by omega)]; exact H3) (fun _ => PD_at _ _ _ _ (by omega)) (fun h' d' t' l1 l2 => kk h' d' t' l1 (by omega)) hG
  · exact put_290 (at_ := ps K k + 1 + 1 + 1) a3 ah3 hk hK (by rw [if_neg (by omega)]) H0 b sep H1 H2 H3 (fun z => absurd z (by omega)) (fun h' d' t' l1 l2 => kk h' d' t' l1 (by omega)) hG
end LAWBOX
/-- what the script says of the box -/
def gyv (g : Int → Int) (M : Nat) (k : Nat) : Int := shr (clv g M (((0 : Int) + 1) + ((k : Nat) : Int) % 3)) ((((k : Nat) : Int) / 3) * 9)
def gS (g : Int → Int) (M : Nat) (k : Nat) : Int := 1 + smv (gyv g M k) (if smv (shr (clv g M 0) 4) 2 = 0 then 9 else 4)
def gW (g : Int → Int) (M : Nat) (k : Nat) : Int := 1 + smv (shr (gyv g M k) 3) (if smv (shr (clv g M 0) 5) 2 = 0 then 9 else 3)
def gK (g : Int → Int) (M : Nat) (k : Nat) : Nat := if 2 < smv (shr (gyv g M k) 5) 4 then 2 else if smv (shr (gyv g M k) 5) 4 = 2 then 1 else 0
def gN (g : Int → Int) (M : Nat) : Nat := (2 + smv (clv g M 0) 5).toNat
theorem gS_bd (g : Int → Int) (M : Nat) (k : Nat) : 1 ≤ gS g M k ∧ gS g M k ≤ 9 := by
  unfold gS
  split
  · have := smv_bd (gyv g M k) (m := 9) (by decide); omega
  · have := smv_bd (gyv g M k) (m := 4) (by decide); omega
theorem gW_bd (g : Int → Int) (M : Nat) (k : Nat) : 1 ≤ gW g M k ∧ gW g M k ≤ 9 := by
  unfold gW
  split
  · have := smv_bd (shr (gyv g M k) 3) (m := 9) (by decide); omega
  · have := smv_bd (shr (gyv g M k) 3) (m := 3) (by decide); omega
theorem gK_bd (g : Int → Int) (M : Nat) (k : Nat) : gK g M k ≤ 2 := by
  unfold gK
  split
  · omega
  · split <;> omega
theorem gN_bd (g : Int → Int) (M : Nat) : (2 ≤ gN g M ∧ gN g M ≤ 6) ∧ (gN g M : Int) = 2 + smv (clv g M 0) 5 := by
  have := smv_bd (clv g M 0) (m := 5) (by decide)
  unfold gN
  omega
section PUTLOOP
variable {g : Int → Int} {M kc ku n G : Nat} {h0 : Hp} {d0 : Nat → Nat → Int} {P : Value → Hp → Prop}
theorem AH.set {N k : Nat} {S W : Nat → Int} {K : Nat → Nat} {h : Hp} (a : AH N S W K k G h) (hk : k < 6) {v1 v2 v3 : Int} (e1 : v1 = S k) (e2 : v2 = W k) (e3 : v3 = (K k : Nat)) : AH N S W K (k + 1) G (setI (setI (setI h G (k : Nat) v1) G (8 + (k : Nat)) v2) G (16 + (k : Nat)) v3) := by
  obtain ⟨⟨a1, a2⟩, a3, a4⟩ := a
  refine ⟨⟨a1, a2⟩, ?_, fun j hj => ?_⟩
  · rw [iv_nk (by omega), iv_nk (by omega), iv_nk (by omega)]; exact a3
  · by_cases c : j = k
    · rw [c]
      refine ⟨?_, ?_, ?_⟩
      · rw [iv_nk (by omega), iv_nk (by omega), iv_eq]; exact e1
      · rw [iv_nk (by omega), iv_eq]; exact e2
      · rw [iv_eq]; exact e3
    · rw [iv_nk (by omega), iv_nk (by omega), iv_nk (by omega), iv_nk (by omega), iv_nk (by omega), iv_nk (by omega), iv_nk (by omega), iv_nk (by omega), iv_nk (by omega)]
      exact a4 j (by omega)
theorem LQ.o {sk : Nat} {s m : Int} {d : Nat → Nat → Int} {t : Nat} {h h1 : Hp} (a : LQ g M kc ku n sk s m G h0 d0 d t h) (q : Fr (fun r => r == G) h h1) (hG : 10000 ≤ G) : LQ g M kc ku n sk s m G h0 d0 d t h1 := by
  obtain ⟨a1, a2, a3, a4⟩ := a
  exact ⟨a1.o q hG, a2, a3, fun r h1 h2 => (a4 r h1 h2).tr (q.gp1 h2)⟩
theorem put_loop (hM : M ≤ 260) (hG : 10000 ≤ G) {a3 : Value} {t0 : Nat} (kk : ∀ (h' : Hp) (d' : Nat → Nat → Int) (t' : Nat), LQ g M kc ku n 0 0 60 G h0 d0 d' t' h' → t' ≤ t0 + 36 → AH (gN g M) (gS g M) (gW g M) (gK g M) (gN g M) G h' → BTX (gS g M) (gW g M) (gK g M) (d' 12) (gN g M) → P (.int (I (ps (gK g M) (gN g M) - 1 : Nat))) h') : ∀ (r k : Nat) (h : Hp) (d : Nat → Nat → Int) (t : Nat) (a8 : Value), k + r = gN g M → LQ g M kc ku n 0 0 60 G h0 d0 d t h → t ≤ t0 + 6 * k → AH (gN g M) (gS g M) (gW g M) (gK g M) k G h → BTX (gS g M) (gW g M) (gK g M) (d 12) k →
    R 89 43 [.ref 0, .ref 502, .int (I 0), a3, .ref G, .int (I (clv g M 0)), .int (I (ps (gK g M) k - 1 : Nat)), .int (I (k : Nat)), a8] [] h P := by
  have nb := gN_bd g M
  intro r
  induction r with
  | zero =>
    intro k h d t a8 hk a ht ah b
    obtain ⟨⟨gt, gl⟩, g24, ga⟩ := id ah
    refine t_L_put_43 ?_
    rw [g24, gl]
    obtain rfl : k = gN g M := by omega
    exact ⟨Or.inl gt, by omega, by omega, by omega, by omega, fun q => absurd q (by omega), fun _ => kk h d t a (by omega) ah b⟩
  | succ r ih =>
    intro k h d t a8 hk a ht ah b
    obtain ⟨⟨gt, gl⟩, g24, ga⟩ := id ah
    have h60 : k < 6 := by omega
    have pb := ps_bd (gK_bd g M) k
    refine t_L_put_43 ?_
    rw [g24, gl]
    refine ⟨Or.inl gt, by omega, by omega, by omega, by omega, fun _ => ⟨by omega, s_cell a.1.sc hM ⟨by omega, by omega⟩ (t_L_put_65 ⟨by omega, s_some (by decide) ?_⟩)⟩, fun q => absurd (by omega) q⟩
    have fin : ∀ (v1 v2 v3 : Int) (hh : Hp), v1 = gS g M k → v2 = gW g M k → wr v3 = (gK g M k : Nat) → hh = setI (setI h G (k : Nat) v1) G (8 + (k : Nat)) v2 → R 89 178 [.ref 0, .ref 502, .int (I 0), a3, .ref G, .int (I (clv g M 0)), .int (I (ps (gK g M) k - 1 : Nat)), .int (I (k : Nat)), .int (I (gyv g M k))] [.int (I v3), .int (I (16 + (k : Nat))), .ref G] hh P := fun v1 v2 v3 hh e1 e2 e3 eh => by
      have ah1 := ah.set h60 e1 e2 e3
      have fr : Fr (fun r => r == G) h (setI (setI (setI h G (k : Nat) v1) G (8 + (k : Nat)) v2) G (16 + (k : Nat)) (wr v3)) := ((Fr.set (S := fun r => r == G) h _ _ (beq_self_eq_true G)).tr (Fr.set _ _ _ (beq_self_eq_true G))).tr (Fr.set _ _ _ (beq_self_eq_true G))
      have a1 := a.o fr hG
      subst eh
      refine t_L_put_178 ⟨gt, ?_, by omega, ?_, by omega, fun q => ⟨a1.tg0, ?_⟩, fun q => ?_⟩
      · show ((ln h G : Nat) : Int) ≤ _; omega
      · show _ < ((ln h G : Nat) : Int); omega
      · have q1 : ps (gK g M) 1 ≤ ps (gK g M) k := ps_le (by omega)
        rw [ps] at q1
        refine q_put (i := ps (gK g M) k - 1) a1 (by decide) (cut0 (by decide)) (by decide) (by omega) (by decide) fun h2 a2 f2 => t_L_put_196 ⟨by decide, fun _ => ?_, fun z => absurd rfl z⟩
        have z := put_200 (fr := 0) (x := clv g M 0) (a3 := a3) (a8 := .int (I (gyv g M k))) a2 (ah1.gp (f2 G hG)) h60 (gK_bd g M) (gS_bd g M) (gW_bd g M) (b.keep fun p hp => PD_o _ _ _ _ (by omega)) (fun _ => PD_at _ _ _ _ (by omega)) (fun h' d' t' l1 l2 l3 l4 => ih (k + 1) h' d' t' _ (by omega) l1 (by omega) l3 l4) hG
        rw [show ps (gK g M) k = ps (gK g M) k - 1 + 1 by omega] at z
        exact z
      · have k0 : k = 0 := by omega
        subst k0
        have z := put_200 (fr := 0) (x := clv g M 0) (a3 := a3) (a8 := .int (I (gyv g M 0))) a1 ah1 h60 (gK_bd g M) (gS_bd g M) (gW_bd g M) b (fun z => absurd z (by omega)) (fun h' d' t' l1 l2 l3 l4 => ih 1 h' d' t' _ (by omega) l1 (by omega) l3 l4) hG
        exact z
    have eS : wr (1 + smv (gyv g M k) (if smv (shr (clv g M 0) 4) 2 = 0 then 9 else 4)) = gS g M k := by
      have := gS_bd g M k
      unfold gS at this ⊢
      exact wr_eq (by omega)
    have eW : wr (1 + smv (shr (gyv g M k) 3) (if smv (shr (clv g M 0) 5) 2 = 0 then 9 else 3)) = gW g M k := by
      have := gW_bd g M k
      unfold gW at this ⊢
      exact wr_eq (by omega)
    have s1 := smv_bd (shr (clv g M 0) 4) (m := 2) (by decide)
    have s2 := smv_bd (shr (clv g M 0) 5) (m := 2) (by decide)
    have s3 := smv_bd (shr (gyv g M k) 5) (m := 4) (by decide)
    have p3 : ∀ hh, hh = setI (setI h G (k : Nat) (wr (1 + smv (gyv g M k) (if smv (shr (clv g M 0) 4) 2 = 0 then 9 else 4)))) G (8 + (k : Nat)) (wr (1 + smv (shr (gyv g M k) 3) (if smv (shr (clv g M 0) 5) 2 = 0 then 9 else 3))) → R 89 153 [.ref 0, .ref 502, .int (I 0), a3, .ref G, .int (I (clv g M 0)), .int (I (ps (gK g M) k - 1 : Nat)), .int (I (k : Nat)), .int (I (gyv g M k))] [.int (I (smv (shr (gyv g M k) 5) 4)), .int (I (16 + (k : Nat))), .ref G] hh P := fun hh eh => by
      have ek : gK g M k = if 2 < smv (shr (gyv g M k) 5) 4 then 2 else if smv (shr (gyv g M k) 5) 4 = 2 then 1 else 0 := rfl
      refine t_L_put_153 ⟨by omega, fun q => ?_, fun q => s_some (by decide) (t_L_put_169 ⟨by omega, fun q2 => ?_, fun q2 => ?_⟩)⟩
      · rw [if_pos q] at ek
        exact fin _ _ 2 hh eS eW (by rw [ek]; rfl) eh
      · rw [if_neg q, if_pos q2] at ek
        exact fin _ _ 1 hh eS eW (by rw [ek]; rfl) eh
      · rw [if_neg q, if_neg q2] at ek
        exact fin _ _ 0 hh eS eW (by rw [ek]; rfl) eh
    have p2 : ∀ (b2 : Int) (hh : Hp), b2 = (if smv (shr (clv g M 0) 5) 2 = 0 then 9 else 3) → hh = setI h G (k : Nat) (wr (1 + smv (gyv g M k) (if smv (shr (clv g M 0) 4) 2 = 0 then 9 else 4))) → R 89 133 [.ref 0, .ref 502, .int (I 0), a3, .ref G, .int (I (clv g M 0)), .int (I (ps (gK g M) k - 1 : Nat)), .int (I (k : Nat)), .int (I (gyv g M k))] [.int (I b2), .int (I (shr (gyv g M k) 3)), .int (I 1), .int (I (8 + (k : Nat))), .ref G] hh P := fun b2 hh e2 eh => by
      have hb : 0 < b2 ∧ b2 < 2147483648 := by rw [e2]; split <;> decide
      subst eh
      refine t_L_put_133 (s_some hb (t_L_put_136 ⟨gt, ?_, by omega, ?_, s_some (by decide) ?_⟩))
      · show ((ln h G : Nat) : Int) ≤ _; omega
      · show _ < ((ln h G : Nat) : Int); omega
      · rw [e2]
        exact p3 _ rfl
    have p1 : ∀ (b1 : Int), b1 = (if smv (shr (clv g M 0) 4) 2 = 0 then 9 else 4) → R 89 99 [.ref 0, .ref 502, .int (I 0), a3, .ref G, .int (I (clv g M 0)), .int (I (ps (gK g M) k - 1 : Nat)), .int (I (k : Nat)), .int (I (gyv g M k))] [.int (I b1), .int (I (gyv g M k)), .int (I 1), .int (I (k : Nat)), .ref G] h P := fun b1 e1 => by
      have hb : 0 < b1 ∧ b1 < 2147483648 := by rw [e1]; split <;> decide
      refine t_L_put_99 (s_some hb (t_L_put_102 ⟨gt, by omega, by omega, by omega, s_some (by decide) (t_L_put_124 ⟨by omega, fun q => ?_, fun q => ?_⟩)⟩))
      · exact p2 9 _ (by rw [if_pos q]) (by rw [e1])
      · exact p2 3 _ (by rw [if_neg q]) (by rw [e1])
    exact t_L_put_90 ⟨by omega, fun q => p1 9 (by rw [if_pos q]), fun q => p1 4 (by rw [if_neg q])⟩
theorem s_Lput (hM : M ≤ 260) {d : Nat → Nat → Int} {t : Nat} {h : Hp} (a : ZZ g M kc ku n d t h) (hG : 10000 ≤ G) (gt : tg h G = 20) (gl : ln h G = 25) (kk : ∀ (h' : Hp) (d' : Nat → Nat → Int) (t' : Nat), ZZ g M kc ku n d' t' h' → t' ≤ t + 37 → DE d d' → d' 10 0 = 0 → d' 11 0 = 60 → (∀ r, 10000 ≤ r → r ≠ G → Gp h h' r) → AH (gN g M) (gS g M) (gW g M) (gK g M) (gN g M) G h' → BTX (gS g M) (gW g M) (gK g M) (d' 12) (gN g M) → P (.int (I (ps (gK g M) (gN g M) - 1 : Nat))) h') :
    R 89 0 [.ref 0, .ref 502, .int (I 0), .int (I 6), .ref G, .retAddr 0, .retAddr 0, .retAddr 0, .retAddr 0] [] h P := by
  have nb := gN_bd g M
  refine t_L_put (s_cell a.sc hM (by decide) (t_L_put_5 (s_some (by decide) (t_L_put_20 ⟨gt, by omega, by decide, by omega, a.rx.S.t0, ?_⟩))))
  have fr : Fr (fun r => r == G) h (setI h G 24 (wr (2 + smv (clv g M 0) (6 - 1)))) := Fr.set (S := fun r => r == G) h _ _ (beq_self_eq_true G)
  have a1 := a.o fr hG
  refine z_sheet (k := 0) a1 (by decide) (by decide) (by decide) fun h1 z1 g1 => t_L_put_30 ⟨by decide, fun _ => ?_, fun z => absurd rfl z⟩
  have f1 : ∀ r, 10000 ≤ r → Gp (setI h G 24 (wr (2 + smv (clv g M 0) (6 - 1)))) h1 r := fun r hr => g1.p (X4_n (by omega))
  have ah : AH (gN g M) (gS g M) (gW g M) (gK g M) 0 G (setI h G 24 (wr (2 + smv (clv g M 0) (6 - 1)))) := ⟨⟨gt, gl⟩, by rw [iv_eq, nb.2]; exact wr_eq (by have := smv_bd (clv g M 0) (m := 5) (by decide); show rng (2 + smv (clv g M 0) 5); omega), fun j hj => absurd hj (Nat.not_lt_zero j)⟩
  refine put_loop (h0 := h) (d0 := d) (t0 := t + 1) hM hG (fun h' d' t' l1 l2 l3 l4 => kk h' d' t' l1.1 (by omega) l1.2.1 l1.2.2.1.1 l1.2.2.1.2 l1.2.2.2 l3 l4) (gN g M) 0 h1 _ (t + 1) _ (by omega) ⟨z1, sht_de d 0 0 60, ⟨sht_10 _ _ _ _, sht_11 _ _ _ _⟩, fun r h1' h2 => (fr.gp1 h2).tr (f1 r h1')⟩ (by omega) (ah.gp (f1 G hG)) fun j hj => absurd hj (Nat.not_lt_zero j)
end PUTLOOP
