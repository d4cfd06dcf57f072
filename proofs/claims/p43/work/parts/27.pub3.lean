/-! The calls of the class: causes, turns, where a lie goes. -/
section PUB3
variable {n : Nat} {d : Nat → Nat → Int} {h : Hp} {P : Value → Hp → Prop}
theorem s_use (x : RX n d h) {l : Int} (hl : rng l) (k1 : (l < 0 ∨ d 0 3 ≤ l) → P (.int (I (-1))) h) (k0 : (0 ≤ l ∧ l < d 0 3) → ∀ h', KX n (up d 0 4 l) h h' → P (.int (I (d 0 4))) h') : R 47 0 [.ref 0, .int (I l), .retAddr 0] [] h P := by
  obtain ⟨⟨b1, b2, b3, b4, b5, b6, b7, b8⟩, cr, g, gg, gb, nb, ls, lw⟩ := id x.1
  refine t_X_use x.S ?_
  rw [ls.2.2.1, ls.2.2.2.1, wr_eq hl]
  refine ⟨hl, fun c => k1 (Or.inl c), fun c => ⟨hl, by omega, fun c2 => k0 (by omega) _ ?_, fun c2 => k1 (by omega)⟩⟩
  have a : Fr (fun r => r == 0) h (setI h 0 3 l) := Fr.set h _ _ rfl
  have s : ∀ r, r ≠ 0 → (fun r : Nat => r == 0) r = false := fun r hr => by simpa using hr
  have e0 : ∀ f, 1 ≤ f → f ≤ 7 → up d 0 4 l f = d f := fun f h1 _ => up_f (by omega)
  have hrb : RB n (up d 0 4 l) (setI h 0 3 l) := by
    have hc := chg_cg (d := d) (d' := up d 0 4 l) e0
    refine ⟨⟨a.x b1, b2, by rw [a.i (s 1 (by omega))]; exact b3, by rw [a.i (s 1 (by omega))]; exact b4, fun k hk => by rw [a.i (s 500 (by omega))]; exact b5 k hk, fun k hk => by rw [a.i (s 501 (by omega))]; exact b6 k hk, b7, b8⟩, fun i hi => by rw [a.i (s 3 (by omega))]; exact cr i hi, fun r hr => g r hr, ?_, ?_, by rw [a.i (s 1 (by omega))]; exact nb, ?_, fun l2 hl2 => ?_⟩
    · have := gg.fr a fun g hg => s _ (by omega)
      unfold GG GR blk hft at this ⊢
      rw [e0 1 (by decide) (by decide), e0 2 (by decide) (by decide), e0 3 (by decide) (by decide)]
      exact this
    · unfold GB at gb ⊢
      rw [e0 1 (by decide) (by decide), e0 2 (by decide) (by decide), e0 3 (by decide) (by decide)]
      exact gb
    · rw [up_ne (by omega), up_at, iv_nk (by decide), iv_eq]
      omega
    · rw [up_ne (by omega)] at hl2
      obtain ⟨l1, l2', l3, l4⟩ := lw l2 hl2
      have h4 : l2 < 4 := by omega
      have r1 := l2'.fr a fun c hc => s _ (by omega)
      have r2 : ∀ j, j < 3 → MC n d l2 j (setI h 0 3 l) ∧ okln (ln h (64 * (l2 + 1) + 19 + 4 * j)) := fun j hj => ⟨(l4 j hj).1.gr h4 hj a.g (s 1 (by omega)) fun k hk => s _ (by omega), (l4 j hj).2⟩
      unfold LW LB MC at *
      simp only [hc]
      rw [e0 4 (by decide) (by decide), e0 5 (by decide) (by decide), e0 6 (by decide) (by decide), e0 7 (by decide) (by decide)]
      exact ⟨l1, r1, l3, r2⟩
  have hro : RO n (up d 0 4 l) (setI h 0 3 l) := by
    obtain ⟨o1, o2, o3, o4, o5, o6, o7⟩ := x.2
    refine ⟨?_, ?_, ?_, ?_, ?_, fun r hr h8 => ?_, fun k hk => ?_⟩
    · rw [up_ne (by omega), iv_nk (by decide)]; exact o1
    · rw [up_ne (by omega), iv_nk (by decide)]; exact o2
    · rw [up_ne (by omega), iv_nk (by decide)]; exact o3
    · rw [up_ne (by omega), iv_ne (by decide)]; exact o4
    · rw [up_ne (by omega), iv_nk (by decide)]; exact o5
    · rw [up_ne (by omega)] at hr
      rw [up_ne (by omega), up_ne (by omega), iv_ne (by omega), iv_ne (by omega)]
      exact o6 r hr h8
    · rw [up_ne (by omega), up_ne (by omega), iv_ne (by omega), iv_ne (by omega), iv_ne (by omega)]
      obtain ⟨c1, c2, c3, c4, c5, c6⟩ := o7 k hk
      refine ⟨c1, c2, c3, c4, c5, fun i hi => ?_⟩
      rw [up_ne (by omega), iv_ne (by omega)]
      exact c6 i hi
  exact ⟨⟨hrb, hro⟩, a.g.x4 fun r hr => s r (by omega), a.co, a.i (s 1 (by omega)) 3⟩
def ofCA (d : Nat → Nat → Int) (l c what : Int) : Int := if l < 0 ∨ d 0 3 ≤ l ∨ c < 0 ∨ d 4 l.toNat ≤ c then -1 else if what = 0 then d 5 (6 * l.toNat + c.toNat) else if what = 1 then d 6 (6 * l.toNat + c.toNat) else if what = 2 then d 7 (6 * l.toNat + c.toNat) else -2
noncomputable def causeA (n : Nat) (d : Nat → Nat → Int) (x y p hard : Int) : Int := if x < 0 ∨ (n : Int) ≤ x ∨ y < 0 ∨ (n : Int) ≤ y then -1 else if x = y ∨ p < 0 ∨ (n : Int) - 2 < p ∨ hard < 1 ∨ 3 < hard then -2 else if d 0 3 = 0 then -3 else rul d (d 0 4).toNat x.toNat y.toNat p hard (-9)
theorem s_cause (r : RX n d h) {x y p hd : Int} (hx : rng x) (hy : rng y) (hp : rng p) (hh : rng hd) (k : P (.int (I (causeA n d x y p hd))) h) : R 48 0 [.ref 0, .int (I x), .int (I y), .int (I p), .int (I hd), .retAddr 0] [] h P := by
  obtain ⟨⟨b1, b2, b3, b4, b5, b6, b7, b8⟩, c, g, gg, gb, nb, ls, lw⟩ := id r.1
  have hn := r.n7
  unfold causeA at k
  refine t_X_cause r.S (s_noGrain r hx (fun c => ?_) (fun c => ?_))
  · rw [if_pos (by omega)] at k
    exact t_X_cause_5 r.S ⟨by decide, fun q => absurd q (by decide), fun _ => k⟩
  · refine t_X_cause_5 r.S ⟨by decide, fun _ => s_noGrain r hy (fun c2 => ?_) (fun c2 => ?_), fun q => absurd rfl q⟩
    · rw [if_pos (by omega)] at k
      exact t_X_cause_13 r.S ⟨by decide, fun q => absurd q (by decide), fun _ => k⟩
    · rw [if_neg (by omega)] at k
      refine t_X_cause_13 r.S ?_
      rw [b3]
      refine ⟨by decide, fun _ => ⟨hx, hy, fun e => ?_, fun e => ⟨hp, fun e2 => ?_, fun e2 => ⟨hp, by omega, fun e3 => ?_, fun e3 => s_noHard hh (fun e4 => ?_) (fun e4 => ?_)⟩⟩⟩, fun q => absurd rfl q⟩
      · rw [if_pos (by omega)] at k; exact k
      · rw [if_pos (by omega)] at k; exact k
      · rw [if_pos (by omega)] at k; exact k
      · rw [if_pos (by omega)] at k
        exact t_X_cause_45 r.S ⟨by decide, fun q => absurd q (by decide), fun _ => k⟩
      · rw [if_neg (by omega)] at k
        refine t_X_cause_45 r.S ⟨by decide, fun _ => s_lawInForce r (fun e5 => ?_) (fun l e5 e6 => ?_), fun q => absurd rfl q⟩
        · rw [if_pos e5] at k
          exact t_X_cause_55b r.S k
        · rw [if_neg (by omega)] at k
          have el : (d 0 4).toNat = l := by omega
          rw [el] at k
          obtain ⟨l1, l2, l3, l4⟩ := lw l e6
          obtain ⟨x1, x2⟩ := gg x.toNat (by omega)
          obtain ⟨y1, y2⟩ := gg y.toNat (by omega)
          have tx := x2.1
          have ty := y2.1
          refine t_X_cause_55 r.S ?_
          rw [child2 (by omega), child2 (by omega)]
          refine ⟨by omega, by omega, x1, by omega, by omega, by omega, y1, by omega, l2.1.1, ?_⟩
          exact s_ruling (n := n) (by omega) l2 l3 hp hh (by decide) x2 y2 gb (by omega) (by omega) (t_X_cause_93 r.S k)
def valA (n : Nat) (d : Nat → Nat → Int) (lie : Nat) (what : Int) : Int := if what = 0 then mxv (d 1) n (rw_ n lie) else ptv (d 1) n (rw_ n lie)
/-- the lie turned, spooned -/
def trl (n lie : Nat) : Nat := cl n (trn n (rw_ n lie))
def spl (n lie : Nat) : Nat := cl n (spn n (rw_ n lie))
theorem s_turned (x : RX n d h) {l : Int} (hl : 0 ≤ l ∧ l < lies n) (k : ∀ h', KX n d h h' → trl n l.toNat < fct n → P (.int (I (trl n l.toNat : Nat))) h') : R 68 0 [.ref 0, .int (I l)] [] h P := by
  refine t_X_turned x.S (s_row x hl fun h1 k1 b1 r1 => ?_)
  have hn := b1.2.1
  have o := (r1.step hn).2.1
  exact t_X_turned_16 b1.1 (s_turnedRow b1 (r1.lt hn) (t_X_turned_19 b1.1 (s_lieOf b1 o (t_X_turned_22 b1.1 (k h1 k1 (o.cl hn).1)))))
theorem s_spooned (x : RX n d h) {l : Int} (hl : 0 ≤ l ∧ l < lies n) (k : ∀ h', KX n d h h' → spl n l.toNat < fct n → P (.int (I (spl n l.toNat : Nat))) h') : R 71 0 [.ref 0, .int (I l)] [] h P := by
  refine t_X_spooned x.S (s_row x hl fun h1 k1 b1 r1 => ?_)
  have hn := b1.2.1
  have o := (r1.step hn).2.2
  exact t_X_spooned_16 b1.1 (s_spoonedRow b1 (r1.lt hn) (t_X_spooned_19 b1.1 (s_lieOf b1 o (t_X_spooned_22 b1.1 (k h1 k1 (o.cl hn).1)))))
theorem s_turn (x : RX n d h) (k1 : n = 0 → P (.int (I (-3))) h) (k0 : 2 ≤ n → ∀ h', KX n (up d 0 1 (trl n (d 0 1).toNat : Nat)) h h' → P (.int (I (trl n (d 0 1).toNat : Nat))) h') : R 67 0 [.ref 0] [] h P := by
  have hn := x.n7
  refine t_X_turn x.S (s_noBox x (fun c => ?_) (fun c => ?_))
  · exact t_X_turn_4 x.S ⟨by decide, fun q => absurd q (by decide), fun _ => k1 c⟩
  · refine t_X_turn_4 x.S ⟨by decide, fun _ => ?_, fun q => absurd rfl q⟩
    rw [x.2.1.1]
    refine s_turned x (x.ln_ c) fun h1 k1 tl => t_X_turn_19 k1.1.S ?_
    have f5 := fct_le (k := n) (by omega)
    rw [iv_eq, wr_eq (by omega)]
    refine k0 c _ (k1.tr (k1.1.lay ?_))
    rw [lies_pos c]
    omega
theorem s_spoon (x : RX n d h) (k1 : n = 0 → P (.int (I (-3))) h) (k0 : 2 ≤ n → ∀ h', KX n (up d 0 1 (spl n (d 0 1).toNat : Nat)) h h' → P (.int (I (dg (rw_ n (d 0 1).toNat) 0 : Nat))) h') : R 70 0 [.ref 0, .retAddr 0] [] h P := by
  have hn := x.n7
  refine t_X_spoon x.S (s_noBox x (fun c => ?_) (fun c => ?_))
  · exact t_X_spoon_4 x.S ⟨by decide, fun q => absurd q (by decide), fun _ => k1 c⟩
  · refine t_X_spoon_4 x.S ⟨by decide, fun _ => ?_, fun q => absurd rfl q⟩
    rw [x.2.1.1]
    refine s_row x (x.ln_ c) fun h1 k1 b1 r1 => ?_
    refine t_X_spoon_21 b1.1 (s_grainIn (p := 0) (r1.lt b1.2.1) (by omega) (t_X_spoon_25 b1.1 ?_))
    rw [k1.1.2.1.1]
    refine s_spooned k1.1 (k1.1.ln_ c) fun h2 k2 tl => t_X_spoon_35 k2.1.S ?_
    have f5 := fct_le (k := n) (by omega)
    rw [wr_eq (by omega)]
    refine k0 c _ ((k1.tr k2).tr (k2.1.lay ?_))
    rw [lies_pos c]
    omega
/-- the motion of a law, known -/
theorem s_motion (x : RX n d h) (hn : 2 ≤ n) {l : Nat} (hl : (l : Int) < d 0 3) {hd : Int} (hh : 1 ≤ hd ∧ hd ≤ 3) (k : ∀ h', KX n d h h' → MF l (hd.toNat - 1) h' → Gr (SM l (hd.toNat - 1)) h h' → P (.ref (64 * (l + 1) + 16 + 4 * (hd.toNat - 1))) h') : R 55 0 [.ref 0, .ref (64 * (l + 1)), .int (I hd), .retAddr 0] [] h P := by
  have l4 : l < 4 := by have := x.1.2.2.2.2.2.2.1.2.1; omega
  have e : hd = ((hd.toNat - 1 + 1 : Nat) : Int) := by omega
  have z := s_motionOf (P := P) (j := hd.toNat - 1) hn x.1 hl (by omega) fun h1 rb gr tf co mf => k h1 (x.sc rb gr (fun r hr => ?_) co) mf gr
  · rw [← e] at z; exact z
  · simp only [SM, Bool.or_eq_true, Bool.and_eq_true, beq_iff_eq, Nat.ble_eq] at hr
    omega
/-- where a lie goes -/
theorem s_go (x : RX n d h) (hn : 2 ≤ n) {l j : Nat} (hl : (l : Int) < d 0 3) (hj : j < 3) (mf : MF l j h) {lie : Nat} (hlie : lie < fct n) (k : ∀ h', KX n d h h' → MF l j h' → Fr (SA l j) h h' → P (.int (I (nxt d n l j lie : Nat))) h') : R 74 0 [.ref (64 * (l + 1) + 16 + 4 * j), .ref 1, .int (I (lie : Nat))] [] h P := by
  have l4 : l < 4 := by have := x.1.2.2.2.2.2.2.1.2.1; omega
  refine s_after hn x.1 hl hj mf hlie fun h1 rb fr mf1 => k h1 (x.sc rb fr.g (fun r hr => ?_) fr.co) mf1 fr
  simp only [SA, Bool.or_eq_true, beq_iff_eq] at hr
  omega
noncomputable def nextA (n : Nat) (d : Nat → Nat → Int) (l hd : Int) : Int := if l < 0 ∨ (lies n : Int) ≤ l then -1 else if hd < 1 ∨ 3 < hd then -2 else if d 0 3 = 0 then -3 else (nxt d n (d 0 4).toNat (hd.toNat - 1) l.toNat : Nat)
theorem lie_n {n : Nat} {l : Int} (h7 : n = 0 ∨ (2 ≤ n ∧ n ≤ 7)) (hl : 0 ≤ l ∧ l < lies n) : 2 ≤ n := by
  rcases h7 with e | e
  · rw [e] at hl
    unfold lies at hl
    simp at hl
    omega
  · exact e.1
theorem s_next (x : RX n d h) {l hd : Int} (hl : rng l) (hh : rng hd) (k : ∀ h', KX n d h h' → P (.int (I (nextA n d l hd))) h') : R 73 0 [.ref 0, .int (I l), .int (I hd), .retAddr 0] [] h P := by
  unfold nextA at k
  refine t_X_next x.S (s_noLie x hl (fun c => ?_) (fun c => ?_))
  · rw [if_pos c] at k
    exact t_X_next_5 x.S ⟨by decide, fun q => absurd q (by decide), fun _ => k h (KX.rf x)⟩
  · rw [if_neg (by omega)] at k
    refine t_X_next_5 x.S ⟨by decide, fun _ => s_noHard hh (fun c2 => ?_) (fun c2 => ?_), fun q => absurd rfl q⟩
    · rw [if_pos c2] at k
      exact t_X_next_14 x.S ⟨by decide, fun q => absurd q (by decide), fun _ => k h (KX.rf x)⟩
    · rw [if_neg (by omega)] at k
      refine t_X_next_14 x.S ⟨by decide, fun _ => s_lawInForce x (fun c3 => ?_) (fun l2 c3 c4 => ?_), fun q => absurd rfl q⟩
      · rw [if_pos c3] at k
        exact t_X_next_24b x.S (k h (KX.rf x))
      · rw [if_neg (by omega)] at k
        have hn := lie_n x.n7 c
        have l4 : l2 < 4 := by have := x.1.2.2.2.2.2.2.1.2.1; omega
        have el : (d 0 4).toNat = l2 := by omega
        rw [el] at k
        refine t_X_next_24 x.S ⟨okg_i rfl rfl rfl rfl ?_, s_motion x hn c4 c2 fun h1 k1 mf _ => ?_⟩
        · simp only [ng, List.all_cons, List.all_nil, ngv, gwl l4, Bool.not_false, Bool.and_true]
          rfl
        rw [lies_pos hn] at c
        have e : l = (l.toNat : Nat) := by omega
        have hm := (k1.1.1.2.2.2.2.2.2.2 l2 c4).2.1.2.2 (hd.toNat - 1) (by omega)
        refine t_X_next_38 k1.1.S ⟨hm.2.1, ?_⟩
        rw [e]
        exact s_go k1.1 hn c4 (by omega) mf (by omega) fun h2 k2 _ _ => t_X_next_46 k2.1.S (k h2 (k1.tr k2))
end PUB3
