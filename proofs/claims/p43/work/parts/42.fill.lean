/-! A box is filled. -/
def G6 (h : Hp) (t : Nat) (p0 p1 p2 p3 p4 p5 : Int) : Hp := setI (setI (setI (setI (setI (setI (mk h 37 t 0 6) 37 0 p0) 37 1 p1) 37 2 p2) 37 3 p3) 37 4 p4) 37 5 p5
theorem fl_setI (h : Hp) (r : Nat) (k v : Int) (q j : Nat) : fl (setI h r k v) q j = fl h q j := rfl
theorem ln_setI (h : Hp) (r : Nat) (k v : Int) (q : Nat) : ln (setI h r k v) q = ln h q := rfl
section FILL
variable {P : Value → Hp → Prop} {h : Hp}
theorem G6_i {t : Nat} {p0 p1 p2 p3 p4 p5 : Int} : iv (G6 h t p0 p1 p2 p3 p4 p5) 37 0 = p0 ∧ iv (G6 h t p0 p1 p2 p3 p4 p5) 37 1 = p1 ∧ iv (G6 h t p0 p1 p2 p3 p4 p5) 37 2 = p2 ∧ iv (G6 h t p0 p1 p2 p3 p4 p5) 37 3 = p3 ∧ iv (G6 h t p0 p1 p2 p3 p4 p5) 37 4 = p4 ∧ iv (G6 h t p0 p1 p2 p3 p4 p5) 37 5 = p5 := by
  unfold G6
  refine ⟨?_, ?_, ?_, ?_, ?_, iv_eq _ _ _ _⟩
  · rw [iv_nk (by decide), iv_nk (by decide), iv_nk (by decide), iv_nk (by decide), iv_nk (by decide), iv_eq]
  · rw [iv_nk (by decide), iv_nk (by decide), iv_nk (by decide), iv_nk (by decide), iv_eq]
  · rw [iv_nk (by decide), iv_nk (by decide), iv_nk (by decide), iv_eq]
  · rw [iv_nk (by decide), iv_nk (by decide), iv_eq]
  · rw [iv_nk (by decide), iv_eq]
theorem G6_g (t : Nat) (p0 p1 p2 p3 p4 p5 : Int) : Gr (fun r => r == 37) h (G6 h t p0 p1 p2 p3 p4 p5) :=
  ((((((Gr.mk1 t 0 6 rfl).tr (Gr.setI1 _ _ rfl)).tr (Gr.setI1 _ _ rfl)).tr (Gr.setI1 _ _ rfl)).tr (Gr.setI1 _ _ rfl)).tr (Gr.setI1 _ _ rfl)).tr (Gr.setI1 _ _ rfl)
theorem s_g6 {t : Nat} (ht : t = 3 ∨ t = 5 ∨ t = 7) {p0 p1 p2 p3 p4 p5 : Int} (r0 : rng p0) (r1 : rng p1) (r2 : rng p2) (r3 : rng p3) (r4 : rng p4) (r5 : rng p5) (kk : P .null (G6 h t p0 p1 p2 p3 p4 p5)) : R 19 0 [.ref 37, .int (I p0), .int (I p1), .int (I p2), .int (I p3), .int (I p4), .int (I p5)] [] (mk h 37 t 0 6) P := by
  have tk : tagok 2 (tg (mk h 37 t 0 6) 37) = true := by rw [tg_mk, if_pos rfl]; exact tok2 ht
  refine t_Grain_init_6 ?_
  rw [wr_eq r0, wr_eq r1, wr_eq r2, wr_eq r3, wr_eq r4, wr_eq r5]
  exact ⟨tk, tk, tk, tk, tk, tk, kk⟩
theorem s_grainOf (t37 : tg h 37 = 0) {g kind sz wt : Int} (hg : 0 ≤ g ∧ g < 7) (hk : 0 ≤ kind ∧ kind ≤ 2) (hs : 1 ≤ sz ∧ sz ≤ 9) (hw : 1 ≤ wt ∧ wt ≤ 9) (kk : ∀ (t : Nat) (b f : Int), ((t = 3 ∧ kind = 0) ∨ (t = 5 ∧ kind = 1) ∨ (t = 7 ∧ kind = 2)) → b = (if 0 < kind then sz - 1 else sz) → f = (if kind = 2 then wt + 2 else wt) → P (.ref 37) (G6 h t g kind sz wt b f)) :
    R 17 0 [.int (I g), .int (I kind), .int (I sz), .int (I wt)] [] h P := by
  refine t_Box_grainOf ⟨by omega, fun c => ⟨t37, t_Grain_init (s_g6 (by decide) (by omega) (by omega) (by omega) (by omega) (by omega) (by omega) (t_Grain_init_10 (t_Box_grainOf_14 ?_)))⟩, fun c => ⟨by omega, fun c2 => ⟨t37, t_Long_init (s_g6 (by decide) (by omega) (by omega) (by omega) (by omega) (by omega) (by omega) (t_Long_init_12 (t_Box_grainOf_30 ?_)))⟩, fun c2 => ⟨t37, t_Oily_init (t_Long_init_5 (s_g6 (by decide) (by omega) (by omega) (by omega) (by omega) (by omega) (by omega) (t_Long_init_5_14 (t_Oily_init_11 (t_Box_grainOf_43 ?_)))))⟩⟩⟩
  · have := kk 3 sz wt (by omega) (by rw [if_neg (by omega)]) (by rw [if_neg (by omega)])
    rw [c] at this
    exact this
  · have := kk 5 (sz - 1) wt (by omega) (by rw [if_pos (by omega)]) (by rw [if_neg (by omega)])
    rw [c2] at this
    exact this
  · have e : kind = 2 := by omega
    have := kk 7 (sz - 1) (wt + 2) (by omega) (by rw [if_pos (by omega)]) (by rw [if_pos (by omega)])
    rw [e] at this
    exact this
/-- the numbers told by the text -/
def bxD (d : Nat → Nat → Int) (H : Nat → Int) (m : Nat) : Nat → Nat → Int := fun f i => if f = 0 ∧ (i = 1 ∨ i = 2 ∨ i = 5) then 0 else if f = 1 then H (gpo H m i + 1) - 48 else if f = 2 then H (gpo H m i + 2) - 48 else if f = 3 then (kd H m (gpo H m i + 3) : Nat) else d f i
/-- while it is filled -/
def FS (h : Hp) (d' : Nat → Nat → Int) (g : Nat) (hf : Hp) : Prop := (∀ r, r ≠ 1 → ¬ (30 ≤ r ∧ r ≤ 37) → Gp h hf r) ∧ (tg hf 1 = tg h 1 ∧ (∀ k, k ≠ 1 → iv hf 1 k = iv h 1 k) ∧ iv hf 1 1 = (g : Nat) ∧ ∀ k, fl h 1 k = true → fl hf 1 k = true) ∧ tg hf 37 = 0 ∧ XS hf ∧ (ck hf = ck h + g ∧ cu hf = cu h + 6 * g) ∧ (∀ j, j < g → fl hf 2 j = true ∧ GR d' j hf (30 + j)) ∧ Gr X4 h hf
theorem GR.gp {d : Nat → Nat → Int} {g r : Nat} {h h1 : Hp} (w : GR d g h r) (a : Gp h h1 r) : GR d g h1 r := by
  unfold GR at *
  rw [a.1, a.2.2.1, a.2.2.1, a.2.2.1, a.2.2.1, a.2.2.1, a.2.2.1]
  exact w
theorem fill_step {d' : Nat → Nat → Int} {g : Nat} {hf : Hp} (hg : g < 7) (fs : FS h d' g hf) {t : Nat} {kind sz wt b f : Int} (ht : (t = 3 ∧ kind = 0) ∨ (t = 5 ∧ kind = 1) ∨ (t = 7 ∧ kind = 2)) (hb : b = (if 0 < kind then sz - 1 else sz)) (hf' : f = (if kind = 2 then wt + 2 else wt)) (d1 : d' 1 g = sz) (d2 : d' 2 g = wt) (d3 : d' 3 g = kind) :
    FS h d' (g + 1) (setI (mov (G6 hf t (g : Nat) kind sz wt b f) 2 g (30 + g) 37) 1 1 ((g : Int) + 1)) := by
  obtain ⟨f1, ⟨r1, r2, r3, r4⟩, f3, f4, f5, f6, f7⟩ := fs
  have gg := G6_g (h := hf) t (g : Nat) kind sz wt b f
  have g37 : ∀ r, r ≠ 37 → (fun r : Nat => r == 37) r = false := fun r hr => by simpa using hr
  have A : ∀ r, r ≠ 37 → r ≠ 30 + g → Gp hf (mov (G6 hf t (g : Nat) kind sz wt b f) 2 g (30 + g) 37) r := fun r h1 h2 => (gg.p (g37 r h1)).tr (Gp.mov h2 h1)
  have B : ∀ r, r ≠ 37 → r ≠ 30 + g → r ≠ 1 → Gp hf (setI (mov (G6 hf t (g : Nat) kind sz wt b f) 2 g (30 + g) 37) 1 1 ((g : Int) + 1)) r := fun r h1 h2 h3 => (A r h1 h2).tr (Gp.setI _ _ h3)
  obtain ⟨i0, i1, i2, i3, i4, i5⟩ := G6_i (h := hf) (t := t) (p0 := (g : Nat)) (p1 := kind) (p2 := sz) (p3 := wt) (p4 := b) (p5 := f)
  have m1 := A 1 (by decide) (by omega)
  refine ⟨fun r h1 h2 => (f1 r h1 h2).tr (B r (by omega) (by omega) h1), ⟨m1.1.trans r1, fun k hk => ?_, iv_eq _ _ _ _, fun k q => m1.2.2.2 k (r4 k q)⟩, ?_, f4.gp fun r hr => ?_, ?_, fun j hj => ?_, ?_⟩
  · rw [iv_nk (by omega), m1.2.2.1, r2 k hk]
  · rw [tg_setI, tg_mov, if_pos rfl]
  · have q := A r (by omega) (by omega)
    exact ⟨q.1, q.2.2.2, fun _ => q.2.1⟩
  · show ck hf + 1 = _ ∧ cu hf + 6 = _
    omega
  · by_cases e : j = g
    · subst e
      have mi : ∀ k, iv (setI (mov (G6 hf t (j : Nat) kind sz wt b f) 2 j (30 + j) 37) 1 1 ((j : Int) + 1)) (30 + j) k = iv (G6 hf t (j : Nat) kind sz wt b f) 37 k := fun k => by rw [iv_ne (by omega), iv_mov, if_pos rfl]
      refine ⟨?_, ?_⟩
      · rw [fl_setI, fl_mov, if_pos ⟨rfl, rfl⟩]
      · have mt : tg (setI (mov (G6 hf t (j : Nat) kind sz wt b f) 2 j (30 + j) 37) 1 1 ((j : Int) + 1)) (30 + j) = t := by
          rw [tg_setI, tg_mov, if_neg (by omega), if_pos rfl]
          rfl
        unfold GR
        rw [mi, mi, mi, mi, mi, mi, i0, i1, i2, i3, i4, i5, mt, d3, d1, d2]
        unfold blk hft
        rw [d3, d1, d2]
        exact ⟨ht, rfl, rfl, rfl, rfl, hb, hf'⟩
    · obtain ⟨q1, q2⟩ := f6 j (by omega)
      exact ⟨(B 2 (by decide) (by omega) (by decide)).2.2.2 _ q1, q2.gp (B _ (by omega) (by omega) (by omega))⟩
  · refine (f7.tr (gg.x4 fun r hr => g37 r (by omega))).tr fun r hr => ?_
    have h4 := X4_lt hr
    refine ⟨?_, ?_, fun k => ?_, fun k => ?_⟩
    · rw [tg_setI, tg_mov, if_neg (by omega), if_neg (by omega)]
    · rw [ln_setI, ln_mov, if_neg (by omega)]
    · rw [iv_ne (by omega), iv_mov, if_neg (by omega)]
    · rw [fl_setI, fl_mov, if_neg (by omega), if_neg (by omega)]
theorem fill_loop {d' : Nat → Nat → Int} {H : Nat → Int} {k i m N : Nat} {a4 : Int} (hk : k < 4) (gt : GT H m N) (t12 : tg h (12 + k) = 20) (l12 : ln h (12 + k) = 60) (him : i + m ≤ 60) (hv : ∀ p, p < m → iv h (12 + k) ((i : Int) + (p : Nat)) = H p ∧ rng (H p)) (d1 : ∀ g, g < N → d' 1 g = H (gpo H m g + 1) - 48) (d2 : ∀ g, g < N → d' 2 g = H (gpo H m g + 2) - 48) (d3 : ∀ g, g < N → d' 3 g = (kd H m (gpo H m g + 3) : Nat))
    (kk : ∀ hf a6, ngv a6 = true → FS h d' N hf → R 15 14 [.ref 1, .ref (12 + k), .int (I (i : Nat)), .int (I (m : Nat)), .int (I a4), .int (I ((i : Int) + (m : Nat) + 1)), a6] [] hf P) : ∀ (r g : Nat) (hf : Hp) (a6 : Value), g + r = N → ngv a6 = true → FS h d' g hf →
    R 15 14 [.ref 1, .ref (12 + k), .int (I (i : Nat)), .int (I (m : Nat)), .int (I a4), .int (I ((i : Int) + (gpo H m g : Nat))), a6] [] hf P := by
  intro r
  induction r with
  | zero =>
    intro g hf a6 hg h6 fs
    have e : g = N := by omega
    subst e
    rw [gt.2.1, show (i : Int) + ((m + 1 : Nat) : Int) = (i : Int) + (m : Nat) + 1 by omega]
    exact kk hf a6 h6 fs
  | succ r ih =>
    intro g hf a6 hg h6 fs
    obtain ⟨f1, ⟨r1, r2, r3, r4⟩, f3, f4, f5, f6, f7⟩ := id fs
    have hN := gt.1
    obtain ⟨p1, ⟨p2, p3⟩, p4, p5⟩ := gt.2.2 g (by omega)
    have g12 := f1 (12 + k) (by omega) (by omega)
    have hv' : ∀ p, p < m → iv hf (12 + k) ((i : Int) + (p : Nat)) = H p ∧ rng (H p) := fun p hp => by rw [g12.2.2.1]; exact hv p hp
    refine t_Box_fill_14 f4 ?_
    rw [r3]
    refine ⟨by omega, by omega, fun _ => ⟨by omega, fun _ => ?_, fun c => absurd (by omega) c⟩, fun c => absurd (by omega) c⟩
    rw [show (i : Int) + (gpo H m g : Nat) + 3 = (i : Int) + ((gpo H m g + 3 : Nat) : Int) by omega]
    refine s_kindAt (H := H) (g12.1.trans t12) (g12.2.1.trans l12) him (by omega) hv' ?_
    refine t_Box_fill_42 f4 ?_
    obtain ⟨v1, v2⟩ := hv' (gpo H m g + 1) (by omega)
    obtain ⟨v3, v4⟩ := hv' (gpo H m g + 2) (by omega)
    rw [show (i : Int) + (gpo H m g : Nat) + 1 = (i : Int) + ((gpo H m g + 1 : Nat) : Int) by omega, show (i : Int) + (gpo H m g : Nat) + 2 = (i : Int) + ((gpo H m g + 2 : Nat) : Int) by omega, v1, v3, g12.1, t12, g12.2.1, l12, r3]
    have kb := kd_le H m (gpo H m g + 3)
    refine ⟨Or.inl rfl, by omega, by omega, by omega, Or.inl rfl, by omega, by omega, by omega, okg_i rfl rfl rfl rfl ?_, ?_⟩
    · simp only [ng, List.all_cons, List.all_nil, ngv, gw12 hk, Bool.not_false, Bool.and_true]
      rfl
    refine s_grainOf f3 (by omega) (by omega) (by omega) (by omega) fun t b f ht hb hf' => ?_
    have gg := G6_g (h := hf) t (g : Nat) (kd H m (gpo H m g + 3) : Nat) (H (gpo H m g + 1) - 48) (H (gpo H m g + 2) - 48) b f
    have g37 : ∀ r, r ≠ 37 → (fun r : Nat => r == 37) r = false := fun r hr => by simpa using hr
    have x6 : XS (G6 hf t (g : Nat) (kd H m (gpo H m g + 3) : Nat) (H (gpo H m g + 1) - 48) (H (gpo H m g + 2) - 48) b f) := f4.gp fun r hr => by
      have q := gg.p (g37 r (by omega))
      exact ⟨q.1, q.2.2.2, fun _ => q.2.1⟩
    have q1 := gg.p (g37 1 (by decide))
    have t37 : tg (G6 hf t (g : Nat) (kd H m (gpo H m g + 3) : Nat) (H (gpo H m g + 1) - 48) (H (gpo H m g + 2) - 48) b f) 37 = t := rfl
    refine t_Box_fill_79 x6 ?_
    have mi : iv (mov (G6 hf t (g : Nat) (kd H m (gpo H m g + 3) : Nat) (H (gpo H m g + 1) - 48) (H (gpo H m g + 2) - 48) b f) 2 g (30 + g) 37) 1 1 = (g : Nat) := by rw [iv_mov, if_neg (by omega), q1.2.2.1, r3]
    have mt : tg (mov (G6 hf t (g : Nat) (kd H m (gpo H m g + 3) : Nat) (H (gpo H m g + 1) - 48) (H (gpo H m g + 2) - 48) b f) 2 g (30 + g) 37) 1 = 1 := by rw [tg_mov, if_neg (by omega), if_neg (by omega)]; exact x6.t1
    rw [show ((g : Nat) : Int).toNat = g from rfl, child2 (by omega), mi, mt, x6.t2, x6.l2, t37, wr_eq (show rng ((g : Int) + 1) by omega)]
    have gwg : gw (30 + g) = true := by
      have e : g = 0 ∨ g = 1 ∨ g = 2 ∨ g = 3 ∨ g = 4 ∨ g = 5 ∨ g = 6 := by omega
      rcases e with rfl | rfl | rfl | rfl | rfl | rfl | rfl <;> rfl
    refine ⟨?_, by decide, by omega, by omega, ?_, rfl, rfl, ?_⟩
    · rcases ht with ⟨rfl, -⟩ | ⟨rfl, -⟩ | ⟨rfl, -⟩ <;> rfl
    · simp only [ng, List.all_cons, List.all_nil, ngv, gw12 hk, gwg, Bool.not_false, Bool.and_true]
      rw [decide_eq_true (show 30 + g < 37 by omega)]
      rfl
    · have fs2 := fill_step (by omega) fs ht hb hf' (d1 g (by omega)) (d2 g (by omega)) (d3 g (by omega))
      have z := ih (g + 1) _ (.int (I (kd H m (gpo H m g + 3) : Nat))) (by omega) rfl fs2
      rw [show (i : Int) + ((gpo H m (g + 1) : Nat) : Int) = (i : Int) + (gpo H m g : Nat) + (4 + (kd H m (gpo H m g + 3) : Nat)) by
        show (i : Int) + ((gpo H m g + 3 + kd H m (gpo H m g + 3) + 1 : Nat) : Int) = _
        omega] at z
      exact z
end FILL
