/-! The call law. -/
theorem ln_setF (h : Hp) (r k q : Nat) : ln (setF h r k) q = ln h q := rfl
theorem SL_eq {h h' : Hp} (a : ∀ r, (r = 3 ∨ (20 ≤ r ∧ r ≤ 26)) → ln h' r = ln h r) (b : ∀ l j, l < 4 → j < 3 → ln h' (64 * (l + 1) + 19 + 4 * j) = ln h (64 * (l + 1) + 19 + 4 * j)) : SL h' = SL h := by
  unfold SL
  rw [a 3 (by omega), a 20 (by omega), a 21 (by omega), a 22 (by omega), a 23 (by omega), a 24 (by omega), a 25 (by omega), a 26 (by omega),
    show ln h' 83 = ln h 83 from b 0 0 (by decide) (by decide), show ln h' 87 = ln h 87 from b 0 1 (by decide) (by decide), show ln h' 91 = ln h 91 from b 0 2 (by decide) (by decide),
    show ln h' 147 = ln h 147 from b 1 0 (by decide) (by decide), show ln h' 151 = ln h 151 from b 1 1 (by decide) (by decide), show ln h' 155 = ln h 155 from b 1 2 (by decide) (by decide),
    show ln h' 211 = ln h 211 from b 2 0 (by decide) (by decide), show ln h' 215 = ln h 215 from b 2 1 (by decide) (by decide), show ln h' 219 = ln h 219 from b 2 2 (by decide) (by decide),
    show ln h' 275 = ln h 275 from b 3 0 (by decide) (by decide), show ln h' 279 = ln h 279 from b 3 1 (by decide) (by decide), show ln h' 283 = ln h 283 from b 3 2 (by decide) (by decide)]
theorem RO.cg {n : Nat} {d d' : Nat → Nat → Int} {h h' : Hp} (o : RO n d h) (d0 : ∀ i, i ≠ 3 → d' 0 i = d 0 i) (df : ∀ f, 8 ≤ f → d' f = d f) (i0 : ∀ k, k ≠ 2 → iv h' 0 k = iv h 0 k) (ir : ∀ r, (r = 5 ∨ r = 6 ∨ (8 ≤ r ∧ r ≤ 16)) → ∀ k, iv h' r k = iv h r k) : RO n d' h' := by
  obtain ⟨o1, o2, o3, o4, o5, o6, o7⟩ := o
  unfold RO
  rw [d0 1 (by decide), d0 2 (by decide), d0 5 (by decide), d0 6 (by decide), d0 7 (by decide), df 8 (by decide), df 9 (by decide), df 10 (by decide), df 11 (by decide), df 12 (by decide), i0 4 (by decide), i0 5 (by decide), i0 8 (by decide), i0 11 (by decide), ir 16 (by omega)]
  refine ⟨o1, o2, o3, o4, o5, fun r hr h8 => ?_, fun k hk => ?_⟩
  · rw [ir 5 (by omega), ir 6 (by omega)]; exact o6 r hr h8
  · rw [ir (8 + k) (by omega), ir (8 + k) (by omega), ir (8 + k) (by omega)]
    obtain ⟨c1, c2, c3, c4, c5, c6⟩ := o7 k hk
    refine ⟨c1, c2, c3, c4, c5, fun i hi => ?_⟩
    rw [ir (12 + k) (by omega)]
    exact c6 i hi
def nlD (d : Nat → Nat → Int) (l : Nat) (H : Nat → Int) (M : Nat) : Nat → Nat → Int := fun f i => if f = 0 ∧ i = 3 then d 0 3 + 1 else if f = 4 ∧ i = l then (M : Nat) else if f = 5 ∧ 6 * l ≤ i ∧ i < 6 * l + M then ltc (H (4 * (i - 6 * l))) else if f = 6 ∧ 6 * l ≤ i ∧ i < 6 * l + M then H (4 * (i - 6 * l) + 1) - 48 else if f = 7 ∧ 6 * l ≤ i ∧ i < 6 * l + M then H (4 * (i - 6 * l) + 2) - 48 else d f i
section NLD
variable {d : Nat → Nat → Int} {l M : Nat} {H : Nat → Int}
theorem nlD_0 {i : Nat} (hi : i ≠ 3) : nlD d l H M 0 i = d 0 i := by
  unfold nlD
  rw [if_neg (by omega), if_neg (by omega), if_neg (by omega), if_neg (by omega), if_neg (by omega)]
theorem nlD_03 : nlD d l H M 0 3 = d 0 3 + 1 := if_pos ⟨rfl, rfl⟩
theorem nlD_f {f : Nat} (hf : f ≠ 0 ∧ f ≠ 4 ∧ f ≠ 5 ∧ f ≠ 6 ∧ f ≠ 7) : nlD d l H M f = d f := by
  funext i
  unfold nlD
  rw [if_neg (by omega), if_neg (by omega), if_neg (by omega), if_neg (by omega), if_neg (by omega)]
theorem nlD_4 : nlD d l H M 4 l = (M : Nat) := by
  unfold nlD
  rw [if_neg (by omega), if_pos ⟨rfl, rfl⟩]
theorem nlD_567 {c : Nat} (hc : c < M) : nlD d l H M 5 (6 * l + c) = ltc (H (4 * c)) ∧ nlD d l H M 6 (6 * l + c) = H (4 * c + 1) - 48 ∧ nlD d l H M 7 (6 * l + c) = H (4 * c + 2) - 48 := by
  have e : 6 * l + c - 6 * l = c := by omega
  unfold nlD
  refine ⟨?_, ?_, ?_⟩
  · rw [if_neg (by omega), if_neg (by omega), if_pos (by omega), e]
  · rw [if_neg (by omega), if_neg (by omega), if_neg (by omega), if_pos (by omega), e]
  · rw [if_neg (by omega), if_neg (by omega), if_neg (by omega), if_neg (by omega), if_pos (by omega), e]
theorem nlD_le {l2 : Nat} (hM : M ≤ 6) (hl : l2 ≠ l) : Le d (nlD d l H M) l2 := by
  refine ⟨nlD_f (by decide), nlD_f (by decide), nlD_f (by decide), ?_, fun c hc => ?_⟩
  · unfold nlD
    rw [if_neg (by omega), if_neg (by omega), if_neg (by omega), if_neg (by omega), if_neg (by omega)]
  · unfold nlD
    refine ⟨?_, ?_, ?_⟩ <;> rw [if_neg (by omega), if_neg (by omega), if_neg (by omega), if_neg (by omega), if_neg (by omega)]
end NLD
section LAWCALL
variable {n : Nat} {d : Nat → Nat → Int} {P : Value → Hp → Prop} {h : Hp}
theorem nl_init {l k i m : Nat} {H : Nat → Int} (hl : l < 4) (hm : m % 4 = 3 ∧ m ≤ 23) (hk : k < 4) (L : LTs h) (ta : tg h (12 + k) = 20) (la : ln h (12 + k) = 60) (him : i + m ≤ 60) (hv : ∀ p, p < m → iv h (12 + k) ((i : Int) + (p : Nat)) = H p ∧ rng (H p)) (hd : ∀ c, c < (m + 1) / 4 → (48 ≤ H (4 * c + 1) ∧ H (4 * c + 1) ≤ 57) ∧ 49 ≤ H (4 * c + 2) ∧ H (4 * c + 2) ≤ 51)
    (z : ∀ r, 64 * (l + 1) ≤ r → r < 64 * (l + 1) + 64 → tg h r = 0 ∧ ln h r = 0) (kk : ∀ hc, LJ h l ((m + 1) / 4) 3 H hc → P .null hc) :
    R 44 0 [.ref (64 * (l + 1)), .ref (12 + k), .int (I (i : Nat)), .int (I (m : Nat)), .retAddr 0, .retAddr 0] [] (mk h (64 * (l + 1)) 4 0 2) P := by
  have e4 : (((m : Nat) : Int) + 1) / 4 = (((m + 1) / 4 : Nat) : Int) := rfl
  have z1 := z (64 * (l + 1) + 1) (by omega) (by omega)
  have z2 := z (64 * (l + 1) + 2) (by omega) (by omega)
  refine t_Law_init ?_
  rw [e4, show ((((m + 1) / 4 : Nat) : Int)).toNat = (m + 1) / 4 from rfl, show (3 : Int).toNat = 3 from rfl]
  refine ⟨by rw [tg_mk, if_neg (by omega)]; exact z2.1, by omega, by rw [tg_mk, if_neg (by omega), tg_mk, if_pos rfl], chl1 hl, by omega, by rw [tg_setF, tg_mk, if_neg (by omega), tg_mk, if_neg (by omega)]; exact z1.1, by omega, by omega, by omega, by rw [tg_mk, if_neg (by omega), tg_setF, tg_mk, if_neg (by omega), tg_mk, if_pos rfl], chl0 hl, ?_⟩
  generalize hM : (m + 1) / 4 = M at *
  have sq : ∀ x, 64 * (l + 1) ≤ x → x < 64 * (l + 1) + 64 → SB l x = true := fun x h1 h2 => SB_y h1 h2
  refine nl_causes (m := m) hl (M := M) (by omega) hk L ta la (by omega) (fun p hp => hv p (by omega)) hd (fun hc a5 h5 la_ => ?_) M 0 _ _ (by omega) rfl ⟨?_, ?_, ?_, fun c' hc' => absurd hc' (Nat.not_lt_zero _), fun r h1 h2 => ?_⟩
  · refine nl_motions hl (M := M) (by omega) hk kk 3 0 hc a5 (by omega) h5 ⟨la_.1, ?_, la_.2.2.1, la_.2.2.2.1, fun j' hj' => absurd hj' (Nat.not_lt_zero _), fun r h1 h2 => la_.2.2.2.2 r (by omega) (by omega)⟩
    have := la_.2.1
    omega
  · exact ((((Gr.mk1 4 0 2 (sq _ (by omega) (by omega))).tr (Gr.mk1 25 3 3 (sq _ (by omega) (by omega)))).tr (Gr.setF1 _ (sq _ (by omega) (by omega)))).tr (Gr.mk1 24 M M (sq _ (by omega) (by omega)))).tr (Gr.setF1 _ (sq _ (by omega) (by omega)))
  · show ck h + 1 + 1 + 1 = _ ∧ cu h + 2 + 3 + M = _
    omega
  · refine ⟨?_, ?_, ?_, ?_, ?_, ?_, ?_⟩
    · rw [tg_setF, tg_mk, if_neg (by omega), tg_setF, tg_mk, if_neg (by omega), tg_mk, if_pos rfl]
    · rw [fl_setF, if_pos ⟨rfl, rfl⟩]
    · rw [fl_setF, if_neg (by omega), fl_mk, if_neg (by omega), fl_setF, if_pos ⟨rfl, rfl⟩]
    · rw [tg_setF, tg_mk, if_pos rfl]
    · rw [ln_setF, ln_mk, if_pos rfl]
    · rw [tg_setF, tg_mk, if_neg (by omega), tg_setF, tg_mk, if_pos rfl]
    · rw [ln_setF, ln_mk, if_neg (by omega), ln_setF, ln_mk, if_pos rfl]
  · obtain ⟨y1, y2⟩ := z r (by omega) h2
    have gp : Gp h (setF (mk (setF (mk (mk h (64 * (l + 1)) 4 0 2) (64 * (l + 1) + 2) 25 3 3) (64 * (l + 1)) 1) (64 * (l + 1) + 1) 24 M M) (64 * (l + 1)) 0) r := ((((Gp.mk 4 0 2 (by omega)).tr (Gp.mk 25 3 3 (by omega))).tr (Gp.setF _ _ _ _)).tr (Gp.mk 24 M M (by omega))).tr (Gp.setF _ _ _ _)
    exact ⟨gp.1.trans y1, gp.2.1.trans y2⟩
theorem RX.newlaw (x : RX n d h) (z : TZ d h) {l M : Nat} {H : Nat → Int} (el : (l : Int) = d 0 3) (hl : l < 4) (hM : 1 ≤ M ∧ M ≤ 6) (hH : ∀ c, c < M → ltc (H (4 * c)) ≠ -9 ∧ (48 ≤ H (4 * c + 1) ∧ H (4 * c + 1) ≤ 57) ∧ 49 ≤ H (4 * c + 2) ∧ H (4 * c + 2) ≤ 51) {hc : Hp} (lj : LJ h l M 3 H hc) : KL n (nlD d l H M) h (setI (setF hc 4 l) 0 2 ((l : Int) + 1)) := by
  obtain ⟨g, ⟨cn1, cn2⟩, w, lc, lm, -⟩ := lj
  have G0 : ∀ r, r < 64 * (l + 1) ∨ 64 * (l + 1) + 64 ≤ r → Gp h (setF hc 4 l) r := fun r hr => (g.p (SB_n hr)).tr (Gp.setF _ _ _ _)
  have E : ∀ r, r ≠ 0 → (r < 64 * (l + 1) ∨ 64 * (l + 1) + 64 ≤ r) → Gp h (setI (setF hc 4 l) 0 2 ((l : Int) + 1)) r := fun r h0 hr => (G0 r hr).tr (Gp.setI _ _ h0)
  have F : ∀ r, r ≠ 0 → Gp hc (setI (setF hc 4 l) 0 2 ((l : Int) + 1)) r := fun r h0 => (Gp.setF _ _ _ _).tr (Gp.setI _ _ h0)
  have i0 : ∀ k, k ≠ 2 → iv (setI (setF hc 4 l) 0 2 ((l : Int) + 1)) 0 k = iv h 0 k := fun k hk => by
    rw [iv_nk hk]; exact (G0 0 (by omega)).2.2.1 k
  have i2 : iv (setI (setF hc 4 l) 0 2 ((l : Int) + 1)) 0 2 = (l : Int) + 1 := iv_eq _ _ _ _
  have xs : XS (setI (setF hc 4 l) 0 2 ((l : Int) + 1)) := x.S.gp fun r hr => by
    have q := G0 r (by omega)
    exact ⟨q.1, q.2.2.2, fun _ => q.2.1⟩
  have e1 : nlD d l H M 1 = d 1 := nlD_f (by decide)
  have e2 : nlD d l H M 2 = d 2 := nlD_f (by decide)
  have e3 : nlD d l H M 3 = d 3 := nlD_f (by decide)
  obtain ⟨⟨b1, b2, b3, b4, b5, b6, b7, b8⟩, c, gw_, gg, gb, nb, ls, lw⟩ := x.1
  have slq : SL (setI (setF hc 4 l) 0 2 ((l : Int) + 1)) = SL h := SL_eq (fun r hr => (E r (by omega) (by omega)).2.1) fun l2 j h2 hj => by
    by_cases e : l2 = l
    · subst e
      have q1 := (lm j hj).2.2.2.2.2.2.2.2.2.1
      have q2 := (z l2 (by omega) hl (64 * (l2 + 1) + 19 + 4 * j) (by omega) (by omega)).2
      rw [q2]
      exact q1
    · exact (E _ (by omega) (by omega)).2.1
  refine ⟨⟨⟨⟨xs, b2, ?_, ?_, fun k hk => ?_, fun k hk => ?_, ?_, ?_⟩, fun i hi => ?_, fun r hr => ?_, ?_, ?_, ?_, ?_, fun l2 hl2 => ?_⟩, ?_⟩, ?_, fun l2 h1 h2 r h3 h4 => ?_, ?_, ?_⟩
  · rw [(E 1 (by omega) (by omega)).2.2.1]; exact b3
  · rw [(E 1 (by omega) (by omega)).2.2.1]; exact b4
  · rw [(E 500 (by omega) (by omega)).2.2.1]; exact b5 k hk
  · rw [(E 501 (by omega) (by omega)).2.2.1]; exact b6 k hk
  · rw [(E 37 (by omega) (by omega)).1]; exact b7
  · rw [(E 38 (by omega) (by omega)).1]; exact b8
  · rw [(E 3 (by omega) (by omega)).2.1] at hi
    rw [(E 3 (by omega) (by omega)).2.2.1]; exact c i hi
  · have hr2 : r ≠ 0 ∧ r < 64 := by
      simp only [gws, List.mem_cons, List.not_mem_nil, or_false] at hr
      omega
    rw [(E r hr2.1 (by omega)).2.1]; exact gw_ r hr
  · have := gg.gp (E 2 (by omega) (by omega)) fun g hg => E (30 + g) (by omega) (by omega)
    unfold GG GR blk hft at this ⊢
    rw [e1, e2, e3]
    exact this
  · unfold GB at gb ⊢
    rw [e1, e2, e3]
    exact gb
  · rw [(E 1 (by omega) (by omega)).2.2.1]; exact nb
  · rw [nlD_03, nlD_0 (by decide), i2, i0 3 (by decide)]
    omega
  · rw [nlD_03] at hl2
    by_cases e : l2 = l
    · subst e
      obtain ⟨w1, w2, w3, w4, w5, w6, w7⟩ := w
      have p0 := F (64 * (l2 + 1)) (by omega)
      have p1 := F (64 * (l2 + 1) + 1) (by omega)
      have p2 := F (64 * (l2 + 1) + 2) (by omega)
      refine ⟨?_, ⟨?_, fun c hc6 hcd => ?_, fun j hj => ?_⟩, ⟨?_, fun c hc6 hcd => ?_⟩, fun j hj => ⟨?_, ?_⟩⟩
      · show fl (setF hc 4 l2) 4 l2 = true
        rw [fl_setF, if_pos ⟨rfl, rfl⟩]
      · rw [p0.1, p1.1, p1.2.1, p2.1, p2.2.1, nlD_4, w5]
        exact ⟨w1, p0.2.2.2 _ w2, p0.2.2.2 _ w3, w4, rfl, w6, w7⟩
      · rw [nlD_4] at hcd
        obtain ⟨q1, q2, q3, q4, q5⟩ := lc c (by omega)
        obtain ⟨r5, r6, r7⟩ := nlD_567 (d := d) (l := l2) (M := M) (H := H) (c := c) (by omega)
        have pc := F (64 * (l2 + 1) + 3 + c) (by omega)
        rw [r5, r6, r7, pc.1, pc.2.2.1, pc.2.2.1, pc.2.2.1]
        exact ⟨p1.2.2.2 _ q1, q2, q3, q4, q5⟩
      · obtain ⟨m1, m2, m3, m4, m5, m6, m7, m8, m9, m10, m11⟩ := lm j hj
        have q6 := F (64 * (l2 + 1) + 16 + 4 * j) (by omega)
        have q7 := F (64 * (l2 + 1) + 17 + 4 * j) (by omega)
        have q8 := F (64 * (l2 + 1) + 18 + 4 * j) (by omega)
        have q9 := F (64 * (l2 + 1) + 19 + 4 * j) (by omega)
        rw [q6.1, q7.1, q8.1, q9.1, q8.2.1, q9.2.1]
        exact ⟨p2.2.2.2 _ m1, m2, q6.2.2.2 _ m3, q6.2.2.2 _ m4, m5, q7.2.2.2 _ m6, m7, m8, m9, by rw [m10]; omega⟩
      · rw [nlD_4]; omega
      · rw [nlD_4] at hcd
        obtain ⟨r5, r6, r7⟩ := nlD_567 (d := d) (l := l2) (M := M) (H := H) (c := c) (by omega)
        obtain ⟨s1, s2, s3⟩ := hH c (by omega)
        have lb := ltc_bd (H (4 * c))
        rw [r5, r6, r7]
        omega
      · obtain ⟨m1, m2, m3, m4, m5, m6, m7, m8, m9, m10, m11⟩ := lm j hj
        have i6 : iv (setI (setF hc 4 l2) 0 2 ((l2 : Int) + 1)) (64 * (l2 + 1) + 16 + 4 * j) 2 = 0 := (F (64 * (l2 + 1) + 16 + 4 * j) (by omega)).2.2.1 2 |>.trans m11
        unfold MC
        rw [i6, (E 1 (by omega) (by omega)).2.2.1]
        refine ⟨by omega, fun q hn => ?_⟩
        have := nb.2.2 q.symm
        omega
      · obtain ⟨m1, m2, m3, m4, m5, m6, m7, m8, m9, m10, m11⟩ := lm j hj
        rw [(F (64 * (l2 + 1) + 19 + 4 * j) (by omega)).2.1, m10]
        exact Or.inl rfl
    · obtain ⟨l1, l2', l3, l4⟩ := lw l2 (by omega)
      have le := nlD_le (d := d) (H := H) (M := M) (l := l) (l2 := l2) hM.2 e
      have EE : ∀ r, 64 * (l2 + 1) ≤ r → r < 64 * (l2 + 1) + 64 → Gp h (setI (setF hc 4 l) 0 2 ((l : Int) + 1)) r := fun r h1 h2 => E r (by omega) (by omega)
      refine ⟨(E 4 (by omega) (by omega)).2.2.2 _ l1, (l2'.gp EE).le le, l3.le le, fun j hj => ⟨((l4 j hj).1.gp (by omega) hj ((E 1 (by omega) (by omega)).2.2.1 3) EE).le le l3, ?_⟩⟩
      rw [(EE _ (by omega) (by omega)).2.1]
      exact (l4 j hj).2
  · exact x.2.cg (fun i hi => nlD_0 hi) (fun f hf => nlD_f (by omega)) i0 fun r hr k => (E r (by omega) (by omega)).2.2.1 k
  · exact ((g.mono fun r hr => SB_n (by have := X4_lt hr; omega)).tr (Gr.setF1 (S := X4) l rfl)).tr (Gr.setI1 (S := X4) 2 _ rfl)
  · rw [nlD_03] at h1
    obtain ⟨z1, z2⟩ := z l2 (by omega) h2 r h3 h4
    have q := E r (by omega) (by omega)
    exact ⟨q.1.trans z1, q.2.1.trans z2⟩
  · rw [slq]
    show ck hc + _ ≤ _ ∧ cu hc + _ ≤ _
    omega
  · rw [(E 1 (by omega) (by omega)).2.2.1]
    omega
theorem KL.trX {n1 : Nat} {d1 : Nat → Nat → Int} {h1 h2 : Hp} (a : KX n d h h1) (b : KL n1 d1 h1 h2) : KL n1 d1 h h2 := by
  obtain ⟨a1, a2, ⟨a3, a4⟩, a5⟩ := a
  obtain ⟨b1, b2, b3, b4, b5⟩ := b
  unfold CoN at a3
  exact ⟨b1, a2.tr b2, b3, by omega, by omega⟩
theorem KX.tz {d' : Nat → Nat → Int} {h' : Hp} (k : KX n d' h h') (z : TZ d h) (e : d' 0 3 = d 0 3) : TZ d' h' := (k.l z e).2.2.1
noncomputable def lawW (d : Nat → Nat → Int) (k i m : Int) : Int := if lffg (lwG (celH d k i)) m.toNat m.toNat 0 ≠ -1 then -100 - lffg (lwG (celH d k i)) m.toNat m.toNat 0 else if 4 ≤ d 0 3 then -4 else d 0 3
noncomputable def lawE (d : Nat → Nat → Int) (k i m : Int) : Nat → Nat → Int := if lffg (lwG (celH d k i)) m.toNat m.toNat 0 ≠ -1 then d else if 4 ≤ d 0 3 then d else nlD d (d 0 3).toNat (celH d k i) ((m.toNat + 1) / 4)
noncomputable def lawV (d : Nat → Nat → Int) (k s i m : Int) : Int := if refV d k s i m ≠ 0 then refV d k s i m else lawW (up d 0 7 0) k i m
noncomputable def lawD (d : Nat → Nat → Int) (k s i m : Int) : Nat → Nat → Int := if refV d k s i m ≠ 0 then up d 0 7 (refF (refV d k s i m)) else lawE (up d 0 7 0) k i m
theorem RX.lts (x : RX n d h) : LTs h := ⟨x.S.t501, x.S.l501, x.1.1.2.2.2.2.2.1⟩
theorem lwG_23 {G : Nat → Int} {m : Nat} (h3 : m % 4 = 3) (h : ∀ q, q < m → lwG G q) : m ≤ 23 := by
  apply Classical.byContradiction
  intro hc
  have := (h 23 (by omega)).2.2.2 (by decide)
  omega
theorem s_law (x : RX n d h) (z : TZ d h) {k s i m : Int} (hk : rng k) (hs : rng s) (hi : rng i) (hm : rng m) (kk : ∀ h', KL n (lawD d k s i m) h h' → P (.int (I (lawV d k s i m))) h') : R 40 0 [.ref 0, .int (I k), .int (I s), .int (I i), .int (I m), .retAddr 0, .retAddr 0, .retAddr 0] [] h P := by
  refine t_X_law x.S (s_refusal x hk hs hi hm fun h1 k1 => ?_)
  have bd := refV_bd d k s i m
  unfold lawV lawD at kk
  have zz := k1.tz z (up_ne (by omega))
  by_cases c : refV d k s i m = 0
  · obtain ⟨q1, q2, q3, q4, q5, q6, q7⟩ := refV_ok c
    rw [if_neg (fun z => z c), if_neg (fun z => z c)] at kk
    rw [c, show refF 0 = 0 from rfl] at k1 zz
    have hk4 : k.toNat < 4 := by omega
    obtain ⟨t1, t2, t3, t4, t5⟩ := k1.1.S.sh hk4
    have dl := x.dl hk4
    rw [c]
    refine t_X_law_9 k1.1.S ?_
    rw [ch7 hk4, ch8 hk4]
    refine ⟨by decide, fun _ => ⟨by omega, by omega, t2, by omega, t1, t3, by omega, ?_⟩, fun z => absurd rfl z⟩
    have kk := fun h' (kx : KL n (lawE (up d 0 7 0) k i m) h1 h') => kk h' (KL.trX k1 kx)
    generalize up d 0 7 0 = d1 at *
    unfold lawE lawW at kk
    have ei : i = (i.toNat : Nat) := by omega
    have em : m = (m.toNat : Nat) := by omega
    have hv : ∀ p, p < m.toNat → iv h1 (12 + k.toNat) ((i.toNat : Int) + (p : Nat)) = celH d1 k i p ∧ rng (celH d1 k i p) := fun p hp => by
      obtain ⟨v1, v2⟩ := k1.1.cel hk4 (i := i.toNat + p) (by omega)
      rw [← Nat.add_assoc] at v1 v2
      exact ⟨v1, v2⟩
    have lf := lffg_bd (G := lwG (celH d1 k i)) (m := m.toNat) m.toNat 0 (by omega)
    have z1 := lff_loop (P := fun v h2 => R 40 38 [.ref 0, .int (I k), .int (I s), .int (I i), .int (I m), .int (I 0), .ref (12 + k.toNat), .retAddr 0] (v :: []) h2 P) k1.1.lts (H := celH d1 k i) (a := 12 + k.toNat) (i := i.toNat) (m := m.toNat) t4 (by omega) t5 hv m.toNat 0 (by omega) (by
      have ls := k1.1.1.2.2.2.2.2.2.1
      refine t_X_law_38 k1.1.S ?_
      rw [ls.2.2.1]
      refine ⟨by omega, fun e => ⟨by omega, fun e2 => ?_, fun e2 => ?_⟩, fun e => ?_⟩
      · have ne : ¬ lffg (lwG (celH d1 k i)) m.toNat m.toNat 0 ≠ -1 := fun z => z e
        have n4 : ¬ 4 ≤ d1 0 3 := by omega
        rw [if_neg ne, if_neg ne, if_neg n4, if_neg n4] at kk
        obtain ⟨g1, g2⟩ := lffg_ok _ _ e
        have g2 : ∀ q, q < m.toNat → lwG (celH d1 k i) q := fun q hq => g2 q (by omega) (by omega)
        have m23 := lwG_23 g1 g2
        have el : (((d1 0 3).toNat : Nat) : Int) = d1 0 3 := by omega
        have hl4 : (d1 0 3).toNat < 4 := by omega
        generalize hL : (d1 0 3).toNat = l at *
        have zl := zz l (by omega) hl4
        refine ⟨(zl _ (by omega) (by omega)).1, by omega, okg_i rfl rfl rfl rfl ?_, ?_⟩
        · simp only [ng, List.all_cons, List.all_nil, ngv, gwl hl4, gw12 hk4, Bool.not_false, Bool.and_true]
          rfl
        have hH : ∀ c, c < (m.toNat + 1) / 4 → ltc (celH d1 k i (4 * c)) ≠ -9 ∧ (48 ≤ celH d1 k i (4 * c + 1) ∧ celH d1 k i (4 * c + 1) ≤ 57) ∧ 49 ≤ celH d1 k i (4 * c + 2) ∧ celH d1 k i (4 * c + 2) ≤ 51 := fun c hc => ⟨(g2 (4 * c) (by omega)).1 (by omega), (g2 (4 * c + 1) (by omega)).2.1 (by omega), (g2 (4 * c + 2) (by omega)).2.2.1 (by omega)⟩
        have z2 := nl_init (P := fun _ h2 => R 40 83 [.ref 0, .int (I k), .int (I s), .int (I i), .int (I m), .int (I 0), .ref (12 + k.toNat), .int (I (lffg (lwG (celH d1 k i)) m.toNat m.toNat 0))] [.ref (64 * (l + 1)), .int (I (d1 0 3)), .ref 4] h2 P) (l := l) (k := k.toNat) (i := i.toNat) (m := m.toNat) (H := celH d1 k i) hl4 ⟨g1, m23⟩ hk4 k1.1.lts t4 t5 (by omega) hv (fun c hc => (hH c hc).2) zl fun hc lj => by
          have kl := k1.1.newlaw zz (l := l) (M := (m.toNat + 1) / 4) (H := celH d1 k i) el hl4 (by omega) hH lj
          have xs : XS hc := k1.1.S.gp fun r hr => by
            have q := lj.1.p (r := r) (SB_n (by omega))
            exact ⟨q.1, q.2.2.2, fun _ => q.2.1⟩
          have i2 : iv hc 0 2 = d1 0 3 := ((lj.1.p (r := 0) (SB_n (by omega))).2.2.1 2).trans ls.2.2.1
          refine t_X_law_83 xs ?_
          rw [iv_setF, i2, ← el, show ((l : Nat) : Int).toNat = l from rfl, xs.t4, lj.2.2.1.1, xs.l4, iv_eq, wr_eq (show rng ((l : Int) + 1) by omega), Int.add_sub_cancel]
          rw [← el] at kk
          exact ⟨rfl, by decide, by omega, by omega, ch4 hl4, kk _ kl⟩
        rw [← ei, ← em] at z2
        exact z2
      · have ne : ¬ lffg (lwG (celH d1 k i)) m.toNat m.toNat 0 ≠ -1 := fun z => z e
        have n4 : 4 ≤ d1 0 3 := by omega
        rw [if_neg ne, if_neg ne, if_pos n4, if_pos n4] at kk
        exact kk h1 ((KX.rf k1.1).l zz rfl)
      · rw [if_pos e, if_pos e] at kk
        exact kk h1 ((KX.rf k1.1).l zz rfl))
    rw [← ei, ← em] at z1
    exact t_Law_firstFault z1
  · rw [if_pos c, if_pos c] at kk
    exact t_X_law_9 k1.1.S ⟨by omega, fun z => absurd z c, fun _ => kk h1 (k1.l z (up_ne (by omega)))⟩
end LAWCALL
