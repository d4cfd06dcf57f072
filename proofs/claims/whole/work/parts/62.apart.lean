/-! What the other side does stays apart; the reference is made. -/
section APART
variable {n : Nat} {d : Nat → Nat → Int} {P : Value → Hp → Prop} {h : Hp}
theorem Y4_lt {r : Nat} (h : Y4 r = true) : 400 ≤ r ∧ r < 440 := by
  simp only [Y4, Bool.and_eq_true, Nat.ble_eq, Nat.blt_eq] at h
  exact h
theorem RX.gp (x : RX n d h) {h1 : Hp} (a : ∀ r, r < 400 ∨ r = 500 ∨ r = 501 → Gp h h1 r) : RX n d h1 := by
  obtain ⟨⟨⟨b1, b2, b3, b4, b5, b6, b7, b8⟩, c, g, gg, gb, nb, ls, lw⟩, o1, o2, o3, o4, o5, o6, o7⟩ := x
  have ai : ∀ r, r < 400 ∨ r = 500 ∨ r = 501 → ∀ k, iv h1 r k = iv h r k := fun r hr => (a r hr).2.2.1
  have ai4 : ∀ r, r < 400 → ∀ k, iv h1 r k = iv h r k := fun r hr => ai r (Or.inl hr)
  have e13 : iv h1 1 3 = iv h 1 3 := ai4 1 (by decide) 3
  refine ⟨⟨⟨b1.gp fun r hr => ?_, b2, ?_, ?_, fun k hk => ?_, fun k hk => ?_, ?_, ?_⟩, fun i hi => ?_, fun r hr => ?_, gg.gp (a 2 (by omega)) fun g hg => a _ (by omega), gb, ?_, ?_, fun l hl => ?_⟩, ?_⟩
  · have q := a r (by omega)
    exact ⟨q.1, q.2.2.2, fun _ => q.2.1⟩
  · rw [ai4 1 (by decide)]; exact b3
  · rw [ai4 1 (by decide)]; exact b4
  · rw [ai 500 (by omega)]; exact b5 k hk
  · rw [ai 501 (by omega)]; exact b6 k hk
  · rw [(a 37 (by omega)).1]; exact b7
  · rw [(a 38 (by omega)).1]; exact b8
  · rw [(a 3 (by omega)).2.1] at hi
    rw [ai4 3 (by decide)]; exact c i hi
  · have hr4 : r < 400 := (by decide : ∀ r ∈ gws, r < 400) r hr
    rw [(a r (by omega)).2.1]; exact g r hr
  · rw [e13]; exact nb
  · rw [ai4 0 (by decide), ai4 0 (by decide)]; exact ls
  · obtain ⟨l1, l2, l3, l4⟩ := lw l hl
    have h4 : l < 4 := by omega
    refine ⟨(a 4 (by omega)).2.2.2 _ l1, l2.gp fun r h1 h2 => a r (by omega), l3, fun j hj => ?_⟩
    rw [(a (64 * (l + 1) + 19 + 4 * j) (by omega)).2.1]
    exact ⟨(l4 j hj).1.gp h4 hj e13 fun r h1 h2 => a r (by omega), (l4 j hj).2⟩
  · unfold RO
    rw [ai4 0 (by decide), ai4 0 (by decide), ai4 0 (by decide), ai4 0 (by decide), ai4 16 (by decide)]
    refine ⟨o1, o2, o3, o4, o5, fun r hr h8 => ?_, fun k hk => ?_⟩
    · rw [ai4 5 (by decide), ai4 6 (by decide)]; exact o6 r hr h8
    · rw [ai4 (8 + k) (by omega), ai4 (8 + k) (by omega), ai4 (8 + k) (by omega)]
      obtain ⟨c1, c2, c3, c4, c5, c6⟩ := o7 k hk
      refine ⟨c1, c2, c3, c4, c5, fun i hi => ?_⟩
      rw [ai4 (12 + k) (by omega)]
      exact c6 i hi
theorem RX.gy (x : RX n d h) {h1 : Hp} (a : Gr Y4 h h1) : RX n d h1 := x.gp fun r hr => a.p (Y4_n (by omega))
theorem TZ.gy (z : TZ d h) {h1 : Hp} (a : Gr Y4 h h1) : TZ d h1 := fun l h1 h2 r h3 h4 => by
  have q := a r (Y4_n (by omega))
  rw [q.1, q.2.1]
  exact z l h1 h2 r h3 h4
theorem SL.gy {h1 : Hp} (a : Gr Y4 h h1) : SL h1 = SL h := SL_eq (fun r hr => (a r (Y4_n (by omega))).2.1) fun l j hl hj => (a _ (Y4_n (by omega))).2.1
theorem YS.gx (S : YS h) {h1 : Hp} (a : Gr X4 h h1) : YS h1 := by
  refine ⟨fun q hq => ?_, fun q hq => ?_, fun q hq => ?_⟩
  · have hr : X4 q.1 = false := (by decide : ∀ q ∈ ([(400, 13), (403, 20), (404, 20), (405, 20), (410, 20), (411, 20), (412, 20), (415, 20), (416, 20), (417, 20), (418, 20), (421, 20), (422, 20), (423, 20), (424, 20), (426, 20), (428, 20), (429, 20), (430, 20), (431, 20), (433, 20), (434, 20), (436, 20), (437, 20)] : List (Nat × Nat)), X4 q.1 = false) q hq
    rw [(a _ hr).1]; exact S.1 q hq
  · have hr : X4 q.1 = false := (by decide : ∀ q ∈ ([(400, 2), (400, 3), (400, 4), (400, 9), (400, 10), (400, 11), (400, 14), (400, 15), (400, 16), (400, 17), (400, 20), (400, 21), (400, 22), (400, 23), (400, 25), (400, 27), (400, 28), (400, 29), (400, 30), (400, 32), (400, 33), (400, 35), (400, 36)] : List (Nat × Nat)), X4 q.1 = false) q hq
    rw [(a _ hr).2.2.2]; exact S.2.1 q hq
  · have hr : X4 q.1 = false := (by decide : ∀ q ∈ ([(403, 4), (404, 4), (405, 240), (410, 7), (411, 7), (412, 7), (415, 7), (416, 7), (417, 7), (418, 7), (421, 4), (422, 24), (423, 24), (424, 24), (426, 18), (428, 5040), (429, 5040), (430, 5040), (431, 5040), (433, 5040), (434, 5040), (436, 8), (437, 8)] : List (Nat × Nat)), X4 q.1 = false) q hq
    rw [(a _ hr).2.1]; exact S.2.2 q hq
theorem RY.gx (x : RY n d h) {h1 : Hp} (a : Gr X4 h h1) : RY n d h1 := by
  have i : ∀ r, X4 r = false → ∀ k, iv h1 r k = iv h r k := fun r hr => (a r hr).2.2.1
  obtain ⟨⟨b1, b2, b3, b4, b5⟩, c0, c1, c7, c8, c18, c19, c34, g, gb, l, r, s⟩ := x
  unfold RY
  rw [i 400 rfl, i 400 rfl, i 400 rfl, i 400 rfl, i 400 rfl, i 400 rfl, i 400 rfl, i 400 rfl, i 400 rfl, i 400 rfl]
  refine ⟨⟨b1.gx a, b2, b3, b4, b5⟩, c0, c1, c7, c8, c18, c19, c34, fun x hx => ?_, gb, fun x hx => ?_, fun x hx h8 => ?_, fun x hx => ?_⟩
  · rw [i 410 rfl, i 411 rfl, i 412 rfl]; exact g x hx
  · rw [i 421 rfl]
    obtain ⟨l1, l2, l3⟩ := l x hx
    refine ⟨l1, l2, fun c hc hd => ?_⟩
    rw [i 422 rfl, i 423 rfl, i 424 rfl]
    exact l3 c hc hd
  · rw [i 436 rfl, i 437 rfl]; exact r x hx h8
  · rw [i 403 rfl, i 404 rfl]
    obtain ⟨s1, s2, s3, s4, s5⟩ := s x hx
    refine ⟨s1, s2, s3, s4, fun i' hi => ?_⟩
    rw [i 405 rfl]
    exact s5 i' hi
end APART
theorem y_init {h0 : Hp} {P : Value → Hp → Prop} (z : ∀ r, 400 ≤ r → r < 440 → tg h0 r = 0) (kk : ∀ h, RY 0 d00 h → Gr Y4 h0 h → ck h ≤ ck h0 + 100 → cu h ≤ cu h0 + 40000 → P .null h) : R 126 0 [.ref 400] [] (mk h0 400 13 0 37) P := by
  refine t_Y_init ⟨z 403 (by decide) (by decide), rfl, (by decide : ((4 : Nat) : Int) ≤ 2147483648), (by decide : (0 : Int) < ((4 : Nat) : Int)), rfl, (by decide : ((4 : Nat) : Int) ≤ 2147483648), (by decide : (1 : Int) < ((4 : Nat) : Int)), rfl, (by decide : ((4 : Nat) : Int) ≤ 2147483648), (by decide : (2 : Int) < ((4 : Nat) : Int)), rfl, (by decide : ((4 : Nat) : Int) ≤ 2147483648), (by decide : (3 : Int) < ((4 : Nat) : Int)), rfl, z 404 (by decide) (by decide), rfl, z 405 (by decide) (by decide), rfl, z 410 (by decide) (by decide), rfl, z 411 (by decide) (by decide), rfl, z 412 (by decide) (by decide), rfl, z 415 (by decide) (by decide), rfl, z 416 (by decide) (by decide), rfl, z 417 (by decide) (by decide), rfl, z 418 (by decide) (by decide), rfl, z 421 (by decide) (by decide), rfl, z 422 (by decide) (by decide), rfl, z 423 (by decide) (by decide), rfl, z 424 (by decide) (by decide), rfl, rfl, z 426 (by decide) (by decide), rfl, z 428 (by decide) (by decide), rfl, z 429 (by decide) (by decide), rfl, z 430 (by decide) (by decide), rfl, z 431 (by decide) (by decide), rfl, z 433 (by decide) (by decide), rfl, z 434 (by decide) (by decide), rfl, z 436 (by decide) (by decide), rfl, z 437 (by decide) (by decide), rfl, ?_⟩
  generalize hg : setF _ 400 36 = hA
  have ys : YS hA := by
    subst hg
    refine ⟨fun q hq => ?_, fun q hq => ?_, fun q hq => ?_⟩
    · simp only [List.mem_cons, List.not_mem_nil, or_false] at hq
      rcases hq with rfl | rfl | rfl | rfl | rfl | rfl | rfl | rfl | rfl | rfl | rfl | rfl | rfl | rfl | rfl | rfl | rfl | rfl | rfl | rfl | rfl | rfl | rfl | rfl <;> rfl
    · simp only [List.mem_cons, List.not_mem_nil, or_false] at hq
      rcases hq with rfl | rfl | rfl | rfl | rfl | rfl | rfl | rfl | rfl | rfl | rfl | rfl | rfl | rfl | rfl | rfl | rfl | rfl | rfl | rfl | rfl | rfl | rfl <;> rfl
    · simp only [List.mem_cons, List.not_mem_nil, or_false] at hq
      rcases hq with rfl | rfl | rfl | rfl | rfl | rfl | rfl | rfl | rfl | rfl | rfl | rfl | rfl | rfl | rfl | rfl | rfl | rfl | rfl | rfl | rfl | rfl | rfl <;> rfl
  have gr : Gr Y4 h0 hA := by
    subst hg
    repeat' first
      | exact Gr.mk1 _ _ _ rfl
      | exact Gr.setF1 _ rfl
      | exact Gr.setI1 _ _ rfl
      | refine Gr.tr ?_ (Gr.setF1 _ rfl)
      | refine Gr.tr ?_ (Gr.mk1 _ _ _ rfl)
      | refine Gr.tr ?_ (Gr.setI1 _ _ rfl)
  have v : (iv hA 400 5 = 0 ∧ iv hA 400 6 = 0 ∧ iv hA 400 24 = -9 ∧ iv hA 400 0 = 0 ∧ iv hA 400 1 = 0) ∧ (iv hA 400 7 = 0 ∧ iv hA 400 8 = 0 ∧ iv hA 400 18 = 0 ∧ iv hA 400 19 = 0 ∧ iv hA 400 34 = 0) ∧ (iv hA 403 0 = -9 ∧ iv hA 403 1 = -9 ∧ iv hA 403 2 = -9 ∧ iv hA 403 3 = -9) ∧ (∀ k, iv hA 404 k = 0) ∧ ∀ k, iv hA 405 k = 0 := by
    subst hg
    exact ⟨⟨rfl, rfl, rfl, rfl, rfl⟩, ⟨rfl, rfl, rfl, rfl, rfl⟩, ⟨rfl, rfl, rfl, rfl⟩, fun _ => rfl, fun _ => rfl⟩
  have cc : ck hA = ck h0 + 24 ∧ cu hA ≤ cu h0 + 40000 := by
    subst hg
    refine ⟨rfl, ?_⟩
    show cu h0 + 37 + 4 + 4 + 240 + 7 + 7 + 7 + 7 + 7 + 7 + 7 + 4 + 24 + 24 + 24 + 18 + 5040 + 5040 + 5040 + 5040 + 5040 + 5040 + 8 + 8 ≤ _
    omega
  obtain ⟨⟨v1, v2, v3, v4, v5⟩, ⟨v6, v7, v8, v9, v10⟩, ⟨w0, w1, w2, w3⟩, w4, w5⟩ := v
  refine kk hA ⟨⟨ys, Or.inl rfl, v1, v2, v3⟩, ⟨v4, (by decide : rng 0)⟩, ⟨v5, (by decide : rng 0)⟩, ⟨v6, Int.le_refl _, Or.inr ⟨rfl, rfl⟩⟩, ⟨v7, (by decide : rng 0)⟩, ⟨v8, (by decide : (0 : Int) ≤ 0), (by decide : (0 : Int) ≤ 4)⟩, ⟨v9, (by decide : (0 : Int) ≤ 0), Or.inr ⟨rfl, rfl⟩⟩, ⟨v10, (by decide : (0 : Int) ≤ 0), (by decide : (0 : Int) ≤ 8)⟩, fun g hg => absurd hg (Nat.not_lt_zero _), fun g hg => absurd hg (Nat.not_lt_zero _), fun l hl => ?_, fun r hr _ => ?_, fun k hk => ?_⟩ gr (by omega) cc.2
  · have : d00 0 3 = 0 := rfl
    omega
  · have : d00 0 5 = 0 := rfl
    omega
  · have e : k = 0 ∨ k = 1 ∨ k = 2 ∨ k = 3 := by omega
    have e3 : iv hA 403 k = -9 := by rcases e with rfl | rfl | rfl | rfl <;> assumption
    exact ⟨e3, Or.inl rfl, w4 _, ⟨(by decide : (0 : Int) ≤ 0), (by decide : (0 : Int) ≤ 60)⟩, fun i hi => ⟨w5 _, (by decide : rng 0)⟩⟩
