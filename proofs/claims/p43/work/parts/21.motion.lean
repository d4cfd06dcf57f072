/-! Motions: what is known of where lies go. -/
theorem RU.gr {n : Nat} {c : Nat → Nat → Nat → Bool} {h h1 : Hp} {r : Nat} {S : Nat → Bool} (u : RU n c h r) (a : Gr S h h1) (s0 : S r = false) (s : S (child r 0) = false) : RU n c h1 r := by
  obtain ⟨u1, u2, u3, u4, u5, u6⟩ := u
  refine ⟨by rw [(a _ s0).1]; exact u1, by rw [(a _ s0).2.2.2]; exact u2, u3, by rw [(a _ s).1]; exact u4, by rw [(a _ s).2.1]; exact u5, fun x y hx hy => ?_⟩
  obtain ⟨w, w1, w2, w3⟩ := u6 x y hx hy
  exact ⟨w, w1, by rw [(a _ s).2.2.1]; exact w2, w3⟩
theorem GG.gr {n : Nat} {d : Nat → Nat → Int} {h h1 : Hp} {S : Nat → Bool} (g : GG n d h) (a : Gr S h h1) (s2 : S 2 = false) (s : ∀ g, g < n → S (30 + g) = false) : GG n d h1 := by
  intro x hx
  obtain ⟨g1, g2, g3, g4, g5, g6, g7, g8⟩ := g x hx
  have e := a _ (s x hx)
  unfold GR
  rw [(a _ s2).2.2.2, e.1, e.2.2.1, e.2.2.1, e.2.2.1, e.2.2.1, e.2.2.1, e.2.2.1]
  exact ⟨g1, g2, g3, g4, g5, g6, g7, g8⟩
theorem MC.gr {n : Nat} {d : Nat → Nat → Int} {l j : Nat} {h h1 : Hp} {S : Nat → Bool} (hl : l < 4) (hj : j < 3) (g : MC n d l j h) (a : Gr S h h1) (s1 : S 1 = false) (s : ∀ k, k < 4 → S (64 * (l + 1) + (16 + k) + 4 * j) = false) : MC n d l j h1 := by
  have e16 := a _ (s 0 (by decide))
  have e17 := s 1 (by decide)
  have e18 := s 2 (by decide)
  have e19 := a _ (s 3 (by decide))
  have q16 : 64 * (l + 1) + (16 + 0) + 4 * j = 64 * (l + 1) + 16 + 4 * j := by omega
  have q17 : 64 * (l + 1) + (16 + 1) + 4 * j = 64 * (l + 1) + 17 + 4 * j := by omega
  have q18 : 64 * (l + 1) + (16 + 2) + 4 * j = 64 * (l + 1) + 18 + 4 * j := by omega
  have q19 : 64 * (l + 1) + (16 + 3) + 4 * j = 64 * (l + 1) + 19 + 4 * j := by omega
  rw [q16] at e16
  rw [q17] at e17
  rw [q18] at e18
  rw [q19] at e19
  unfold MC at g ⊢
  rw [e16.2.2.1, (a _ s1).2.2.1, e19.2.1]
  refine ⟨g.1, fun z hn => ?_⟩
  obtain ⟨g1, g2, g3⟩ := g.2 z hn
  refine ⟨g1.gr a e17 (by rw [(chlm hl hj).2.2.2]; exact e18), g2, fun i hi => ?_⟩
  rw [e19.2.2.1]
  exact g3 i hi
theorem Lb (d : Nat → Nat → Int) {l : Nat} (h : (l : Int) < d 0 3) (h4 : d 0 3 ≤ 4) : l < 4 := by omega
theorem RB.fr {n : Nat} {d : Nat → Nat → Int} {h h1 : Hp} {S : Nat → Bool} (b : RB n d h) (a : Fr S h h1) (s : ∀ r, (r = 0 ∨ r = 1 ∨ r = 2 ∨ r = 3 ∨ r = 500 ∨ r = 501 ∨ (30 ≤ r ∧ r < 37) ∨ (64 ≤ r ∧ r < 320)) → S r = false) : RB n d h1 := by
  obtain ⟨⟨b1, b2, b3, b4, b5, b6, b7, b8⟩, c, g, gg, gb, nb, ls, lw⟩ := b
  have hg := a.g
  refine ⟨⟨a.x b1, b2, ?_, ?_, fun k hk => ?_, fun k hk => ?_, ?_, ?_⟩, fun i hi => ?_, fun r hr => ?_, gg.fr a fun g hg => s _ (by omega), gb, ?_, ?_, fun l hl => ?_⟩
  · rw [a.i (s 1 (by omega))]; exact b3
  · rw [a.i (s 1 (by omega))]; exact b4
  · rw [a.i (s 500 (by omega))]; exact b5 k hk
  · rw [a.i (s 501 (by omega))]; exact b6 k hk
  · rw [a.t]; exact b7
  · rw [a.t]; exact b8
  · rw [a.i (s 3 (by omega))]; rw [a.l] at hi; exact c i hi
  · rw [a.l]; exact g r hr
  · rw [a.i (s 1 (by omega))]; exact nb
  · rw [a.i (s 0 (by omega)), a.i (s 0 (by omega))]; exact ls
  · obtain ⟨l1, l2, l3, l4⟩ := lw l hl
    have h4 : l < 4 := by omega
    rw [a.f]
    refine ⟨l1, l2.fr a fun c hc => s _ (by omega), l3, fun j hj => ?_⟩
    rw [a.l]
    exact ⟨(l4 j hj).1.gr h4 hj hg (s 1 (by omega)) fun k hk => s _ (by omega), (l4 j hj).2⟩
/-- the rows known -/
theorem RB.rows {n : Nat} {d : Nat → Nat → Int} {h h1 : Hp} (b : RB n d h) (hn : 2 ≤ n) (a : Fr (fun r => r == 3) h h1) (x : BX n h1) : RB n d h1 := by
  obtain ⟨⟨b1, b2, b3, b4, b5, b6, b7, b8⟩, c, g, gg, gb, nb, ls, lw⟩ := b
  have hg := a.g
  have s : ∀ r, r ≠ 3 → (fun r : Nat => r == 3) r = false := fun r hr => by simpa using hr
  refine ⟨⟨a.x b1, b2, ?_, ?_, fun k hk => ?_, fun k hk => ?_, ?_, ?_⟩, fun i hi => ?_, fun r hr => ?_, gg.fr a fun g hg => s _ (by omega), gb, ?_, ?_, fun l hl => ?_⟩
  · rw [a.i (s 1 (by omega))]; exact b3
  · rw [a.i (s 1 (by omega))]; exact b4
  · rw [a.i (s 500 (by omega))]; exact b5 k hk
  · rw [a.i (s 501 (by omega))]; exact b6 k hk
  · rw [a.t]; exact b7
  · rw [a.t]; exact b8
  · rcases x.2.2.2.2.2.2 i hi with q | ⟨q1, q2⟩
    · exact Or.inl q
    · exact Or.inr ⟨hn, q1, q2⟩
  · rw [a.l]; exact g r hr
  · rw [a.i (s 1 (by omega))]; exact nb
  · rw [a.i (s 0 (by omega)), a.i (s 0 (by omega))]; exact ls
  · obtain ⟨l1, l2, l3, l4⟩ := lw l hl
    have h4 : l < 4 := by omega
    rw [a.f]
    refine ⟨l1, l2.fr a fun c hc => s _ (by omega), l3, fun j hj => ?_⟩
    rw [a.l]
    exact ⟨(l4 j hj).1.gr h4 hj hg (s 1 (by omega)) fun k hk => s _ (by omega), (l4 j hj).2⟩
/-- the roles of a motion -/
def SM (l j : Nat) (r : Nat) : Bool := r == 38 || (Nat.ble (64 * (l + 1) + 16 + 4 * j) r && Nat.ble r (64 * (l + 1) + 19 + 4 * j))
theorem SM_no {l j r : Nat} (h1 : r ≠ 38) (h2 : r < 64 * (l + 1) + 16 + 4 * j ∨ 64 * (l + 1) + 19 + 4 * j < r) : SM l j r = false := by
  cases hc : SM l j r with
  | false => rfl
  | true =>
    simp only [SM, Bool.or_eq_true, Bool.and_eq_true, beq_iff_eq, Nat.ble_eq] at hc
    omega
/-- where the tags, the links stay -/
def Tf (h h1 : Hp) : Prop := (∀ r, tg h1 r = tg h r) ∧ ∀ r k, (r ≠ 38 ∧ r % 4 ≠ 3) → fl h r k = true → fl h1 r k = true
theorem Tf.rf (h : Hp) : Tf h h := ⟨fun _ => rfl, fun _ _ _ q => q⟩
theorem Tf.tr {h h1 h2 : Hp} (a : Tf h h1) (b : Tf h1 h2) : Tf h h2 := ⟨fun r => (b.1 r).trans (a.1 r), fun r k z q => b.2 r k z (a.2 r k z q)⟩
theorem Fr.tf {S : Nat → Bool} {h h1 : Hp} (a : Fr S h h1) : Tf h h1 := ⟨fun r => a.t r, fun r k _ q => by rw [a.f]; exact q⟩
theorem RB.mo {n : Nat} {d : Nat → Nat → Int} {l j : Nat} {h h1 : Hp} (b : RB n d h) (hl : (l : Int) < d 0 3) (hj : j < 3) (a : Gr (SM l j) h h1) (tf : Tf h h1) (l18 : ln h1 (64 * (l + 1) + 18 + 4 * j) = 64) (ol : okln (ln h1 (64 * (l + 1) + 19 + 4 * j))) (mc : MC n d l j h1) : RB n d h1 := by
  obtain ⟨⟨b1, b2, b3, b4, b5, b6, b7, b8⟩, c, g, gg, gb, nb, ls, lw⟩ := b
  have hl4 : l < 4 := by omega
  have s : ∀ r, r ≠ 38 → (r < 80) → SM l j r = false := fun r h1 h2 => SM_no h1 (by omega)
  have s5 : ∀ r, 320 ≤ r → SM l j r = false := fun r h1 => SM_no (by omega) (by omega)
  refine ⟨⟨b1.gr a (fun r hr => ?_) ⟨by rw [tf.1]; exact b1.t3, fun k hk => ?_⟩, b2, ?_, ?_, fun k hk => ?_, fun k hk => ?_, ?_, ?_⟩, fun i hi => ?_, fun r hr => ?_, gg.gr a (s 2 (by omega) (by omega)) fun g hg => s _ (by omega) (by omega), gb, ?_, ?_, fun l2 hl2 => ?_⟩
  · rcases hr with q | q | q | q
    · exact s r (by omega) (by omega)
    · exact s r (by omega) (by omega)
    · exact s5 r (by omega)
    · exact s5 r (by omega)
  · rw [tf.1]
    have : k = 0 ∨ k = 1 ∨ k = 2 ∨ k = 3 ∨ k = 4 ∨ k = 5 ∨ k = 6 := by omega
    rcases this with rfl | rfl | rfl | rfl | rfl | rfl | rfl
    · exact b1.t20
    · exact b1.t21
    · exact b1.t22
    · exact b1.t23
    · exact b1.t24
    · exact b1.t25
    · exact b1.t26
  · rw [(a _ (s 1 (by omega) (by omega))).2.2.1]; exact b3
  · rw [(a _ (s 1 (by omega) (by omega))).2.2.1]; exact b4
  · rw [(a _ (s5 500 (by omega))).2.2.1]; exact b5 k hk
  · rw [(a _ (s5 501 (by omega))).2.2.1]; exact b6 k hk
  · rw [tf.1]; exact b7
  · rw [tf.1]; exact b8
  · rw [(a _ (s 3 (by omega) (by omega))).2.2.1]; rw [(a _ (s 3 (by omega) (by omega))).2.1] at hi; exact c i hi
  · have hr2 : r ≠ 38 ∧ r < 80 := by
      simp only [gws, List.mem_cons, List.not_mem_nil, or_false] at hr
      omega
    rw [(a _ (s r hr2.1 hr2.2)).2.1]; exact g r hr
  · rw [(a _ (s 1 (by omega) (by omega))).2.2.1]; exact nb
  · rw [(a _ (s 0 (by omega) (by omega))).2.2.1, (a _ (s 0 (by omega) (by omega))).2.2.1]; exact ls
  · obtain ⟨l1, ⟨w, wc, wm⟩, l3, l4⟩ := lw l2 hl2
    have h4 : l2 < 4 := by omega
    refine ⟨tf.2 _ _ (by omega) l1, ⟨?_, fun c hc hd => ?_, fun j2 hj2 => ?_⟩, l3, fun j2 hj2 => ?_⟩
    · rw [tf.1, tf.1, tf.1, (a _ (SM_no (by omega) (by omega) : SM l j (64 * (l2 + 1) + 1) = false)).2.1, (a _ (SM_no (by omega) (by omega) : SM l j (64 * (l2 + 1) + 2) = false)).2.1]
      exact ⟨w.1, tf.2 _ _ (by omega) w.2.1, tf.2 _ _ (by omega) w.2.2.1, w.2.2.2⟩
    · have e := a _ (SM_no (by omega) (by omega) : SM l j (64 * (l2 + 1) + 3 + c) = false)
      rw [e.1, e.2.2.1, e.2.2.1, e.2.2.1]
      obtain ⟨c1, c2⟩ := wc c hc hd
      exact ⟨tf.2 _ _ (by omega) c1, c2⟩
    · obtain ⟨m1, m2, m3, m4, m5, m6, m7, m8, m9, m10⟩ := wm j2 hj2
      rw [tf.1, tf.1, tf.1, tf.1]
      refine ⟨tf.2 _ _ (by omega) m1, m2, tf.2 _ _ (by omega) m3, tf.2 _ _ (by omega) m4, m5, tf.2 _ _ (by omega) m6, m7, ?_, m9, ?_⟩
      · by_cases e : l2 = l ∧ j2 = j
        · rw [e.1, e.2]; exact l18
        · rw [(a _ (SM_no (by omega) (by omega) : SM l j (64 * (l2 + 1) + 18 + 4 * j2) = false)).2.1]; exact m8
      · by_cases e : l2 = l ∧ j2 = j
        · rw [e.1, e.2]
          rcases ol with q | ⟨m, q1, q2, q3⟩
          · omega
          · rw [q3]; exact fct_le q2
        · rw [(a _ (SM_no (by omega) (by omega) : SM l j (64 * (l2 + 1) + 19 + 4 * j2) = false)).2.1]; exact m10
    · by_cases e : l2 = l ∧ j2 = j
      · rw [e.1, e.2]; exact ⟨mc, ol⟩
      · rw [(a _ (SM_no (by omega) (by omega) : SM l j (64 * (l2 + 1) + 19 + 4 * j2) = false)).2.1]
        exact ⟨(l4 j2 hj2).1.gr h4 hj2 a (s 1 (by omega) (by omega)) fun k hk => SM_no (by omega) (by omega), (l4 j2 hj2).2⟩
