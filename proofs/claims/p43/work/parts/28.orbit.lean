/-! Ways of lies. -/
def itr (f : Nat → Nat) : Nat → Nat → Nat
  | 0, x => x
  | k + 1, x => f (itr f k x)
theorem itr_lt {f : Nat → Nat} {m x : Nat} (hf : ∀ y, y < m → f y < m) (hx : x < m) : ∀ k, itr f k x < m
  | 0 => hx
  | k + 1 => hf _ (itr_lt hf hx k)
theorem pigeon : ∀ (m : Nat) (g : Nat → Nat), (∀ i, i ≤ m → g i < m) → ∃ a b, a < b ∧ b ≤ m ∧ g a = g b := by
  intro m
  induction m with
  | zero => intro g hg; exact absurd (hg 0 (Nat.le_refl _)) (Nat.not_lt_zero _)
  | succ m ih =>
    intro g hg
    by_cases hv : ∃ i, i ≤ m ∧ g i = g (m + 1)
    · obtain ⟨i, h1, h2⟩ := hv
      exact ⟨i, m + 1, by omega, Nat.le_refl _, h2⟩
    · have hv : ∀ i, i ≤ m → g i ≠ g (m + 1) := fun i h1 h2 => hv ⟨i, h1, h2⟩
      have hl := hg (m + 1) (Nat.le_refl _)
      obtain ⟨a, b, h1, h2, h3⟩ := ih (fun i => if g i = m then g (m + 1) else g i) (fun i hi => by
        have h4 := hg i (by omega)
        have h5 := hv i hi
        show (if g i = m then g (m + 1) else g i) < m
        by_cases e : g i = m
        · rw [if_pos e]; omega
        · rw [if_neg e]; omega)
      refine ⟨a, b, h1, by omega, ?_⟩
      have h3 : (if g a = m then g (m + 1) else g a) = (if g b = m then g (m + 1) else g b) := h3
      have va := hv a (by omega)
      have vb := hv b (by omega)
      by_cases ea : g a = m
      · rw [if_pos ea] at h3
        by_cases eb : g b = m
        · omega
        · rw [if_neg eb] at h3; omega
      · rw [if_neg ea] at h3
        by_cases eb : g b = m
        · rw [if_pos eb] at h3; omega
        · rw [if_neg eb] at h3; exact h3
/-- it goes round: the first lie that comes again, and where it was -/
def Rho (f : Nat → Nat) (x j N : Nat) : Prop := j < N ∧ itr f j x = itr f N x ∧ ∀ a b, a < b → b < N → itr f a x ≠ itr f b x
theorem rho_ex {f : Nat → Nat} {m x : Nat} (hf : ∀ y, y < m → f y < m) (hx : x < m) : ∃ j N, N ≤ m ∧ Rho f x j N := by
  have key : ∀ K, (∃ a b, a < b ∧ b ≤ K ∧ itr f a x = itr f b x) → ∃ j N, N ≤ K ∧ Rho f x j N := by
    intro K
    induction K with
    | zero => rintro ⟨a, b, h1, h2, -⟩; omega
    | succ K ih =>
      rintro ⟨a, b, h1, h2, h3⟩
      by_cases hq : ∃ a b, a < b ∧ b ≤ K ∧ itr f a x = itr f b x
      · obtain ⟨j, N, h4, h5⟩ := ih hq
        exact ⟨j, N, by omega, h5⟩
      · have hb : b = K + 1 := by
          apply Classical.byContradiction
          intro hne
          exact hq ⟨a, b, h1, by omega, h3⟩
        subst hb
        exact ⟨a, K + 1, Nat.le_refl _, h1, h3, fun a' b' q1 q2 q3 => hq ⟨a', b', q1, by omega, q3⟩⟩
  obtain ⟨a, b, h1, h2, h3⟩ := pigeon m (fun i => itr f i x) (fun i _ => itr_lt hf hx i)
  exact key m ⟨a, b, h1, h2, h3⟩
theorem Rho.un {f : Nat → Nat} {x j N j' N' : Nat} (a : Rho f x j N) (b : Rho f x j' N') : j = j' ∧ N = N' := by
  obtain ⟨a1, a2, a3⟩ := a
  obtain ⟨b1, b2, b3⟩ := b
  have hN : N = N' := by
    rcases Nat.lt_trichotomy N N' with h | h | h
    · exact absurd a2 (b3 j N a1 h)
    · exact h
    · exact absurd b2 (a3 j' N' b1 h)
  subst hN
  refine ⟨?_, rfl⟩
  rcases Nat.lt_trichotomy j j' with h | h | h
  · exact absurd (a2.trans b2.symm) (a3 j j' h b1)
  · exact h
  · exact absurd (b2.trans a2.symm) (a3 j' j h a1)
/-- all later lies are earlier ones -/
theorem itr_back {f : Nat → Nat} {x t s : Nat} (h : t < s) (e : itr f t x = itr f s x) : ∀ k, ∃ a, a < s ∧ itr f k x = itr f a x := by
  intro k
  induction k with
  | zero => exact ⟨0, by omega, rfl⟩
  | succ k ih =>
    obtain ⟨a, h1, h2⟩ := ih
    by_cases q : a + 1 < s
    · exact ⟨a + 1, q, by show f _ = f _; rw [h2]⟩
    · refine ⟨t, h, ?_⟩
      have : a + 1 = s := by omega
      show f _ = _
      rw [h2, e, ← this]
      rfl
/-- the first of the way of which Q holds; -9 where none is -/
def Fst (f : Nat → Nat) (Q : Nat → Prop) (x : Nat) (v : Int) : Prop := (v = -9 ∧ ∀ k, ¬ Q (itr f k x)) ∨ ∃ k : Nat, v = k ∧ Q (itr f k x) ∧ ∀ i, i < k → ¬ Q (itr f i x)
theorem Fst.un {f : Nat → Nat} {Q : Nat → Prop} {x : Nat} {v w : Int} (a : Fst f Q x v) (b : Fst f Q x w) : v = w := by
  rcases a with ⟨rfl, a⟩ | ⟨k, rfl, a1, a2⟩ <;> rcases b with ⟨rfl, b⟩ | ⟨i, rfl, b1, b2⟩
  · rfl
  · exact absurd b1 (a i)
  · exact absurd a1 (b k)
  · rcases Nat.lt_trichotomy k i with h | h | h
    · exact absurd a1 (b2 k h)
    · rw [h]
    · exact absurd b1 (a2 i h)
theorem fst_ex (f : Nat → Nat) (Q : Nat → Prop) (x : Nat) : ∃ v, Fst f Q x v := by
  by_cases h : ∃ k, Q (itr f k x)
  · obtain ⟨k, hk⟩ := h
    have key : ∀ K, (∃ k, k ≤ K ∧ Q (itr f k x)) → ∃ k : Nat, Q (itr f k x) ∧ ∀ i, i < k → ¬ Q (itr f i x) := by
      intro K
      induction K with
      | zero => rintro ⟨k, h1, h2⟩; exact ⟨k, h2, fun i hi => by omega⟩
      | succ K ih =>
        rintro ⟨k, h1, h2⟩
        by_cases q : ∃ k, k ≤ K ∧ Q (itr f k x)
        · exact ih q
        · exact ⟨k, h2, fun i hi hq => q ⟨i, by omega, hq⟩⟩
    obtain ⟨k, h1, h2⟩ := key k ⟨k, Nat.le_refl _, hk⟩
    exact ⟨k, Or.inr ⟨k, rfl, h1, h2⟩⟩
  · exact ⟨-9, Or.inl ⟨rfl, fun k hk => h ⟨k, hk⟩⟩⟩
/-- found early or never -/
theorem Fst.none {f : Nat → Nat} {Q : Nat → Prop} {x t s : Nat} (h : t < s) (e : itr f t x = itr f s x) (hq : ∀ k, k < s → ¬ Q (itr f k x)) : Fst f Q x (-9) :=
  Or.inl ⟨rfl, fun k => by
    obtain ⟨a, h1, h2⟩ := itr_back h e k
    rw [h2]
    exact hq a h1⟩
theorem Fst.all {f : Nat → Nat} {Q : Nat → Prop} {m x : Nat} (hf : ∀ y, y < m → f y < m) (hx : x < m) (hq : ∀ k, k ≤ m → ¬ Q (itr f k x)) : Fst f Q x (-9) := by
  obtain ⟨a, b, h1, h2, h3⟩ := pigeon m (fun i => itr f i x) (fun i _ => itr_lt hf hx i)
  exact Fst.none h1 h3 (fun k hk => hq k (by omega))
theorem Fst.bd {f : Nat → Nat} {Q : Nat → Prop} {m x : Nat} {v : Int} (hf : ∀ y, y < m → f y < m) (hx : x < m) (a : Fst f Q x v) : v = -9 ∨ (0 ≤ v ∧ v < m) := by
  rcases a with ⟨rfl, -⟩ | ⟨k, rfl, h1, h2⟩
  · exact Or.inl rfl
  · right
    refine ⟨by omega, ?_⟩
    apply Classical.byContradiction
    intro hk
    obtain ⟨a, b, g1, g2, g3⟩ := pigeon m (fun i => itr f i x) (fun i _ => itr_lt hf hx i)
    have g3 : itr f a x = itr f b x := g3
    obtain ⟨c, c1, c2⟩ := itr_back g1 g3 k
    rw [c2] at h1
    exact h2 c (by omega) h1
/-- where a lie goes by any rule -/
def nxc (c : Nat → Nat → Nat → Bool) (n lie : Nat) : Nat := cl n (shk c n (rw_ n lie))
theorem nxc_row {c : Nat → Nat → Nat → Bool} {n lie : Nat} (hn : 2 ≤ n ∧ n ≤ 7) (hl : lie < fct n) : nxc c n lie < fct n ∧ rw_ n (nxc c n lie) = shk c n (rw_ n lie) := (shk_ok hn ⟨lie, hl, rfl⟩).cl hn
theorem rw_inj {n a b : Nat} (hn : 2 ≤ n ∧ n ≤ 7) (ha : a < fct n) (hb : b < fct n) (e : rw_ n a = rw_ n b) : a = b := by
  have h1 := (rank_facts hn ha).1
  have h2 := (rank_facts hn hb).1
  rw [e] at h1
  exact h1.symm.trans h2
