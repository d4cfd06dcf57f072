/-! Boss; what a mixture bears. -/
def cnt9 (v : Int) : Int := if v = -9 then 9999 else v
noncomputable def bsg (F : Nat → Int) (s : Int) : Nat → Nat → Int → Int → Int
  | 0, _, _, best => best
  | k + 1, c, most, best => if most < ab (F c - s) then bsg F s k (c + 1) (ab (F c - s)) (c : Nat) else bsg F s k (c + 1) most best
noncomputable def bossF (n : Nat) (d : Nat → Nat → Int) (l : Nat) (hd g : Int) (x : Nat) (c : Nat) : Int := cnt9 (fstV (fh d n l hd (c : Nat)) (topQ n g) x)
noncomputable def bossA (n : Nat) (d : Nat → Nat → Int) (g l hd : Int) : Int := if soonA n d g l hd < 0 ∧ soonA n d g l hd ≠ -9 then soonA n d g l hd else bsg (bossF n d (d 0 4).toNat hd g l.toNat) (cnt9 (soonA n d g l hd)) (d 4 (d 0 4).toNat).toNat 0 0 (-9)
theorem fh_lt {d : Nat → Nat → Int} {n l : Nat} {hd lo : Int} (hn : 2 ≤ n ∧ n ≤ 7) : ∀ y, y < fct n → fh d n l hd lo y < fct n := fun _ hy => (nxc_row hn hy).1
theorem cnt9_bd {d : Nat → Nat → Int} {n l : Nat} {hd lo g : Int} {x : Nat} (hn : 2 ≤ n ∧ n ≤ 7) (hx : x < fct n) : 0 ≤ cnt9 (fstV (fh d n l hd lo) (topQ n g) x) ∧ cnt9 (fstV (fh d n l hd lo) (topQ n g) x) ≤ 9999 := by
  have h := (fstV_is (fh d n l hd lo) (topQ n g) x).bd (fh_lt hn) hx
  have f5 := fct_le hn.2
  unfold cnt9
  split <;> omega
theorem fstV_bd {d : Nat → Nat → Int} {n l : Nat} {hd lo : Int} {Q : Nat → Prop} {x : Nat} (hn : 2 ≤ n ∧ n ≤ 7) (hx : x < fct n) : fstV (fh d n l hd lo) Q x = -9 ∨ (0 ≤ fstV (fh d n l hd lo) Q x ∧ fstV (fh d n l hd lo) Q x < 5040) := by
  have h := (fstV_is (fh d n l hd lo) Q x).bd (fh_lt hn) hx
  have f5 := fct_le hn.2
  omega
section BOSS
variable {n : Nat} {d : Nat → Nat → Int} {P : Value → Hp → Prop} {l : Nat}
theorem s_counted {h : Hp} {v : Int} (hv : rng v) (k : P (.int (I (cnt9 v))) h) : R 80 0 [.int (I v)] [] h P := by
  unfold cnt9 at k
  refine t_X_counted ⟨hv, fun e => ?_, fun e => ?_⟩
  · rw [if_pos e] at k; exact k
  · rw [if_neg e] at k; exact k
theorem boss_loop (hn2 : 2 ≤ n) (hl : (l : Int) < d 0 3) {x : Nat} (hx : x < fct n) {g hd soon : Int} (hg : rng g) (hh : rng hd) (hs : soon = -9 ∨ (0 ≤ soon ∧ soon < 5040)) : ∀ (k c : Nat) (most best : Int) (h : Hp) (a9 a10 : Value), RX n d h → (c : Int) + k = d 4 l → (0 ≤ most ∧ most ≤ 9999) →
    (∀ h', KX n d h h' → P (.int (I (bsg (bossF n d l hd g x) (cnt9 soon) k c most best))) h') → R 79 45 [.ref 0, .int (I g), .int (I (x : Nat)), .int (I hd), .int (I soon), .ref (64 * (l + 1)), .int (I best), .int (I most), .int (I (c : Nat)), a9, a10] [] h P := by
  intro k
  induction k with
  | zero =>
    intro c most best h a9 a10 X hc hm kk
    have l4 := X.l4 hl
    obtain ⟨l1, ⟨⟨w1, w2, w3, w4, w5, w6, w7⟩, wc, wm⟩, l3, -⟩ := X.1.2.2.2.2.2.2.2 l hl
    have lb1 := l3.1
    refine t_X_boss_45 X.S ?_
    rw [chl0 l4, w5]
    exact ⟨w1, w2, by omega, Or.inl (by omega), by omega, by omega, fun q => absurd q (by omega), fun _ => kk h (KX.rf X)⟩
  | succ k ih =>
    intro c most best h a9 a10 X hc hm kk
    have l4 := X.l4 hl
    have bx := X.1.bx hn2
    have hn := bx.2.1
    have S := X.S
    obtain ⟨l1, lw, l3, -⟩ := X.1.2.2.2.2.2.2.2 l hl
    obtain ⟨⟨w1, w2, w3, w4, w5, w6, w7⟩, wc, wm⟩ := id lw
    have lb1 := l3.1
    have c17 : child 17 0 = 18 := rfl
    refine t_X_boss_45 S ?_
    rw [chl0 l4, w5]
    refine ⟨w1, w2, by omega, Or.inl (by omega), by omega, by omega, fun _ => ?_, fun q => absurd (by omega) q⟩
    have le : LE n d l 17 h := ⟨bx, X.1.2.2.2.1, lw, S.t17, S.f17_0, by decide, by rw [c17]; exact S.t18, by rw [c17]; exact S.l18⟩
    refine s_learn l4 (Or.inl c17) l3 X.1.2.2.2.2.1 hh (by omega) le fun h1 f1 ru => ?_
    rw [c17] at f1
    have s18 : ∀ r, r ≠ 18 → (fun r : Nat => r == 18) r = false := fun r hr => by simpa using hr
    have k1 := X.k3 hn2 f1 (fun r hr => Or.inr (by
      have : r = 18 := by simpa using hr
      omega)) (bx.fr f1 (s18 _ (by omega)) (s18 _ (by omega)) (s18 _ (by omega)))
    refine t_X_boss_72 k1.1.S ?_
    refine s_soonBy (by decide) (by decide) (k1.1.1.bx hn2) ru hg hx fun h2 f2 b2 => ?_
    have k2 := k1.1.k3 hn2 f2 (fun r hr => by
      simp only [Bool.or_eq_true, beq_iff_eq] at hr
      omega) b2
    have bd := fstV_bd (d := d) (l := l) (hd := hd) (lo := (c : Nat)) (Q := topQ n g) hn hx
    have bd2 := cnt9_bd (d := d) (l := l) (hd := hd) (lo := (c : Nat)) (g := g) hn hx
    refine t_X_boss_82 k2.1.S (s_counted (by
      show rng (fstV (fh d n l hd (c : Nat)) (topQ n g) x)
      omega) (t_X_boss_89 k2.1.S (s_counted (by omega) (t_X_boss_94 k2.1.S ?_))))
    have cs : 0 ≤ cnt9 soon ∧ cnt9 soon ≤ 9999 := by unfold cnt9; split <;> omega
    have hF : bossF n d l hd g x c = cnt9 (fstV (nxc (chg d l hd (c : Nat)) n) (topQ n g) x) := rfl
    have bd3 : 0 ≤ bossF n d l hd g x c ∧ bossF n d l hd g x c ≤ 9999 := bd2
    rw [← hF]
    refine s_abs (by omega) ?_
    have hab : (if bossF n d l hd g x c - cnt9 soon < 0 then -(bossF n d l hd g x c - cnt9 soon) else bossF n d l hd g x c - cnt9 soon) = ab (bossF n d l hd g x c - cnt9 soon) := rfl
    rw [hab]
    have ba : 0 ≤ ab (bossF n d l hd g x c - cnt9 soon) ∧ ab (bossF n d l hd g x c - cnt9 soon) ≤ 9999 := by unfold ab; split <;> omega
    rw [bsg] at kk
    refine t_X_boss_98 k2.1.S ⟨by omega, by omega, fun q => ?_, fun q => ?_⟩
    · rw [if_pos q] at kk
      exact ih (c + 1) _ _ h2 _ _ k2.1 (by omega) ba fun h' k3 => kk h' ((k1.tr k2).tr k3)
    · rw [if_neg q] at kk
      exact ih (c + 1) _ _ h2 _ _ k2.1 (by omega) hm fun h' k3 => kk h' ((k1.tr k2).tr k3)
theorem s_boss {h : Hp} (x : RX n d h) {g l hd : Int} (hg : rng g) (hl : rng l) (hh : rng hd) (k : ∀ h', KX n d h h' → P (.int (I (bossA n d g l hd))) h') : R 79 0 [.ref 0, .int (I g), .int (I l), .int (I hd), .retAddr 0, .retAddr 0, .retAddr 0, .retAddr 0, .retAddr 0, .retAddr 0, .retAddr 0] [] h P := by
  refine t_X_boss x.S (s_soon x hg hl hh fun h1 k1 => t_X_boss_7 k1.1.S ?_)
  have cases : (soonA n d g l hd < 0 ∧ soonA n d g l hd ≠ -9) ∨ ((soonA n d g l hd = -9 ∨ (0 ≤ soonA n d g l hd ∧ soonA n d g l hd < 5040)) ∧ (0 ≤ g ∧ g < n) ∧ (0 ≤ l ∧ l < lies n) ∧ (1 ≤ hd ∧ hd ≤ 3) ∧ d 0 3 ≠ 0) := by
    unfold soonA
    by_cases q1 : g < 0 ∨ (n : Int) ≤ g ∨ l < 0 ∨ (lies n : Int) ≤ l
    · rw [if_pos q1]; exact Or.inl (by decide)
    · rw [if_neg q1]
      by_cases q2 : hd < 1 ∨ 3 < hd
      · rw [if_pos q2]; exact Or.inl (by decide)
      · rw [if_neg q2]
        by_cases q3 : d 0 3 = 0
        · rw [if_pos q3]; exact Or.inl (by decide)
        · rw [if_neg q3]
          right
          have hn := lie_n x.n7 (l := l) (by omega)
          have bx := x.1.bx hn
          have e := lies_pos hn
          refine ⟨fstV_bd bx.2.1 (by omega), by omega, by omega, by omega, q3⟩
  have rs : rng (soonA n d g l hd) := by
    unfold soonA
    split
    · decide
    · split
      · decide
      · split
        · decide
        · rename_i q1 _ _
          have hn := lie_n x.n7 (l := l) (by omega)
          have bx := x.1.bx hn
          have e := lies_pos hn
          have := fstV_bd (d := d) (l := (d 0 4).toNat) (hd := hd) (lo := -9) (Q := topQ n g) bx.2.1 (x := l.toNat) (by omega)
          omega
  have k' := fun h' (kx : KX n d h1 h') => k h' (k1.tr kx)
  unfold bossA at k'
  rcases cases with c | ⟨c1, c2, c3, c4, c5⟩
  · rw [if_pos c] at k'
    refine s_lawInForce k1.1 (fun c6 => ?_) (fun l2 c6 c7 => ?_)
    · exact t_X_boss_13b k1.1.S ⟨rs, fun _ => ⟨rs, fun _ => k' h1 (KX.rf k1.1), fun _ => k' h1 (KX.rf k1.1)⟩, fun _ => k' h1 (KX.rf k1.1)⟩
    · exact t_X_boss_13 k1.1.S ⟨rs, fun _ => ⟨rs, fun q => absurd q c.2, fun _ => k' h1 (KX.rf k1.1)⟩, fun q => absurd c.1 q⟩
  · rw [if_neg (by omega)] at k'
    refine s_lawInForce k1.1 (fun c6 => absurd c6 c5) (fun l2 c6 c7 => ?_)
    have el : (d 0 4).toNat = l2 := by omega
    rw [el] at k'
    have hn := lie_n x.n7 c3
    rw [lies_pos hn] at c3
    have e : l = (l.toNat : Nat) := by omega
    have lb1 := (k1.1.1.2.2.2.2.2.2.2 l2 c7).2.2.1.1
    have z := fun a9 a10 => boss_loop (P := P) hn c7 (x := l.toNat) (by omega) hg hh c1 (d 4 l2).toNat 0 0 (-9) h1 a9 a10 k1.1 (by omega) (by omega) k'
    rw [← e] at z
    exact t_X_boss_13 k1.1.S ⟨rs, fun _ => ⟨rs, fun _ => z _ _, fun q => absurd (by omega) q⟩, fun _ => z _ _⟩
def bearQ (n : Nat) (d : Nat → Nat → Int) (m : Int) (y : Nat) : Prop := mxv (d 1) n (rw_ n y) < m
def br9 (v : Int) : Int := if v = -9 then -9 else v - 1
noncomputable def bearsA (n : Nat) (d : Nat → Nat → Int) (hd m : Int) : Int := if hd < 1 ∨ 3 < hd ∨ m < 0 ∨ 99 < m then -2 else if n = 0 ∨ d 0 3 = 0 then -3 else br9 (fstV (fh d n (d 0 4).toNat hd (-9)) (bearQ n d m) (d 0 1).toNat)
theorem sm_bd {f : Nat → Int} {b : Int} : ∀ {k : Nat}, (∀ p, p < k → 0 ≤ f p ∧ f p ≤ b) → 0 ≤ sm f k ∧ sm f k ≤ b * (k : Nat)
  | 0, _ => by simp [sm]
  | k + 1, h => by
    have h1 := sm_bd (k := k) fun p hp => h p (by omega)
    have h2 := h k (by omega)
    rw [sm, show ((k + 1 : Nat) : Int) = (k : Int) + 1 from rfl, Int.mul_add, Int.mul_one]
    omega
theorem mxv_bd {sz : Nat → Int} {r : Nat} (hn : 2 ≤ n ∧ n ≤ 7) (hb : ∀ g, g < n → 1 ≤ sz g ∧ sz g ≤ 9) (hr : okRow n r) : 0 ≤ mxv sz n r ∧ mxv sz n r ≤ 48 := by
  have h := sm_bd (f := mxf sz r) (b := 8) (k := n - 1) fun p hp => by
    have h1 := hb _ (hr.d hn (p := p) (by omega))
    have h2 := hb _ (hr.d hn (p := p + 1) (by omega))
    unfold mxf ab
    split <;> omega
  unfold mxv
  omega
theorem ptv_bd {sz : Nat → Int} {r : Nat} (hn : 2 ≤ n ∧ n ≤ 7) : 0 ≤ ptv sz n r ∧ ptv sz n r ≤ 49 := by
  have h1 : ∀ q, q < n → 0 ≤ sm (ptf sz r q) q ∧ sm (ptf sz r q) q ≤ 7 := fun q hq => by
    have := sm_bd (f := ptf sz r q) (b := 1) (k := q) fun p hp => by unfold ptf; split <;> omega
    omega
  have := sm_bd (k := n) h1
  unfold ptv
  omega
end BOSS
