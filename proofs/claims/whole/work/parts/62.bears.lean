/-! The reference: what a mixture bears. -/
section YBEARS
variable {n : Nat} {d : Nat → Nat → Int} {P : Value → Hp → Prop} {h : Hp}
theorem ybears_loop (hn2 : 2 ≤ n) {l : Nat} (el : (l : Int) = d 0 4) (hl : (l : Int) < d 0 3) {hd mm0 : Int} (hh : rng hd) (hm : rng mm0) {x0 : Nat} (hx0 : x0 < fct n) : ∀ (k s : Nat) (h : Hp), s + k = fct n → RY n d h → (∀ a b, a < b → b < s → itr (fh d n l hd (-9)) a x0 ≠ itr (fh d n l hd (-9)) b x0) → MM (fh d n l hd (-9)) x0 (fct n) s (iv h 428) → (∀ i, i < s → ¬ bearQ n d mm0 (itr (fh d n l hd (-9)) i x0)) →
    (∀ h' v, KS h h' → Fst (fh d n l hd (-9)) (bearQ n d mm0) x0 v → P (.int (I (br9 v))) h') → R 194 49 [.ref 400, .int (I hd), .int (I mm0), .int (I (itr (fh d n l hd (-9)) s x0 : Nat)), .int (I (s : Nat))] [] h P := by
  intro k
  induction k with
  | zero =>
    intro s h hs x dis mm hq kk
    have hn := x.n7
    have hn7 : 2 ≤ n ∧ n ≤ 7 := by omega
    have f5 := fct_le hn7.2
    have hy := itr_lt (f := fh d n l hd (-9)) (fh_lt hn7) hx0 s
    have h9 := met_all (fh_lt hn7) hx0 mm (by omega) dis
    obtain ⟨t, t1, t2, t3⟩ := mm.old hy h9
    refine t_Y_bears_49 x.S ?_
    rw [t3]
    exact ⟨by omega, by omega, by omega, fun c => absurd c (by omega), fun _ => kk h (-9) (KS.rf h) (Fst.none t1 t2 hq)⟩
  | succ k ih =>
    intro s h hs x dis mm hq kk
    have hn := x.n7
    have hn7 : 2 ≤ n ∧ n ≤ 7 := by omega
    have f5 := fct_le hn7.2
    have hy := itr_lt (f := fh d n l hd (-9)) (fh_lt hn7) hx0 s
    by_cases h9 : iv h 428 (itr (fh d n l hd (-9)) s x0 : Nat) = -9
    · refine t_Y_bears_49 x.S ?_
      rw [h9]
      refine ⟨by omega, by omega, by decide, fun _ => ?_, fun c => absurd rfl c⟩
      refine y_valueOf x hn2 hy (Or.inl rfl) fun h1 f1 => ?_
      have x1 := x.ks f1.ks
      have vb := valA_bd (d := d) (w := 0) hn7 x.gb hy
      have ev : valA n d (itr (fh d n l hd (-9)) s x0) 0 = mxv (d 1) n (rw_ n (itr (fh d n l hd (-9)) s x0)) := by
        unfold valA
        exact if_pos rfl
      rw [ev] at vb ⊢
      have mm1 : MM (fh d n l hd (-9)) x0 (fct n) s (iv h1 428) := fun y hy => by rw [f1.i (by decide) (by decide)]; exact mm y hy
      have e19 : iv (setI h1 428 (itr (fh d n l hd (-9)) s x0 : Nat) (s : Nat)) 400 19 = (l : Nat) := by rw [iv_ne (by decide), x1.l4.1, el]
      refine t_Y_bears_66 x1.S ?_
      rw [wr_eq (show rng (s : Nat) by omega), e19]
      refine ⟨by omega, hm, fun c => ?_, fun c => ⟨by omega, by omega, ?_⟩⟩
      · have z := kk h1 ((s : Nat) : Int) f1.ks (Or.inr ⟨s, rfl, c, hq⟩)
        unfold br9 at z
        rw [if_neg (by omega)] at z
        exact z
      · refine y_go x1 (by decide) hn2 hl hh (by omega) hx0 mm1 fun h2 k2 mm2 => t_Y_bears_96 (x1.ks k2).S ?_
        refine ih (s + 1) h2 (by omega) (x1.ks k2) (dis_step dis (mm.dis hy h9)) mm2 (fun i hi => ?_) fun h' v k3 sv => kk h' v ((f1.ks.tr k2).tr k3) sv
        by_cases e : i = s
        · rw [e]; exact c
        · exact hq i (by omega)
    · obtain ⟨t, t1, t2, t3⟩ := mm.old hy h9
      refine t_Y_bears_49 x.S ?_
      rw [t3]
      exact ⟨by omega, by omega, by omega, fun c => absurd c (by omega), fun _ => kk h (-9) (KS.rf h) (Fst.none t1 t2 hq)⟩
theorem y_bears (x : RY n d h) {hd m : Int} (hh : rng hd) (hm : rng m) (k : ∀ h', KY n d h h' → P (.int (I (bearsA n d hd m))) h') : R 194 0 [.ref 400, .int (I hd), .int (I m), .retAddr 0, .retAddr 0] [] h P := by
  unfold bearsA at k
  have hn := x.n7
  have l3 := x.l3
  refine t_Y_bears x.S (y_isHard hh (fun c => ?_) (fun c => ?_))
  · refine t_Y_bears_4 x.S ⟨by decide, fun q => absurd q (by decide), fun _ => y_within hm (by decide) (by decide) (fun c2 => ?_) (fun c2 => ?_)⟩
    · rw [if_neg (by omega)] at k
      refine t_Y_bears_14 x.S ?_
      rw [x.g, l3.1]
      refine ⟨by decide, fun q => absurd q (by decide), fun _ => ⟨by omega, fun c4 => ?_, fun c4 => ⟨by omega, fun c5 => ?_, fun c5 => ?_⟩⟩⟩
      · rw [if_pos (by omega)] at k; exact k h (KY.rf x)
      · rw [if_pos (by omega)] at k; exact k h (KY.rf x)
      · rw [if_neg (by omega)] at k
        have hn2 : 2 ≤ n := by omega
        obtain ⟨l2, el, hl2, e2⟩ := x.inF c5
        obtain ⟨l, l1, l2', l3'⟩ := x.l1 hn2
        rw [e2, l1, show ((l : Nat) : Int).toNat = l from rfl] at k
        refine y_clearMet x hn2 fun h1 k1 g1 => t_Y_bears_41 (x.ks k1).S ?_
        have x1 := x.ks k1
        rw [x1.2.2.2.1.1, l1]
        exact ybears_loop (P := P) hn2 el hl2 hh hm (x0 := l) l2' (fct n) 0 h1 (by omega) x1 (fun a b h1 h2 => by omega) (fun y hy => Or.inr ⟨fun t ht => by omega, g1 y hy⟩) (fun i hi => by omega) fun h' v k3 sv => by
          rw [fstV_eq sv]
          exact k h' (x.k (k1.tr k3))
    · rw [if_pos (by omega)] at k
      exact t_Y_bears_14 x.S ⟨by decide, fun _ => k h (KY.rf x), fun q => absurd rfl q⟩
  · rw [if_pos (by omega)] at k
    exact t_Y_bears_4 x.S ⟨by decide, fun _ => k h (KY.rf x), fun q => absurd rfl q⟩
end YBEARS
