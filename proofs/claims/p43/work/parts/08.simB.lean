theorem range_all {n : Nat} {f : Nat → Bool} (h : (List.range n).all f = true) {k : Nat} (hk : k < n) : f k = true := List.all_eq_true.mp h k (List.mem_range.mpr hk)
theorem lay_in {ci : Nat} (hci : ci < 12) : ∀ w ∈ u_ws (cn ci) (cT ci) (cSz ci), w ∈ goodWs := by
  intro w hw
  obtain ⟨k, hk, rfl⟩ := List.mem_map.mp hw
  have h1 := range_all (range_all okLay_all hci) (List.mem_range.mp hk)
  refine good_at (wAt_eq h1) ?_
  unfold u_lay
  split <;> rfl
theorem ty_all : (List.range 12).all (fun ci => (List.range (cSz ci)).all (fun k => decide (parseFieldDescriptor (cT ci k).2.2.1 = some (cTy ci k)) && (if rfs ci k then decide (defaultValue (cTy ci k) = .null) && (cTy ci k).isReference else decide (cTy ci k = .int ∨ cTy ci k = .boolean)))) = true := by decide +kernel
theorem nm_all : (List.range 12).all (fun ci => (List.range (cSz ci)).all (fun a => (List.range (cSz ci)).all (fun b => a == b || decide ((cT ci a).2.1 ≠ (cT ci b).2.1)))) = true := by decide +kernel
theorem ty_at {ci k : Nat} (hci : ci < 12) (hk : k < cSz ci) : parseFieldDescriptor (cT ci k).2.2.1 = some (cTy ci k) ∧ (rfs ci k = true → defaultValue (cTy ci k) = .null ∧ (cTy ci k).isReference = true) ∧ (rfs ci k = false → cTy ci k = .int ∨ cTy ci k = .boolean) := by
  have h := range_all (range_all ty_all hci) hk
  rw [Bool.and_eq_true, decide_eq_true_eq] at h
  refine ⟨h.1, fun q => ?_, fun q => ?_⟩
  · have h2 := h.2
    rw [if_pos q, Bool.and_eq_true, decide_eq_true_eq] at h2
    exact h2
  · have h2 := h.2
    rw [if_neg (by rw [q]; decide), decide_eq_true_eq] at h2
    exact h2
theorem nm_at {ci : Nat} (hci : ci < 12) : ∀ a, a < cSz ci → ∀ b, b < cSz ci → a ≠ b → (cT ci a).2.1 ≠ (cT ci b).2.1 := by
  intro a ha b hb hab
  have h := range_all (range_all (range_all nm_all hci) ha) hb
  rw [Bool.or_eq_true, beq_iff_eq, decide_eq_true_eq] at h
  rcases h with h | h
  · exact absurd h hab
  · exact h
theorem sub_tab : [4, 6].all (fun c => decide (cSz c = cSz 2) && (List.range (cSz 2)).all (fun k => decide (cT c k = cT 2 k) && decide (rfs c k = rfs 2 k) && decide (cTy c k = cTy 2 k))) = true := by decide +kernel
theorem tag_obj {ci t : Nat} (hci : ci < 12) (h : tagok ci t = true) : ∃ c, t = c + 1 ∧ c < 12 ∧ cSz c = cSz ci ∧ ∀ k, k < cSz ci → cT c k = cT ci k ∧ rfs c k = rfs ci k ∧ cTy c k = cTy ci k := by
  simp only [tagok, Bool.or_eq_true, Bool.and_eq_true, beq_iff_eq] at h
  have key : ∀ c, c ∈ [4, 6] → cSz c = cSz 2 ∧ ∀ k, k < cSz 2 → cT c k = cT 2 k ∧ rfs c k = rfs 2 k ∧ cTy c k = cTy 2 k := by
    intro c hc
    have := List.all_eq_true.mp sub_tab c hc
    rw [Bool.and_eq_true, decide_eq_true_eq] at this
    refine ⟨this.1, fun k hk => ?_⟩
    have h2 := range_all this.2 hk
    simp only [Bool.and_eq_true, decide_eq_true_eq] at h2
    exact ⟨h2.1.1, h2.1.2, h2.2⟩
  rcases h with h | ⟨rfl, h | h⟩
  · exact ⟨ci, h, hci, rfl, fun k _ => ⟨rfl, rfl, rfl⟩⟩
  · obtain ⟨k1, k2⟩ := key 4 (by decide)
    exact ⟨4, h, by decide, k1, k2⟩
  · obtain ⟨k1, k2⟩ := key 6 (by decide)
    exact ⟨6, h, by decide, k1, k2⟩
theorem fld_row {o j ci k : Nat} (h : fld o j = some (ci, k)) : (.fieldLink (on o) j (cT ci k).1 (cT ci k).2.1 (cT ci k).2.2.1 : Jvm.Cond) ∈ goodWs ∧ ci < 12 ∧ k < cSz ci := by
  unfold fld at h
  obtain ⟨q, hq, he⟩ := Option.map_eq_some_iff.mp h
  have h1 := List.find?_some hq
  have h2 := List.all_eq_true.mp okFld_all q (List.mem_of_find?_eq_some hq)
  simp only [Bool.and_eq_true, beq_iff_eq] at h1
  simp only [okFld, Bool.and_eq_true, decide_eq_true_eq] at h2
  cases he
  rw [← h1.1, ← h1.2]
  exact ⟨good_at (wAt_eq h2.1.1) rfl, h2.1.2, h2.2⟩
theorem fit_int {ty : FieldType} {x : Int32} (h : ty = .int ∨ (ty = .boolean ∧ bz x = true)) : narrow ty (.int x) = .int x ∧ fits ty (.int x) = true := by
  rcases h with rfl | ⟨rfl, h⟩
  · exact ⟨rfl, rfl⟩
  · simp only [bz, Bool.or_eq_true, beq_iff_eq] at h
    rcases h with rfl | rfl <;> exact ⟨rfl, rfl⟩
theorem fit_ref {ty : FieldType} {a : Nat} (h : ty.isReference = true) : narrow ty (.ref a) = .ref a ∧ fits ty (.ref a) = true := by
  cases ty <;> first | (cases h; done) | exact ⟨rfl, rfl⟩
theorem toNatN (i : Int32) : i.toNatClampNeg = i.toInt.toNat := rfl
theorem nlt0 {i : Int32} (h : 0 ≤ i.toInt) : ¬ i < 0 := by
  rw [Int32.lt_iff_toInt_lt]
  have : (0 : Int32).toInt = 0 := rfl
  omega
section SIMB
variable {D : va_G} {cI : ClassId} {cA : Nat → ClassId} {base : Nat} {p : Program} {l : Launch} {e : Env} {R : Room} {s : State} {m : MethodId} {args : Array Value} {below : List Frame} {meth : Method} {c : Code} {Q : State → Prop} {y : Nat} {vf : Value} {hf : Hp}
theorem Fin.step {A A1 : Nat → Nat} {h h1 : Hp} {cells slots cells1 slots1 : Nat} (K : Fin D cI cA base p l e R s m args below meth c Q y vf hf A h cells slots) (q : Pres y A A1 h h1) (e1 : cells1 + ck h = cells + ck h1) (e2 : slots1 + cu h = slots + cu h1) : Fin D cI cA base p l e R s m args below meth c Q y vf hf A1 h1 cells1 slots1 :=
  fun A' H' locs' cells' slots' pc' arr' q' r o lo f1 f2 ri => K A' H' locs' cells' slots' pc' arr' (q.tr q') r o lo (by omega) (by omega) ri
/-- an object of a class whose fields are those of ci -/
theorem obj_at {ci r : Nat} {A : Nat → Nat} {h : Hp} {H : Heap} (hR : Rep D cI cA base A h s H) (hci : ci < 12) (ht : tagok ci (tg h r) = true) (hKF : KF D cI cA s) (hts : ∀ w ∈ goodWs, w.before args s = true) {k : Nat} (hk : k < cSz ci) :
    ∃ (c' : Nat) (cell : Cell) (kC : Class) (cf : Nat) (kf : Class) (fi : Nat) (f : Field), tg h r = c' + 1 ∧ c' < 12 ∧ k < cSz c' ∧ cT c' k = cT ci k ∧ rfs c' k = rfs ci k ∧ cTy c' k = cTy ci k ∧ H[A r]? = some cell ∧ cell.cls = D.1 c' ∧ cell.vm = .none ∧ (∀ j, j < cSz c' → cell.slots[D.2 c' j]? = some (slv A h c' r j)) ∧
      s.vm.findClass (cn c') = some (D.1 c') ∧ s.vm.classes[D.1 c']? = some kC ∧ kC.kind = .ordinary ∧ s.fieldFound? (cT ci k).1 (cT ci k).2.1 (cT ci k).2.2.1 = some (cf, kf, fi, f) ∧ f.slot = D.2 c' k ∧ f.isStatic = false := by
  obtain ⟨c', t1, t2, t3, t4⟩ := tag_obj hci ht
  obtain ⟨t5, t6, t7⟩ := t4 k hk
  obtain ⟨cell, q1, q2, q3, q4⟩ := (hR.2.1 r (by omega)).1 c' t1 t2
  obtain ⟨hS, hfc, kC, hkC, hkind⟩ := hKF.1.1 c' _ (cl_at t2)
  have hk' : k < cSz c' := by omega
  obtain ⟨cf, kf, fi, f, hi, hsl⟩ := hS k hk'
  have hst := (u_facts hfc hkC (u_lays hts (lay_in t2) hk') hi).1
  have hi2 : s.fieldFound? (cT c' k).1 (cT c' k).2.1 (cT c' k).2.2.1 = some (cf, kf, fi, f) := hi
  rw [t5] at hi2
  exact ⟨c', cell, kC, cf, kf, fi, f, t1, t2, hk', t5, t6, t7, q1, q2, q3, q4, hfc, hkC, hkind, hi2, hsl, hst⟩
theorem sim_getfield {n : Nat} (E : EnvM D cI cA p s m args meth c y) (ih : IH D cI cA base p l e R s m args below meth c Q y vf hf n) {pc len : Nat} {ls st : List Value} {h : Hp} {A : Nat → Nat} {arr : Array Slot} {H : Heap} {locs : List Loc} {cells slots : Nat}  {j : Nat} 
    (hd : decode (mB y) pc = .ok (.getfield j, len)) (hok : okl (.getfield j) len = true) (he : stp y pc len ls st h (exec n y) (fun y a h' => exec n y 0 (ent y a) [] h') (.getfield j) = some (vf, hf)) (S : Stt D cI cA base s R y hf A h ls st arr H locs cells slots) (K : Fin D cI cA base p l e R s m args below meth c Q y vf hf A h cells slots) :
    W p l e R s m args below meth c H locs cells slots Q (F0 m pc arr (st.map (cvv A))) := by
  obtain ⟨hx, hb, hml, hown, hts, hKF, hnm⟩ := E
  obtain ⟨hR, hl, ho, hs, hloc, hce, hsl, hfr, hlo⟩ := S
  obtain rfl : len = 3 := by simpa [okl] using hok
  simp only [stp] at he
  split at he
  · rename_i ci k hq
    obtain ⟨hw, hci, hk⟩ := fld_row hq
    obtain ⟨r, t, rfl, he2⟩ := r1_some he
    obtain ⟨h1, he3⟩ := gd_some he2
    obtain ⟨c', cell, kC, cf, kf, fi, f, t1, t2, hk', t5, t6, t7, q1, q2, q3, q4, hfc, hkC, hkind, hi, hsl2, hst⟩ := obj_at hR hci h1 hKF hts hk
    refine W.getf (v := slv A h c' r k) hx hb hown (hts _ hw) hi hst q1 (by rw [q3]; exact fun q => by cases q) (by rw [hsl2]; exact q4 k hk') rfl rfl hd ?_
    have o1 := (okS_cons.mp hs).2
    split at he3
    · rename_i hrf
      obtain ⟨h2, he4⟩ := gd_some he3
      rw [Bool.and_eq_true, bne_iff_ne] at h2
      rw [slv, t6, if_pos hrf, elv, if_pos h2.1]
      exact ih _ _ (.ref (child r k) :: t) _ _ _ _ _ _ _ he4 ⟨hR, hl, ho, okS_cons.mpr ⟨h2.2, o1⟩, hloc, hce, hsl, hfr, hlo⟩ K
    · rename_i hrf
      rw [slv, t6, if_neg hrf]
      exact ih _ _ (.int _ :: t) _ _ _ _ _ _ _ he3 ⟨hR, hl, ho, okS_cons.mpr ⟨trivial, o1⟩, hloc, hce, hsl, hfr, hlo⟩ K
  · cases he
theorem okS_tags {h h1 : Hp} {l : List Value} (e : ∀ r, tg h1 r = tg h r) (hl : okS h l) : okS h1 l := by
  intro v hv
  have := hl v hv
  cases v with
  | ref r => show tg h1 r ≠ 0; rw [e]; exact this
  | _ => exact trivial
theorem locs_to {locs : List Loc} {a i : Nat} (h : ∀ q ∈ locs, base ≤ q.base) (ha : base ≤ a) : ∀ q ∈ locs ++ [(⟨a, i⟩ : Loc)], base ≤ q.base := by
  intro q hq
  rcases List.mem_append.mp hq with h1 | h1
  · exact h q h1
  · rw [List.mem_singleton.mp h1]; exact ha
theorem put_at {pc j ci k r : Nat} {A : Nat → Nat} {h : Hp} {H : Heap} {locs : List Loc} {cells slots : Nat} {arr : Array Slot} {v : Value} {rest : List Value} (E : EnvM D cI cA p s m args meth c y) (hR : Rep D cI cA base A h s H) (hq : fld (mO y) j = some (ci, k)) (hp : pok y ci k = true) (h1 : tagok ci (tg h r) = true) (hv : narrow (cTy ci k) v = v ∧ fits (cTy ci k) v = true) (hd : decode (mB y) pc = .ok (.putfield j, 3))
    (kk : ∀ (c' : Nat) (H1 : Heap) (sl : Nat), tg h r = c' + 1 → c' < 12 → rfs c' k = rfs ci k → H1.size = H.size → (∀ q, q ≠ A r → H1[q]? = H[q]?) → t_OB (A r) (D.1 c') (cSz c') (D.2 c') H1 (updV (slv A h c' r) k v) → W p l e R s m args below meth c H1 (locs ++ [⟨A r, sl⟩]) cells slots Q (F0 m (pc + 3) arr rest)) :
    W p l e R s m args below meth c H locs cells slots Q (F0 m pc arr (v :: .ref (A r) :: rest)) := by
  obtain ⟨hx, hb, hml, hown, hts, hKF, hnm⟩ := E
  obtain ⟨hw, hci, hk⟩ := fld_row hq
  obtain ⟨c', cell, kC, cf, kf, fi, f, t1, t2, hk', t5, t6, t7, q1, q2, q3, q4, hfc, hkC, hkind, hi, hsl2, hst⟩ := obj_at hR hci h1 hKF hts hk
  have hd2 : parseFieldDescriptor (cT ci k).2.2.1 = some (cTy ci k) := (ty_at hci hk).1
  have hap : ∀ a b, a < cSz c' → b < cSz c' → a ≠ b → D.2 c' a ≠ D.2 c' b := va_apart (own := on (mO y)) hts (lay_in t2) (cTy c') (fun k hk => (ty_at t2 hk).1) (nm_at t2) hKF.1 (cl_at t2)
  have hlay := hts _ (lay_in t2 _ (u_in_lay hk'))
  have hlt : f.slot < cell.slots.size := by rw [hsl2]; exact k2_hasslot (q4 k hk')
  have fin : ∀ H' : Heap, H'[A r]? = some (cell.setSlot f.slot v) → t_OB (A r) (D.1 c') (cSz c') (D.2 c') H' (updV (slv A h c' r) k v) := by
    intro H' e1
    rw [hsl2] at e1
    exact ⟨_, e1, q2, q3, t_set q4 hap hk' v⟩
  unfold u_lay at hlay
  rw [t5] at hlay
  by_cases hfin : (cT ci k).2.2.2 = true
  · rw [if_pos hfin] at hlay
    have hp2 : (mt y).2.1 = "<init>" ∧ (cT ci k).1 = on (mO y) := by
      simp only [pok, Bool.or_eq_true, Bool.and_eq_true, decide_eq_true_eq, hfin] at hp
      simpa using hp
    have hcf : m.cls = cf := by
      obtain ⟨_, _, c1, _, _, _, -, -, hf', -, -, -, hown2, -⟩ := Cond.laysFinal_spec hlay
      have e1 : c1 = cf := by have := hi.symm.trans hf'; simp at this; exact this.1.symm
      rw [hp2.2] at hown2
      rw [← e1]; exact Option.some.inj (hown.symm.trans hown2)
    have h6 := u_fits hfc hkC hkind (Or.inr hlay) hi hd2 hv.1 hv.2
    refine W.putFinK hx hb hown (hts _ hw) hi hst hcf (hnm.trans hp2.1) (by rw [q2]; exact h6) q1 q3 hlt rfl rfl hd fun H' e1 e2 e3 => ?_
    exact kk c' H' f.slot t1 t2 t6 e2 e3 (fin H' e1)
  · rw [if_neg hfin] at hlay
    have h6 := u_store hfc hkC hkind hlay hi hd2 hv.1 hv.2
    refine W.putK hx hb (f := f) ⟨hown, hts _ hw, ⟨_, _, _, hi⟩, hst⟩ (by rw [q2]; exact h6) q1 q3 hlt rfl rfl hd fun H' e1 e2 e3 => ?_
    exact kk c' H' f.slot t1 t2 t6 e2 e3 (fin H' e1)
theorem gw_self {r k : Nat} (h1 : gw (child r k) = true) (h2 : gw r = false) : r ≠ child r k := fun e => by rw [← e, h2] at h1; cases h1
theorem child_inj {r k j : Nat} (h1 : gw (child r k) = true) (e : child r j = child r k) : j = k := by
  have a := par_child r k h1
  have b := par_child r j (by rw [e]; exact h1)
  rw [e, a] at b
  cases b
  rfl
theorem gw38 : gw 38 = true := rfl
theorem Pres.mov {A : Nat → Nat} {h : Hp} {r k q : Nat} (hm : mv y = true) (hg : gw (child r k) = true) (hq : gw q = true) : Pres y A (up1 A (child r k) (A q)) h (mov h r k (child r k) q) := by
  intro w hw hgw
  have hgw := hgw hm
  have n1 : w ≠ q := fun e => by rw [e, hq] at hgw; cases hgw
  have n2 : w ≠ child r k := fun e => by rw [e, hg] at hgw; cases hgw
  refine ⟨by rw [tg_mov, if_neg n1, if_neg n2], ?_⟩
  unfold up1
  rw [if_neg n2]
theorem sim_putfield {n : Nat} (E : EnvM D cI cA p s m args meth c y) (ih : IH D cI cA base p l e R s m args below meth c Q y vf hf n) {pc len : Nat} {ls st : List Value} {h : Hp} {A : Nat → Nat} {arr : Array Slot} {H : Heap} {locs : List Loc} {cells slots : Nat}  {j : Nat} 
    (hd : decode (mB y) pc = .ok (.putfield j, len)) (hok : okl (.putfield j) len = true) (he : stp y pc len ls st h (exec n y) (fun y a h' => exec n y 0 (ent y a) [] h') (.putfield j) = some (vf, hf)) (S : Stt D cI cA base s R y hf A h ls st arr H locs cells slots) (K : Fin D cI cA base p l e R s m args below meth c Q y vf hf A h cells slots) :
    W p l e R s m args below meth c H locs cells slots Q (F0 m pc arr (st.map (cvv A))) := by
  obtain ⟨hx, hb, hml, hown, hts, hKF, hnm⟩ := E
  obtain ⟨hR, hl, ho, hs, hloc, hce, hsl, hfr, hlo⟩ := S
  obtain rfl : len = 3 := by simpa [okl] using hok
  simp only [stp] at he
  split at he
  · rename_i ci k hq
    obtain ⟨hp, he2⟩ := gd_some he
    split at he2
    · rename_i x r t
      obtain ⟨h1, he3⟩ := gd_some he2
      simp only [Bool.and_eq_true, Bool.not_eq_true', Bool.or_eq_true, beq_iff_eq] at h1
      obtain ⟨⟨h1, hrf⟩, hty⟩ := h1
      refine put_at ⟨hx, hb, hml, hown, hts, hKF, hnm⟩ hR hq hp h1 (fit_int ?_) hd ?_
      · rcases hty with hty | hty
        · exact Or.inl hty
        · rcases (ty_at (fld_row hq).2.1 (fld_row hq).2.2).2.2 hrf with h2 | h2
          · exact Or.inl h2
          · exact Or.inr ⟨h2, hty⟩
      · intro c' H1 sl t1 t2 t6 z oq ho2
        refine ih _ _ t _ _ _ _ _ _ _ he3 ⟨hR.setObj t1 t2 (by rw [t6]; exact hrf) z oq ho2, hl, okS_tags (fun _ => rfl) ho, okS_tags (fun _ => rfl) (okS_cons.mp (okS_cons.mp hs).2).2, locs_to hloc (hR.2.2.1 r (by omega) (by omega)), hce, hsl, hfr, hlo⟩ (K.step (Pres.tags (fun _ => rfl)) rfl rfl)
    · rename_i q r t
      obtain ⟨h1, he3⟩ := gd_some he2
      rw [Bool.and_eq_true] at h1
      obtain ⟨h1, hrf⟩ := h1
      have hty := ((ty_at (fld_row hq).2.1 (fld_row hq).2.2).2.1 hrf).2
      have o0 := okS_cons.mp hs
      refine put_at ⟨hx, hb, hml, hown, hts, hKF, hnm⟩ hR hq hp h1 (fit_ref hty) hd ?_
      intro c' H1 sl t1 t2 t6 z oq ho2
      split at he3
      · rename_i hqc
        rw [hqc] at ho2
        have hch : tg h (child r k) ≠ 0 := by rw [← hqc]; exact o0.1
        exact ih _ _ t _ _ _ _ _ _ _ he3 ⟨hR.setLink t1 t2 (by rw [t6]; exact hrf) hch z oq ho2, hl, okS_tags (fun _ => rfl) ho, okS_tags (fun _ => rfl) (okS_cons.mp o0.2).2, locs_to hloc (hR.2.2.1 r (by omega) (by omega)), hce, hsl, hfr, hlo⟩ (K.step (Pres.tags (fun _ => rfl)) rfl rfl)
      · obtain ⟨h2, he4⟩ := gd_some he3
        simp only [Bool.and_eq_true, Bool.not_eq_true', beq_iff_eq, decide_eq_true_eq] at h2
        obtain ⟨⟨⟨⟨⟨⟨⟨hm, rfl⟩, hg⟩, hgr⟩, hch⟩, h38⟩, hng⟩, hns⟩ := h2
        have P : Pres y A (up1 A (child r k) (A 38)) h (mov h r k (child r k) 38) := Pres.mov hm hg rfl
        have hrc := gw_self hg hgr
        have hA : up1 A (child r k) (A 38) r = A r := by unfold up1; rw [if_neg hrc]
        have hr38 : r ≠ 38 := fun e => by rw [e] at hgr; cases hgr
        have hR1 : Rep D cI cA base (up1 A (child r k) (A 38)) (mov h r k (child r k) 38) s H1 := by
          refine hR.move (by omega) (by omega) hg hgr (Or.inl ⟨rfl, h38⟩) z oq ⟨fun c2 e1 e2 => ?_, fun e1 => ?_, fun e1 e2 => ?_, fun e1 => ?_⟩
          · rw [tg_mov, if_neg hr38, if_neg hrc] at e1
            obtain rfl : c2 = c' := by omega
            rw [hA]
            refine ho2.to (fun j hj => ?_)
            unfold updV slv elv
            by_cases hjk : j = k
            · rw [if_pos hjk, hjk, t6, if_pos hrf, fl_mov, if_pos (⟨rfl, rfl⟩ : r = r ∧ k = k)]
              unfold up1
              rw [if_pos rfl, if_pos rfl]
              rfl
            · have n1 : child r j ≠ child r k := fun e => hjk (child_inj hg e)
              rw [if_neg hjk, iv_mov, if_neg hrc, fl_mov, if_neg hrc, if_neg (fun e : r = r ∧ j = k => hjk e.2)]
              unfold up1
              rw [if_neg n1]
          all_goals (rw [tg_mov, if_neg hr38, if_neg hrc] at e1)
          · omega
          · rw [tg_mov, if_neg hr38, if_neg hrc] at e2; omega
          · omega
        have o3 := okS.to P (okS_cons.mp o0.2).2 (fun _ => hns)
        have w := ih _ _ t _ (up1 A (child r k) (A 38)) _ _ (locs ++ [⟨A r, sl⟩]) cells slots he4 ⟨hR1, hl.to P ho (fun _ => hng), (okS.to P ho (fun _ => hng)).1, o3.1, locs_to hloc (hR.2.2.1 r (by omega) (by omega)), hce, hsl, hfr, hlo⟩ (K.step P rfl rfl)
        rw [o3.2] at w
        exact w
    · cases he2
  · cases he
theorem inr_some {i : Int32} {N : Nat} (h : inr i N = true) : 0 ≤ i.toInt ∧ i.toNatClampNeg < N ∧ ¬ i < 0 ∧ ((i.toNatClampNeg : Nat) : Int) = i.toInt := by
  simp only [inr, Bool.and_eq_true, decide_eq_true_eq] at h
  refine ⟨h.1, ?_, nlt0 h.1, ?_⟩
  · rw [toNatN]; omega
  · rw [toNatN]; omega
theorem not_in {i : Int32} {N M : Nat} (h : inr i N = true) (hM : N ≤ M) : ¬ (i < 0 ∨ M ≤ i.toNatClampNeg) := by
  obtain ⟨a, b, c, d⟩ := inr_some h
  rintro (q | q)
  · exact c q
  · omega
theorem tyI (hKF : KF D cI cA s) : ArrOfT s cI .int ∧ va_RA s cI .int := hKF.1.2 0 (cI, .int) rfl
theorem tyA (hKF : KF D cI cA s) {t : Nat} (h1 : 21 ≤ t) (h2 : t ≤ 25) : ArrOfT s (cA t) (.object (aName t)) ∧ va_RA s (cA t) (.object (aName t)) := by
  refine hKF.1.2 (t - 20) (cA t, .object (aName t)) ?_
  have : t = 21 ∨ t = 22 ∨ t = 23 ∨ t = 24 ∨ t = 25 := by omega
  rcases this with rfl | rfl | rfl | rfl | rfl <;> rfl
theorem sim_iaload {n : Nat} (E : EnvM D cI cA p s m args meth c y) (ih : IH D cI cA base p l e R s m args below meth c Q y vf hf n) {pc len : Nat} {ls st : List Value} {h : Hp} {A : Nat → Nat} {arr : Array Slot} {H : Heap} {locs : List Loc} {cells slots : Nat}  
    (hd : decode (mB y) pc = .ok (.iaload, len)) (hok : okl (.iaload) len = true) (he : stp y pc len ls st h (exec n y) (fun y a h' => exec n y 0 (ent y a) [] h') (.iaload) = some (vf, hf)) (S : Stt D cI cA base s R y hf A h ls st arr H locs cells slots) (K : Fin D cI cA base p l e R s m args below meth c Q y vf hf A h cells slots) :
    W p l e R s m args below meth c H locs cells slots Q (F0 m pc arr (st.map (cvv A))) := by
  obtain ⟨hx, hb, hml, hown, hts, hKF, hnm⟩ := E
  obtain ⟨hR, hl, ho, hs, hloc, hce, hsl, hfr, hlo⟩ := S
  obtain rfl : len = 1 := by simpa [okl] using hok
  simp only [stp] at he
  obtain ⟨r, i, t, rfl, he2⟩ := ri_some he
  obtain ⟨h1, he3⟩ := gd_some he2
  simp only [Bool.and_eq_true, Bool.or_eq_true, beq_iff_eq] at h1
  obtain ⟨h1, h2⟩ := h1
  obtain ⟨i0, i1, i2, i3⟩ := inr_some h2
  have o2 := (okS_cons.mp (okS_cons.mp hs).2).2
  have w := ih _ _ (.int (I (iv h r i.toInt)) :: t) _ _ _ _ _ _ _ he3 ⟨hR, hl, ho, okS_cons.mpr ⟨trivial, o2⟩, hloc, hce, hsl, hfr, hlo⟩ K
  rcases h1 with h1 | h1
  · have hc := (hR.2.1 r (by omega)).2.1 h1
    refine W.iald (v := .int (I (iv h r i.toInt))) hx hb hc ((tyI hKF).1 _ _) (fun q => by cases q) (by rw [arrV_size]; exact not_in h2 (Nat.le_refl _)) ?_ rfl rfl hd w
    rw [arrV_read _ _ i1, i3]
  · obtain ⟨cell, c1, c2, c3, c4, c5, c6, -⟩ := (hR.2.1 r (by omega)).2.2.2 h1
    refine W.iald (v := .int (I (iv h r i.toInt))) hx hb c1 c2 c3 (not_in h2 c4) ?_ rfl rfl hd w
    rw [c6 _ i1]
    show some (Value.int (I (iv h r ((i.toNatClampNeg : Nat) : Int)))) = _
    rw [i3]
theorem sim_iastore {n : Nat} (E : EnvM D cI cA p s m args meth c y) (ih : IH D cI cA base p l e R s m args below meth c Q y vf hf n) {pc len : Nat} {ls st : List Value} {h : Hp} {A : Nat → Nat} {arr : Array Slot} {H : Heap} {locs : List Loc} {cells slots : Nat}  
    (hd : decode (mB y) pc = .ok (.iastore, len)) (hok : okl (.iastore) len = true) (he : stp y pc len ls st h (exec n y) (fun y a h' => exec n y 0 (ent y a) [] h') (.iastore) = some (vf, hf)) (S : Stt D cI cA base s R y hf A h ls st arr H locs cells slots) (K : Fin D cI cA base p l e R s m args below meth c Q y vf hf A h cells slots) :
    W p l e R s m args below meth c H locs cells slots Q (F0 m pc arr (st.map (cvv A))) := by
  obtain ⟨hx, hb, hml, hown, hts, hKF, hnm⟩ := E
  obtain ⟨hR, hl, ho, hs, hloc, hce, hsl, hfr, hlo⟩ := S
  obtain rfl : len = 1 := by simpa [okl] using hok
  simp only [stp] at he
  obtain ⟨r, i, x, t, rfl, he2⟩ := rii_some he
  obtain ⟨h1, he3⟩ := gd_some he2
  simp only [Bool.and_eq_true, beq_iff_eq] at h1
  obtain ⟨h1, h2⟩ := h1
  obtain ⟨i0, i1, i2, i3⟩ := inr_some h2
  have hc := (hR.2.1 r (by omega)).2.1 h1
  refine W.iast hx hb hc ((tyI hKF).1 _ _) (fun q => by cases q) (by rw [arrV_size]; exact not_in h2 (Nat.le_refl _)) rfl rfl hd fun H1 e1 z oq => ?_
  rw [arrV_store] at e1
  have hR1 : Rep D cI cA base A (setI h r i.toInt x.toInt) s H1 := by
    refine hR.setArr h1 rfl (fun _ => rfl) (fun _ => rfl) (fun q hq zz => by rw [iv_setI, if_neg (fun e => hq e.1)]) (fun _ _ => rfl) z oq ?_
    rw [e1]
    congr 2
    funext j
    unfold updV
    rw [iv_setI]
    by_cases hj : j = i.toNatClampNeg
    · rw [if_pos hj, if_pos ⟨rfl, by rw [hj, i3]⟩]
      simp [I]
    · rw [if_neg hj, if_neg (fun e => hj (by have := e.2; omega))]
  exact ih _ _ t _ _ _ _ _ _ _ he3 ⟨hR1, hl, okS_tags (fun _ => rfl) ho, okS_tags (fun _ => rfl) (okS_cons.mp (okS_cons.mp (okS_cons.mp hs).2).2).2, locs_to hloc (hR.2.2.1 r (by omega) (by omega)), hce, hsl, hfr, hlo⟩ (K.step (Pres.tags (fun _ => rfl)) rfl rfl)
theorem sim_arraylength {n : Nat} (E : EnvM D cI cA p s m args meth c y) (ih : IH D cI cA base p l e R s m args below meth c Q y vf hf n) {pc len : Nat} {ls st : List Value} {h : Hp} {A : Nat → Nat} {arr : Array Slot} {H : Heap} {locs : List Loc} {cells slots : Nat}  
    (hd : decode (mB y) pc = .ok (.arraylength, len)) (hok : okl (.arraylength) len = true) (he : stp y pc len ls st h (exec n y) (fun y a h' => exec n y 0 (ent y a) [] h') (.arraylength) = some (vf, hf)) (S : Stt D cI cA base s R y hf A h ls st arr H locs cells slots) (K : Fin D cI cA base p l e R s m args below meth c Q y vf hf A h cells slots) :
    W p l e R s m args below meth c H locs cells slots Q (F0 m pc arr (st.map (cvv A))) := by
  obtain ⟨hx, hb, hml, hown, hts, hKF, hnm⟩ := E
  obtain ⟨hR, hl, ho, hs, hloc, hce, hsl, hfr, hlo⟩ := S
  obtain rfl : len = 1 := by simpa [okl] using hok
  simp only [stp] at he
  obtain ⟨r, t, rfl, he2⟩ := r1_some he
  obtain ⟨h1, he3⟩ := gd_some he2
  simp only [Bool.or_eq_true, Bool.and_eq_true, decide_eq_true_eq, beq_iff_eq] at h1
  have w := ih _ _ (.int (Int32.ofNat (ln h r)) :: t) _ _ _ _ _ _ _ he3 ⟨hR, hl, ho, okS_cons.mpr ⟨trivial, (okS_cons.mp hs).2⟩, hloc, hce, hsl, hfr, hlo⟩ K
  rcases h1 with ⟨h1, h2⟩ | h1
  · by_cases h20 : tg h r = 20
    · exact W.alen (n := Int32.ofNat (ln h r)) hx hb ((hR.2.1 r (by omega)).2.1 h20) ((tyI hKF).1 _ _) (by rw [arrV_size] <;> rfl) rfl rfl hd w
    · exact W.alen (n := Int32.ofNat (ln h r)) hx hb ((hR.2.1 r (by omega)).2.2.1 (by omega) h2) ((tyA hKF (by omega) h2).1 _ _) (by rw [arrV_size] <;> rfl) rfl rfl hd w
  · obtain ⟨cell, c1, c2, c3, c4, c5, c6, -⟩ := (hR.2.1 r (by omega)).2.2.2 h1
    exact W.alen (n := Int32.ofNat (ln h r)) hx hb c1 c2 c5 rfl rfl hd w
theorem sim_aaload {n : Nat} (E : EnvM D cI cA p s m args meth c y) (ih : IH D cI cA base p l e R s m args below meth c Q y vf hf n) {pc len : Nat} {ls st : List Value} {h : Hp} {A : Nat → Nat} {arr : Array Slot} {H : Heap} {locs : List Loc} {cells slots : Nat}  
    (hd : decode (mB y) pc = .ok (.aaload, len)) (hok : okl (.aaload) len = true) (he : stp y pc len ls st h (exec n y) (fun y a h' => exec n y 0 (ent y a) [] h') (.aaload) = some (vf, hf)) (S : Stt D cI cA base s R y hf A h ls st arr H locs cells slots) (K : Fin D cI cA base p l e R s m args below meth c Q y vf hf A h cells slots) :
    W p l e R s m args below meth c H locs cells slots Q (F0 m pc arr (st.map (cvv A))) := by
  obtain ⟨hx, hb, hml, hown, hts, hKF, hnm⟩ := E
  obtain ⟨hR, hl, ho, hs, hloc, hce, hsl, hfr, hlo⟩ := S
  obtain rfl : len = 1 := by simpa [okl] using hok
  simp only [stp] at he
  obtain ⟨r, i, t, rfl, he2⟩ := ri_some he
  obtain ⟨h1, he3⟩ := gd_some he2
  simp only [Bool.and_eq_true, decide_eq_true_eq, bne_iff_ne] at h1
  obtain ⟨⟨⟨⟨h1, h2⟩, h3⟩, h4⟩, h5⟩ := h1
  obtain ⟨i0, i1, i2, i3⟩ := inr_some h3
  have o2 := (okS_cons.mp (okS_cons.mp hs).2).2
  have w := ih _ _ (.ref (child r i.toInt.toNat) :: t) _ _ _ _ _ _ _ he3 ⟨hR, hl, ho, okS_cons.mpr ⟨h5, o2⟩, hloc, hce, hsl, hfr, hlo⟩ K
  refine W.aald (v := .ref (A (child r i.toInt.toNat))) hx hb ((hR.2.1 r (by omega)).2.2.1 h1 h2) ((tyA hKF h1 h2).1 _ _) rfl (fun q => by cases q) (by rw [arrV_size]; exact not_in h3 (Nat.le_refl _)) ?_ rfl rfl hd w
  rw [arrV_read _ _ i1, toNatN, elv, if_pos h4]
theorem castG (hKF : KF D cI cA s) {c' : Nat} (h : c' = 2 ∨ c' = 4 ∨ c' = 6) : s.vm.assignable (D.1 c') (D.1 2) = true := by
  have cl : ∀ ci, ci < 12 → s.vm.findClass (cn ci) = some (D.1 ci) := fun ci hci => (hKF.1.1 ci _ (cl_at hci)).2.1
  rcases h with rfl | rfl | rfl
  · exact va_asg _ _
  · have w : (Cond.castable "NutsUp$LongGrain" "NutsUp$Grain").before #[] s = true := va_Nw.use rfl (hKF.2 _ (nest_at (wAt_eq okCast_4) rfl))
    obtain ⟨a, b, w1, w2, w3⟩ := Cond.castable_spec w
    cases (cl 4 (by decide)).symm.trans w1
    cases (cl 2 (by decide)).symm.trans w2
    exact w3
  · have w : (Cond.castable "NutsUp$OilyGrain" "NutsUp$Grain").before #[] s = true := va_Nw.use rfl (hKF.2 _ (nest_at (wAt_eq okCast_6) rfl))
    obtain ⟨a, b, w1, w2, w3⟩ := Cond.castable_spec w
    cases (cl 6 (by decide)).symm.trans w1
    cases (cl 2 (by decide)).symm.trans w2
    exact w3
theorem ast_at {pc r q : Nat} {A : Nat → Nat} {h : Hp} {H : Heap} {locs : List Loc} {cells slots : Nat} {arr : Array Slot} {rest : List Value} {i : Int32} (E : EnvM D cI cA p s m args meth c y) (hR : Rep D cI cA base A h s H) (h1 : elok (tg h r) (tg h q) = true) (h2 : inr i (ln h r) = true) (hd : decode (mB y) pc = .ok (.aastore, 1))
    (kk : ∀ (H1 : Heap), 21 ≤ tg h r → tg h r ≤ 25 → H1.size = H.size → (∀ q, q ≠ A r → H1[q]? = H[q]?) → H1[A r]? = some (arrV (cA (tg h r)) (ln h r) (updV (elv A h r) i.toInt.toNat (.ref (A q)))) → W p l e R s m args below meth c H1 (locs ++ [⟨A r, i.toNatClampNeg⟩]) cells slots Q (F0 m (pc + 1) arr rest)) :
    W p l e R s m args below meth c H locs cells slots Q (F0 m pc arr (.ref (A q) :: .int i :: .ref (A r) :: rest)) := by
  obtain ⟨hx, hb, hml, hown, hts, hKF, hnm⟩ := E
  obtain ⟨i0, i1, i2, i3⟩ := inr_some h2
  have key : 21 ≤ tg h r ∧ tg h r ≤ 25 ∧ ∃ c', tg h q = c' + 1 ∧ c' < 12 ∧ s.vm.assignable (D.1 c') (D.1 (aCls (tg h r))) = true ∧ aCls (tg h r) < 12 ∧ cn (aCls (tg h r)) = aName (tg h r) := by
    simp only [elok, Bool.or_eq_true, Bool.and_eq_true, beq_iff_eq] at h1
    rcases h1 with ⟨h1, h3⟩ | ⟨h1, h3⟩
    · rw [h1]
      refine ⟨by decide, by decide, ?_⟩
      rcases h3 with (h3 | h3) | h3
      · exact ⟨2, h3, by decide, castG hKF (Or.inl rfl), by decide, rfl⟩
      · exact ⟨4, h3, by decide, castG hKF (Or.inr (Or.inl rfl)), by decide, rfl⟩
      · exact ⟨6, h3, by decide, castG hKF (Or.inr (Or.inr rfl)), by decide, rfl⟩
    · rcases h1 with ((h1 | h1) | h1) | h1 <;> rw [h1] at h3 ⊢ <;> exact ⟨by decide, by decide, _, h3, by decide, va_asg _ _, by decide, rfl⟩
  obtain ⟨k1, k2, c', k3, k4, k5, k6, k7⟩ := key
  obtain ⟨kA, comp, g1, g2, g3, -⟩ := (tyA hKF k1 k2).2
  have hcl := (hKF.1.1 _ _ (cl_at k6)).2
  have hcomp : comp = D.1 (aCls (tg h r)) := by
    have e1 : s.vm.findClass (cn (aCls (tg h r))) = some (D.1 (aCls (tg h r))) := hcl.1
    rw [k7] at e1
    exact Option.some.inj (g3.symm.trans e1)
  subst hcomp
  obtain ⟨kC, hkC, -⟩ := hcl.2
  obtain ⟨cv, q1, q2, q3, -⟩ := (hR.2.1 q (by omega)).1 c' k3 k4
  obtain ⟨kv, hkv, -⟩ := (hKF.1.1 _ _ (cl_at k4)).2.2
  refine W.aast hx hb ((hR.2.1 r (by omega)).2.2.1 k1 k2) (fun q h => by cases h) (fun h => by cases h) g1 g2 rfl hkC ⟨i2, by rw [arrV_size]; exact i1⟩ q1 (fun q h => by rw [q3] at h; cases h) (by rw [q2]; exact hkv) (by rw [q2]; exact k5) rfl rfl hd fun H1 e1 z oq => ?_
  rw [arrV_store] at e1
  exact kk H1 k1 k2 z oq e1
theorem sim_aastore {n : Nat} (E : EnvM D cI cA p s m args meth c y) (ih : IH D cI cA base p l e R s m args below meth c Q y vf hf n) {pc len : Nat} {ls st : List Value} {h : Hp} {A : Nat → Nat} {arr : Array Slot} {H : Heap} {locs : List Loc} {cells slots : Nat}  
    (hd : decode (mB y) pc = .ok (.aastore, len)) (hok : okl (.aastore) len = true) (he : stp y pc len ls st h (exec n y) (fun y a h' => exec n y 0 (ent y a) [] h') (.aastore) = some (vf, hf)) (S : Stt D cI cA base s R y hf A h ls st arr H locs cells slots) (K : Fin D cI cA base p l e R s m args below meth c Q y vf hf A h cells slots) :
    W p l e R s m args below meth c H locs cells slots Q (F0 m pc arr (st.map (cvv A))) := by
  obtain ⟨hx, hb, hml, hown, hts, hKF, hnm⟩ := E
  obtain ⟨hR, hl, ho, hs, hloc, hce, hsl, hfr, hlo⟩ := S
  obtain rfl : len = 1 := by simpa [okl] using hok
  simp only [stp] at he
  obtain ⟨r, i, q, t, rfl, he2⟩ := rir_some he
  obtain ⟨h1, he3⟩ := gd_some he2
  rw [Bool.and_eq_true] at h1
  obtain ⟨h1, h2⟩ := h1
  have o0 := okS_cons.mp hs
  have o2 := (okS_cons.mp (okS_cons.mp o0.2).2)
  refine ast_at (q := q) ⟨hx, hb, hml, hown, hts, hKF, hnm⟩ hR h1 h2 hd fun H1 k1 k2 z oq e1 => ?_
  split at he3
  · rename_i hqc
    rw [hqc] at e1
    have hch : tg h (child r i.toInt.toNat) ≠ 0 := by rw [← hqc]; exact o0.1
    exact ih _ _ t _ _ _ _ _ _ _ he3 ⟨hR.setElL k1 k2 hch z oq e1, hl, okS_tags (fun _ => rfl) ho, okS_tags (fun _ => rfl) o2.2, locs_to hloc (hR.2.2.1 r (by omega) (by omega)), hce, hsl, hfr, hlo⟩ (K.step (Pres.tags (fun _ => rfl)) rfl rfl)
  · obtain ⟨h3, he4⟩ := gd_some he3
    simp only [Bool.and_eq_true, Bool.not_eq_true', beq_iff_eq, decide_eq_true_eq] at h3
    obtain ⟨⟨⟨⟨⟨⟨⟨ht21, hm⟩, rfl⟩, hg⟩, hgr⟩, hch⟩, hng⟩, hns⟩ := h3
    have P : Pres y A (up1 A (child r i.toInt.toNat) (A 37)) h (mov h r i.toInt.toNat (child r i.toInt.toNat) 37) := Pres.mov hm hg rfl
    have hrc := gw_self hg hgr
    have hA : up1 A (child r i.toInt.toNat) (A 37) r = A r := by unfold up1; rw [if_neg hrc]
    have hr37 : r ≠ 37 := fun e => by rw [e] at hgr; cases hgr
    have h37 : tg h 37 = 3 ∨ tg h 37 = 5 ∨ tg h 37 = 7 := by
      simp only [elok, Bool.or_eq_true, Bool.and_eq_true, beq_iff_eq] at h1
      omega
    have hR1 : Rep D cI cA base (up1 A (child r i.toInt.toNat) (A 37)) (mov h r i.toInt.toNat (child r i.toInt.toNat) 37) s H1 := by
      refine hR.move (by omega) (by omega) hg hgr (Or.inr ⟨rfl, h37⟩) z oq ⟨fun c2 e1 e2 => ?_, fun e1 => ?_, fun e2 e3 => ?_, fun e1 => ?_⟩
      · rw [tg_mov, if_neg hr37, if_neg hrc] at e1
        omega
      · rw [tg_mov, if_neg hr37, if_neg hrc] at e1
        omega
      · rw [tg_mov, if_neg hr37, if_neg hrc, ln_mov, if_neg hrc, hA, e1]
        congr 2
        funext j
        unfold updV elv
        by_cases hjk : j = i.toInt.toNat
        · rw [if_pos hjk, hjk, fl_mov, if_pos (⟨rfl, rfl⟩ : r = r ∧ i.toInt.toNat = i.toInt.toNat)]
          unfold up1
          rw [if_pos rfl, if_pos rfl]
        · have n1 : child r j ≠ child r i.toInt.toNat := fun e => hjk (child_inj hg e)
          rw [if_neg hjk, fl_mov, if_neg hrc, if_neg (fun e : r = r ∧ j = i.toInt.toNat => hjk e.2)]
          unfold up1
          rw [if_neg n1]
      · rw [tg_mov, if_neg hr37, if_neg hrc] at e1
        omega
    have o3 := okS.to P o2.2 (fun _ => hns)
    have w := ih _ _ t _ (up1 A (child r i.toInt.toNat) (A 37)) _ _ (locs ++ [⟨A r, i.toNatClampNeg⟩]) cells slots he4 ⟨hR1, hl.to P ho (fun _ => hng), (okS.to P ho (fun _ => hng)).1, o3.1, locs_to hloc (hR.2.2.1 r (by omega) (by omega)), hce, hsl, hfr, hlo⟩ (K.step P rfl rfl)
    rw [o3.2] at w
    exact w
theorem ldc_row {o j : Nat} {v : Int32} (h : ldct o j = some v) : (.constant (on o) j v : Jvm.Cond) ∈ goodWs := by
  unfold ldct at h
  obtain ⟨q, hq, he⟩ := Option.map_eq_some_iff.mp h
  have h1 := List.find?_some hq
  have h2 := List.all_eq_true.mp okLdc_all q (List.mem_of_find?_eq_some hq)
  simp only [Bool.and_eq_true, beq_iff_eq] at h1
  rw [← he, ← h1.1, ← h1.2]
  exact good_at (wAt_eq h2) rfl
theorem ld2_row {o j : Nat} {v : Int64} (h : ld2t o j = some v) : (.constantLong (on o) j v : Jvm.Cond) ∈ goodWs := by
  unfold ld2t at h
  obtain ⟨q, hq, he⟩ := Option.map_eq_some_iff.mp h
  have h1 := List.find?_some hq
  have h2 := List.all_eq_true.mp okLd2_all q (List.mem_of_find?_eq_some hq)
  simp only [Bool.and_eq_true, beq_iff_eq] at h1
  rw [← he, ← h1.1, ← h1.2]
  exact good_at (wAt_eq h2) rfl
theorem sim_ldc {n : Nat} (E : EnvM D cI cA p s m args meth c y) (ih : IH D cI cA base p l e R s m args below meth c Q y vf hf n) {pc len : Nat} {ls st : List Value} {h : Hp} {A : Nat → Nat} {arr : Array Slot} {H : Heap} {locs : List Loc} {cells slots : Nat}  {j : Nat} 
    (hd : decode (mB y) pc = .ok (.ldc j, len)) (hok : okl (.ldc j) len = true) (he : stp y pc len ls st h (exec n y) (fun y a h' => exec n y 0 (ent y a) [] h') (.ldc j) = some (vf, hf)) (S : Stt D cI cA base s R y hf A h ls st arr H locs cells slots) (K : Fin D cI cA base p l e R s m args below meth c Q y vf hf A h cells slots) :
    W p l e R s m args below meth c H locs cells slots Q (F0 m pc arr (st.map (cvv A))) := by
  obtain ⟨hx, hb, hml, hown, hts, hKF, hnm⟩ := E
  obtain ⟨hR, hl, ho, hs, hloc, hce, hsl, hfr, hlo⟩ := S
  obtain rfl : len = 2 := by simpa [okl] using hok
  simp only [stp] at he
  split at he
  · rename_i v hq
    exact lv_ldc hx hb hown (hts _ (ldc_row hq)) hd (ih _ _ (.int v :: st) _ _ _ _ _ _ _ he ⟨hR, hl, ho, okS_cons.mpr ⟨trivial, hs⟩, hloc, hce, hsl, hfr, hlo⟩ K)
  · cases he
theorem sim_ldc_w {n : Nat} (E : EnvM D cI cA p s m args meth c y) (ih : IH D cI cA base p l e R s m args below meth c Q y vf hf n) {pc len : Nat} {ls st : List Value} {h : Hp} {A : Nat → Nat} {arr : Array Slot} {H : Heap} {locs : List Loc} {cells slots : Nat}  {j : Nat} 
    (hd : decode (mB y) pc = .ok (.ldc_w j, len)) (hok : okl (.ldc_w j) len = true) (he : stp y pc len ls st h (exec n y) (fun y a h' => exec n y 0 (ent y a) [] h') (.ldc_w j) = some (vf, hf)) (S : Stt D cI cA base s R y hf A h ls st arr H locs cells slots) (K : Fin D cI cA base p l e R s m args below meth c Q y vf hf A h cells slots) :
    W p l e R s m args below meth c H locs cells slots Q (F0 m pc arr (st.map (cvv A))) := by
  obtain ⟨hx, hb, hml, hown, hts, hKF, hnm⟩ := E
  obtain ⟨hR, hl, ho, hs, hloc, hce, hsl, hfr, hlo⟩ := S
  obtain rfl : len = 3 := by simpa [okl] using hok
  simp only [stp] at he
  split at he
  · rename_i v hq
    exact lv_ldcw hx hb hown (hts _ (ldc_row hq)) hd (ih _ _ (.int v :: st) _ _ _ _ _ _ _ he ⟨hR, hl, ho, okS_cons.mpr ⟨trivial, hs⟩, hloc, hce, hsl, hfr, hlo⟩ K)
  · cases he
theorem sim_ldc2_w {n : Nat} (E : EnvM D cI cA p s m args meth c y) (ih : IH D cI cA base p l e R s m args below meth c Q y vf hf n) {pc len : Nat} {ls st : List Value} {h : Hp} {A : Nat → Nat} {arr : Array Slot} {H : Heap} {locs : List Loc} {cells slots : Nat}  {j : Nat} 
    (hd : decode (mB y) pc = .ok (.ldc2_w j, len)) (hok : okl (.ldc2_w j) len = true) (he : stp y pc len ls st h (exec n y) (fun y a h' => exec n y 0 (ent y a) [] h') (.ldc2_w j) = some (vf, hf)) (S : Stt D cI cA base s R y hf A h ls st arr H locs cells slots) (K : Fin D cI cA base p l e R s m args below meth c Q y vf hf A h cells slots) :
    W p l e R s m args below meth c H locs cells slots Q (F0 m pc arr (st.map (cvv A))) := by
  obtain ⟨hx, hb, hml, hown, hts, hKF, hnm⟩ := E
  obtain ⟨hR, hl, ho, hs, hloc, hce, hsl, hfr, hlo⟩ := S
  obtain rfl : len = 3 := by simpa [okl] using hok
  simp only [stp] at he
  split at he
  · rename_i v hq
    exact lv_ldc2 hx hb hown (hts _ (ld2_row hq)) hd (ih _ _ (.long v :: st) _ _ _ _ _ _ _ he ⟨hR, hl, ho, okS_cons.mpr ⟨trivial, hs⟩, hloc, hce, hsl, hfr, hlo⟩ K)
  · cases he
theorem sim_getstatic {n : Nat} (E : EnvM D cI cA p s m args meth c y) (ih : IH D cI cA base p l e R s m args below meth c Q y vf hf n) {pc len : Nat} {ls st : List Value} {h : Hp} {A : Nat → Nat} {arr : Array Slot} {H : Heap} {locs : List Loc} {cells slots : Nat}  {j : Nat} 
    (hd : decode (mB y) pc = .ok (.getstatic j, len)) (hok : okl (.getstatic j) len = true) (he : stp y pc len ls st h (exec n y) (fun y a h' => exec n y 0 (ent y a) [] h') (.getstatic j) = some (vf, hf)) (S : Stt D cI cA base s R y hf A h ls st arr H locs cells slots) (K : Fin D cI cA base p l e R s m args below meth c Q y vf hf A h cells slots) :
    W p l e R s m args below meth c H locs cells slots Q (F0 m pc arr (st.map (cvv A))) := by
  obtain ⟨hx, hb, hml, hown, hts, hKF, hnm⟩ := E
  obtain ⟨hR, hl, ho, hs, hloc, hce, hsl, hfr, hlo⟩ := S
  obtain rfl : len = 3 := by simpa [okl] using hok
  simp only [stp] at he
  split at he
  · rename_i r hq
    obtain ⟨h1, he2⟩ := gd_some he
    have h1 : tg h r = 30 := by simpa using h1
    have w := ih _ _ (.ref r :: st) _ _ _ _ _ _ _ he2 ⟨hR, hl, ho, okS_cons.mpr ⟨by show tg h r ≠ 0; omega, hs⟩, hloc, hce, hsl, hfr, hlo⟩ K
    have key : (on (mO y) = on 0 ∧ j = 37 ∧ r = 500) ∨ (on (mO y) = on 1 ∧ j = 21 ∧ r = 501) := by
      unfold stf at hq
      obtain ⟨q, hq, he⟩ := Option.map_eq_some_iff.mp hq
      have h1 := List.find?_some hq
      have h2 := List.mem_of_find?_eq_some hq
      simp only [Bool.and_eq_true, beq_iff_eq] at h1
      simp only [stfTab, List.mem_cons, List.not_mem_nil, or_false] at h2
      rcases h2 with rfl | rfl
      · exact Or.inl ⟨congrArg on h1.1.symm, h1.2.symm, he.symm⟩
      · exact Or.inr ⟨congrArg on h1.1.symm, h1.2.symm, he.symm⟩
    obtain ⟨-, -, -, -, -, -, -, z1, z2⟩ := hR
    rcases key with ⟨k1, rfl, rfl⟩ | ⟨k1, rfl, rfl⟩
    · obtain ⟨cf, kf, fi, f, a, cell, w1, w2, w3, w4, w5, w6, w7, w8⟩ := z1
      have lk : (Cond.fieldLinkNest (on 0) 37 "NutsUp" "FACTORIALS" "[I" "NutsUp").before args s = true := va_Nw.use rfl (hKF.2 _ (nest_at (wAt_eq okStf_0) rfl))
      exact va_WgetsN hx hb (by rw [← k1]; exact hown) lk w1 w2 w3 w4 w5 (fun e => by rw [e] at w6; cases w6) w7 rfl hd w
    · obtain ⟨cf, kf, fi, f, a, cell, w1, w2, w3, w4, w5, w6, w7, w8⟩ := z2
      have lk : (Cond.fieldLinkNest (on 1) 21 "NutsUp" "LETTERS" "[I" "NutsUp").before args s = true := va_Nw.use rfl (hKF.2 _ (nest_at (wAt_eq okStf_1) rfl))
      exact va_WgetsN hx hb (by rw [← k1]; exact hown) lk w1 w2 w3 w4 w5 (fun e => by rw [e] at w6; cases w6) w7 rfl hd w
  · cases he
theorem new_row {o j ci : Nat} (h : newt o j = some ci) : (.classLink (on o) j (cn ci) : Jvm.Cond) ∈ goodWs ∧ (.instantiable (cn ci) (cSz ci) : Jvm.Cond) ∈ goodWs ∧ (.initialized (cn ci) : Jvm.Cond) ∈ goodWs ∧ ci < 12 := by
  unfold newt at h
  obtain ⟨q, hq, he⟩ := Option.map_eq_some_iff.mp h
  have h1 := List.find?_some hq
  have h2 := List.all_eq_true.mp okNew_all q (List.mem_of_find?_eq_some hq)
  simp only [Bool.and_eq_true, beq_iff_eq] at h1
  simp only [okNew, Bool.and_eq_true, decide_eq_true_eq] at h2
  rw [← he, ← h1.1, ← h1.2]
  exact ⟨good_at (wAt_eq h2.1.1.1) rfl, good_at (wAt_eq h2.1.1.2) rfl, good_at (wAt_eq h2.1.2) rfl, h2.2⟩
theorem anw_row {o j t : Nat} (h : anwt o j = some t) : (.classLink (on o) j (aName t) : Jvm.Cond) ∈ goodWs ∧ (.arrayOver (.object (aName t)) : Jvm.Cond) ∈ nestWs ∧ 21 ≤ t ∧ t ≤ 25 := by
  unfold anwt at h
  obtain ⟨q, hq, he⟩ := Option.map_eq_some_iff.mp h
  have h1 := List.find?_some hq
  have h2 := List.all_eq_true.mp okAnw_all q (List.mem_of_find?_eq_some hq)
  simp only [Bool.and_eq_true, beq_iff_eq] at h1
  simp only [okAnw, Bool.and_eq_true, decide_eq_true_eq] at h2
  rw [← he, ← h1.1, ← h1.2]
  exact ⟨good_at (wAt_eq h2.1.1) rfl, nest_at (wAt_eq h2.1.2) rfl, h2.2.1, h2.2.2⟩
theorem Pres.make {A : Nat → Nat} {h : Hp} {q t n u a : Nat} (h0 : tg h q = 0) : Pres y A (up1 A q a) h (mk h q t n u) := by
  intro w hw _
  have n1 : w ≠ q := fun e => hw (by rw [e]; exact h0)
  refine ⟨by rw [tg_mk, if_neg n1], ?_⟩
  unfold up1
  rw [if_neg n1]
theorem okS.to' {A A1 : Nat → Nat} {h h1 : Hp} {l : List Value} (P : ∀ r, tg h r ≠ 0 → tg h1 r = tg h r ∧ A1 r = A r) (hl : okS h l) : okS h1 l ∧ l.map (cvv A1) = l.map (cvv A) := okS.to (y := 9) (fun r hr _ => P r hr) hl (fun q => by cases q)
theorem lsR.to' {y0 : Nat} {A A1 : Nat → Nat} {h h1 : Hp} {ls : List Value} {arr : Array Slot} (P : ∀ r, tg h r ≠ 0 → tg h1 r = tg h r ∧ A1 r = A r) (hl : okS h ls) (hr : lsR y0 A ls arr) : lsR y0 A1 ls arr := by
  have e := (okS.to' P hl).2
  have key : ∀ k, k < ls.length → cvv A1 (gt ls k) = cvv A (gt ls k) := by
    intro k hk
    have := congrArg (fun l : List Value => l[k]?) e
    simp only [List.getElem?_map] at this
    unfold gt
    rw [List.getElem?_eq_getElem hk] at this ⊢
    simpa using this
  refine ⟨⟨hr.1.1, hr.1.2.1, fun q hq => ?_⟩, hr.2⟩
  obtain ⟨q1, q2, q3⟩ := mem_held.mp hq
  exact hr.1.2.2 q (mem_held.mpr ⟨q1, q2, by rw [q3]; exact key _ q1⟩)
theorem made {A : Nat → Nat} {h : Hp} {q t n u a : Nat} (h0 : tg h q = 0) : ∀ r, tg h r ≠ 0 → tg (mk h q t n u) r = tg h r ∧ up1 A q a r = A r := by
  intro w hw
  have n1 : w ≠ q := fun e => hw (by rw [e]; exact h0)
  refine ⟨by rw [tg_mk, if_neg n1], ?_⟩
  unfold up1
  rw [if_neg n1]
theorem site_ok {q : Nat} (h : decide (q < 500 ∨ 10000 ≤ q) = true) : q ≠ 500 ∧ q ≠ 501 := by
  have := of_decide_eq_true h
  omega
theorem sim_new {n : Nat} (E : EnvM D cI cA p s m args meth c y) (ih : IH D cI cA base p l e R s m args below meth c Q y vf hf n) {pc len : Nat} {ls st : List Value} {h : Hp} {A : Nat → Nat} {arr : Array Slot} {H : Heap} {locs : List Loc} {cells slots : Nat}  {j : Nat} 
    (hd : decode (mB y) pc = .ok (.new j, len)) (hok : okl (.new j) len = true) (he : stp y pc len ls st h (exec n y) (fun y a h' => exec n y 0 (ent y a) [] h') (.new j) = some (vf, hf)) (S : Stt D cI cA base s R y hf A h ls st arr H locs cells slots) (K : Fin D cI cA base p l e R s m args below meth c Q y vf hf A h cells slots) :
    W p l e R s m args below meth c H locs cells slots Q (F0 m pc arr (st.map (cvv A))) := by
  obtain ⟨hx, hb, hml, hown, hts, hKF, hnm⟩ := E
  obtain ⟨hR, hl, ho, hs, hloc, hce, hsl, hfr, hlo⟩ := S
  obtain rfl : len = 3 := by simpa [okl] using hok
  simp only [stp] at he
  split at he
  · rename_i ci hq
    obtain ⟨h1, he2⟩ := gd_some he
    simp only [Bool.and_eq_true, beq_iff_eq] at h1
    obtain ⟨⟨hm, h0⟩, h5⟩ := h1
    obtain ⟨n1, n2, n3, hci⟩ := new_row hq
    have hmo := exec_mono _ _ _ _ _ _ _ _ he2
    have mo1 : ck h + 1 ≤ ck hf := hmo.1
    have mo2 : cu h + cSz ci ≤ cu hf := hmo.2
    have hfc := (hKF.1.1 ci _ (cl_at hci)).2.1
    refine W.newcK (h := H.size) hx hb hown (hts _ n1) (hts _ n2) (hts _ n3) rfl hd (by omega) (by omega) hfc rfl fun H1 kC g1 g2 z oq => ?_
    have hR1 : Rep D cI cA base (up1 A (site y pc ls h) H.size) (mk h (site y pc ls h) (ci + 1) 0 (cSz ci)) s H1 := by
      refine hR.make h0 (site_ok (by simpa using h5)) (Or.inl ⟨by omega, by omega⟩) z oq ⟨fun c2 e1 e2 => ?_, fun e1 => by omega, fun e1 _ => by omega⟩
      obtain rfl : c2 = ci := by omega
      refine (u_born (cTy c2) hts (lay_in hci) (hKF.1.1 c2 _ (cl_at hci)) g1 g2 (fun k hk => (ty_at hci hk).1)).to (fun k hk => ?_)
      obtain ⟨-, a1, a2⟩ := ty_at hci hk
      by_cases hr : rfs c2 k = true
      · rw [if_pos hr, (a1 hr).1]
      · rw [if_neg hr]
        rcases a2 (by simpa using hr) with e | e <;> rw [e] <;> rfl
    have P : ∀ r, tg h r ≠ 0 → tg (mk h (site y pc ls h) (ci + 1) 0 (cSz ci)) r = tg h r ∧ up1 A (site y pc ls h) H.size r = A r := made h0
    have o3 := okS.to' P hs
    have w := ih _ _ (.ref (site y pc ls h) :: st) _ (up1 A (site y pc ls h) H.size) _ _ locs (cells + 1) (slots + cSz ci) he2 ⟨hR1, hl.to' P ho, (okS.to' P ho).1, okS_cons.mpr ⟨by show tg (mk _ _ _ _ _) _ ≠ 0; rw [tg_mk, if_pos rfl]; omega, o3.1⟩, hloc, (by show cells + 1 + ck hf ≤ R.cells + (ck h + 1); omega), (by show slots + cSz ci + cu hf ≤ R.slots + (cu h + cSz ci); omega), hfr, hlo⟩ (K.step (Pres.make h0) (by show cells + 1 + ck h = cells + (ck h + 1); omega) (by show slots + cSz ci + cu h = slots + (cu h + cSz ci); omega))
    rw [List.map_cons, o3.2] at w
    have e : cvv (up1 A (site y pc ls h) H.size) (.ref (site y pc ls h)) = .ref H.size := by
      show Value.ref (up1 A _ _ _) = _
      unfold up1
      rw [if_pos rfl]
    rw [e] at w
    exact w
  · cases he
theorem sim_newarray {n : Nat} (E : EnvM D cI cA p s m args meth c y) (ih : IH D cI cA base p l e R s m args below meth c Q y vf hf n) {pc len : Nat} {ls st : List Value} {h : Hp} {A : Nat → Nat} {arr : Array Slot} {H : Heap} {locs : List Loc} {cells slots : Nat}  {ty : ArrayType} 
    (hd : decode (mB y) pc = .ok (.newarray ty, len)) (hok : okl (.newarray ty) len = true) (he : stp y pc len ls st h (exec n y) (fun y a h' => exec n y 0 (ent y a) [] h') (.newarray ty) = some (vf, hf)) (S : Stt D cI cA base s R y hf A h ls st arr H locs cells slots) (K : Fin D cI cA base p l e R s m args below meth c Q y vf hf A h cells slots) :
    W p l e R s m args below meth c H locs cells slots Q (F0 m pc arr (st.map (cvv A))) := by
  obtain ⟨hx, hb, hml, hown, hts, hKF, hnm⟩ := E
  obtain ⟨hR, hl, ho, hs, hloc, hce, hsl, hfr, hlo⟩ := S
  obtain rfl : len = 2 := by simpa [okl] using hok
  simp only [stp] at he
  obtain ⟨x, t, rfl, he1⟩ := i1_some he
  obtain ⟨h1, he2⟩ := gd_some he1
  simp only [Bool.and_eq_true, beq_iff_eq, decide_eq_true_eq] at h1
  obtain ⟨⟨⟨⟨⟨hm, hty⟩, x0⟩, x1⟩, h0⟩, h5⟩ := h1
  obtain rfl : ty = .int := by cases ty <;> first | rfl | exact absurd hty (by decide)
  have hmo := exec_mono _ _ _ _ _ _ _ _ he2
  have mo1 : ck h + 1 ≤ ck hf := hmo.1
  have mo2 : cu h + x.toInt.toNat ≤ cu hf := hmo.2
  have hw : (Cond.arrayClass (newarray.typeOf .int)).before args s = true := hts _ (good_at (wAt_eq okArr) rfl)
  refine va_newaK (h := H.size) (N := x.toInt.toNat) hx hb hw rfl hd rfl (nlt0 x0) rfl (by show x.toInt.toNat * 4 ≤ _; omega) (by omega) (by omega) rfl fun H1 cA2 e1 z oq _ hnm2 => ?_
  obtain rfl : cA2 = cI := Option.some.inj (hnm2.symm.trans (tyI hKF).2)
  have hR1 : Rep D cA2 cA base (up1 A (site y pc ls h) H.size) (mk h (site y pc ls h) 20 x.toInt.toNat x.toInt.toNat) s H1 :=
    hR.make h0 (site_ok (by simpa using h5)) (Or.inr ⟨by omega, by omega⟩) z oq ⟨fun c2 e1 e2 => by omega, fun _ => e1, fun e1 _ => by omega⟩
  have P : ∀ r, tg h r ≠ 0 → tg (mk h (site y pc ls h) 20 x.toInt.toNat x.toInt.toNat) r = tg h r ∧ up1 A (site y pc ls h) H.size r = A r := made h0
  have o3 := okS.to' P (okS_cons.mp hs).2
  have w := ih _ _ (.ref (site y pc ls h) :: t) _ (up1 A (site y pc ls h) H.size) _ _ locs (cells + 1) (slots + x.toInt.toNat) he2 ⟨hR1, hl.to' P ho, (okS.to' P ho).1, okS_cons.mpr ⟨by show tg (mk _ _ _ _ _) _ ≠ 0; rw [tg_mk, if_pos rfl]; omega, o3.1⟩, hloc, (by show cells + 1 + ck hf ≤ R.cells + (ck h + 1); omega), (by show slots + x.toInt.toNat + cu hf ≤ R.slots + (cu h + x.toInt.toNat); omega), hfr, hlo⟩ (K.step (Pres.make h0) (by show cells + 1 + ck h = cells + (ck h + 1); omega) (by show slots + x.toInt.toNat + cu h = slots + (cu h + x.toInt.toNat); omega))
  rw [List.map_cons, o3.2] at w
  have e : cvv (up1 A (site y pc ls h) H.size) (.ref (site y pc ls h)) = .ref H.size := by
    show Value.ref (up1 A _ _ _) = _
    unfold up1
    rw [if_pos rfl]
  rw [e] at w
  exact w
theorem sim_anewarray {n : Nat} (E : EnvM D cI cA p s m args meth c y) (ih : IH D cI cA base p l e R s m args below meth c Q y vf hf n) {pc len : Nat} {ls st : List Value} {h : Hp} {A : Nat → Nat} {arr : Array Slot} {H : Heap} {locs : List Loc} {cells slots : Nat}  {j : Nat} 
    (hd : decode (mB y) pc = .ok (.anewarray j, len)) (hok : okl (.anewarray j) len = true) (he : stp y pc len ls st h (exec n y) (fun y a h' => exec n y 0 (ent y a) [] h') (.anewarray j) = some (vf, hf)) (S : Stt D cI cA base s R y hf A h ls st arr H locs cells slots) (K : Fin D cI cA base p l e R s m args below meth c Q y vf hf A h cells slots) :
    W p l e R s m args below meth c H locs cells slots Q (F0 m pc arr (st.map (cvv A))) := by
  obtain ⟨hx, hb, hml, hown, hts, hKF, hnm⟩ := E
  obtain ⟨hR, hl, ho, hs, hloc, hce, hsl, hfr, hlo⟩ := S
  obtain rfl : len = 3 := by simpa [okl] using hok
  simp only [stp] at he
  split at he
  · rename_i ty hq
    obtain ⟨x, t, rfl, he1⟩ := i1_some he
    obtain ⟨h1, he2⟩ := gd_some he1
    simp only [Bool.and_eq_true, beq_iff_eq, decide_eq_true_eq] at h1
    obtain ⟨⟨⟨⟨hm, x0⟩, x1⟩, h0⟩, h5⟩ := h1
    obtain ⟨n1, n2, t1, t2⟩ := anw_row hq
    have hmo := exec_mono _ _ _ _ _ _ _ _ he2
    have mo1 : ck h + 1 ≤ ck hf := hmo.1
    have mo2 : cu h + x.toInt.toNat ≤ cu hf := hmo.2
    have hov : (Cond.arrayOver (.object (aName ty))).before args s = true := va_AO.use (hKF.2 _ n2)
    refine W.anew hx hb hown (hts _ n1) hov rfl hd rfl (nlt0 x0) (by rw [toNatN]; omega) (by omega) (by rw [toNatN]; omega) fun cA2 kA comp f1 f2 f3 f4 => ?_
    rw [toNatN]
    generalize hH1 : H.push ({ cls := cA2, slots := Array.replicate x.toInt.toNat .null, vm := .none } : Cell) = H1
    have z1 : H1.size = H.size + 1 := by rw [← hH1, Array.size_push]
    have e1 : H1[H.size]? = some (arrV cA2 x.toInt.toNat (fun _ => .null)) := by rw [← hH1, Array.getElem?_push_size, ← arrV_new]
    have o1 : ∀ q : Nat, q < H.size → H1[q]? = H[q]? := fun q hq => by rw [← hH1, Array.getElem?_push, if_neg (Nat.ne_of_lt hq)]
    obtain ⟨_, _, _, _, _, k4⟩ := (tyA hKF t1 t2).2
    obtain rfl : cA2 = cA ty := Option.some.inj (f1.symm.trans k4)
    have hR1 : Rep D cI cA base (up1 A (site y pc ls h) H.size) (mk h (site y pc ls h) ty x.toInt.toNat x.toInt.toNat) s H1 :=
      hR.make h0 (site_ok (by simpa using h5)) (Or.inr ⟨by omega, by omega⟩) z1 o1 ⟨fun c2 e1 e2 => by omega, fun e => by omega, fun _ _ => e1⟩
    have P : ∀ r, tg h r ≠ 0 → tg (mk h (site y pc ls h) ty x.toInt.toNat x.toInt.toNat) r = tg h r ∧ up1 A (site y pc ls h) H.size r = A r := made h0
    have o3 := okS.to' P (okS_cons.mp hs).2
    have w := ih _ _ (.ref (site y pc ls h) :: t) _ (up1 A (site y pc ls h) H.size) _ _ locs (cells + 1) (slots + x.toInt.toNat) he2 ⟨hR1, hl.to' P ho, (okS.to' P ho).1, okS_cons.mpr ⟨by show tg (mk _ _ _ _ _) _ ≠ 0; rw [tg_mk, if_pos rfl]; omega, o3.1⟩, hloc, (by show cells + 1 + ck hf ≤ R.cells + (ck h + 1); omega), (by show slots + x.toInt.toNat + cu hf ≤ R.slots + (cu h + x.toInt.toNat); omega), hfr, hlo⟩ (K.step (Pres.make h0) (by show cells + 1 + ck h = cells + (ck h + 1); omega) (by show slots + x.toInt.toNat + cu h = slots + (cu h + x.toInt.toNat); omega))
    rw [List.map_cons, o3.2] at w
    have e : cvv (up1 A (site y pc ls h) H.size) (.ref (site y pc ls h)) = .ref H.size := by
      show Value.ref (up1 A _ _ _) = _
      unfold up1
      rw [if_pos rfl]
    rw [e] at w
    exact w
  · cases he
end SIMB

