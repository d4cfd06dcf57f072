/-! Calls. -/
theorem good_in {ws : List Jvm.Cond} (h : ∀ w ∈ ws, w ∈ goodWs) : GoodIn goodWs ws := fun w hw => ⟨h w hw, good_of_word (List.mem_filter.mp (h w hw)).2⟩
theorem cod_in {y : Nat} (hy : y < 99) : (.code (mY y) (mB y) (mL y) (mR y) : Jvm.Cond) ∈ goodWs := good_at (cod_all y hy) rfl
theorem wsM_in {y : Nat} (hy : y < 99) : ∀ w ∈ wsM y, w ∈ goodWs := by
  intro w hw
  rcases List.mem_cons.mp hw with h | h
  · rw [h]; exact cod_in hy
  · exact h
theorem on_cn {o : Nat} (h : o < 12) : on o = cn o := by
  have k : (List.range 12).all (fun o => decide (on o = cn o)) = true := by decide +kernel
  exact of_decide_eq_true (range_all k h)
theorem cod_ok {y : Nat} (hy : y < 99) (h1 : y ≠ 1) : (.initialized (mY y).cls : Jvm.Cond) ∈ goodWs ∧ ((mY y).cls ≠ "java/lang/invoke/MethodHandle" ∧ (mY y).cls ≠ "java/lang/invoke/VarHandle") ∧ (parseMethodDescriptor (mY y).desc).map (fun d => d.parameters.length) = some (mA y) ∧ plainFor (mY y) = true := by
  have h := range_all okCode_all hy
  rw [Bool.or_eq_true, beq_iff_eq] at h
  rcases h with h | h
  · exact absurd h h1
  · simp only [okCode, Bool.and_eq_true, decide_eq_true_eq] at h
    exact ⟨good_at (wAt_eq h.1.1.1) rfl, h.1.1.2, h.1.2, h.2⟩
theorem cat_le (v : Value) : v.category ≤ 2 := by cases v <;> first | exact Nat.le_refl _ | exact Nat.le_succ _
theorem cat_sum : ∀ l : List Value, (l.map (fun v => v.category)).sum ≤ 2 * l.length
  | [] => Nat.le_refl _
  | v :: l => by
    have h1 := cat_sum l
    have h2 := cat_le v
    simp only [List.map_cons, List.sum_cons, List.length_cons]
    omega
theorem cal_row {o j k z : Nat} (h : cal o j = some (k, z)) : ∃ x, okCal (o, j, k, z, x) = true ∧ (o, j, k, z, x) ∈ calTab := by
  unfold cal at h
  obtain ⟨q, hq, he⟩ := Option.map_eq_some_iff.mp h
  have h1 := List.find?_some hq
  have h2 := List.mem_of_find?_eq_some hq
  have h3 := List.all_eq_true.mp okCal_all q h2
  simp only [Bool.and_eq_true, beq_iff_eq] at h1
  obtain ⟨a, b, c, d, x⟩ := q
  cases he
  obtain ⟨rfl, rfl⟩ := h1
  exact ⟨x, h3, h2⟩
theorem cal5_all : calTab.all (fun q => q.2.2.1 != 5 || mA q.2.2.2.1 == 1) = true := by decide +kernel
theorem cal5 {o j z : Nat} (h : cal o j = some (5, z)) : mA z = 1 := by
  obtain ⟨x, -, hx⟩ := cal_row h
  have := List.all_eq_true.mp cal5_all _ hx
  simpa using this
theorem rvo_list (z : Nat) (A : Nat → Nat) (v : Value) (l : List Value) : (rvo z A v).toList ++ l.map (cvv A) = (back z v l).map (cvv A) := by
  unfold rvo back
  by_cases h : mR z = none
  · rw [if_pos h, if_pos h]; rfl
  · rw [if_neg h, if_neg h]; rfl
theorem take_drop {k : Nat} {st rest : List Value} (h : st.drop k = rest) : st = (takeA k st).reverse ++ rest := by
  unfold takeA
  rw [List.reverse_reverse, ← h, List.take_append_drop]
theorem takeA_len {k : Nat} {st : List Value} (h : k ≤ st.length) : (takeA k st).length = k := by
  unfold takeA
  rw [List.length_reverse, List.length_take]
  omega
theorem okS_take {k : Nat} {st : List Value} {h : Hp} (hs : okS h st) : okS h (takeA k st) := by
  intro v hv
  exact hs v (List.mem_of_mem_take (List.mem_reverse.mp hv))
theorem okS_drop {k : Nat} {st : List Value} {h : Hp} (hs : okS h st) : okS h (st.drop k) := fun v hv => hs v (List.mem_of_mem_drop hv)
theorem lsR.toZ {z y0 : Nat} {A A1 : Nat → Nat} {h h1 : Hp} {ls : List Value} {arr : Array Slot} (P : Pres z A A1 h h1) (hl : okS h ls) (hg : mv z = true → ng ls = true) (hr : lsR y0 A ls arr) : lsR y0 A1 ls arr := by
  have e := (okS.to P hl hg).2
  have key : ∀ k, k < ls.length → cvv A1 (gt ls k) = cvv A (gt ls k) := by
    intro k hk
    have := congrArg (fun l : List Value => l[k]?) e
    simp only [List.getElem?_map] at this
    unfold gt
    rw [List.getElem?_eq_getElem hk] at this ⊢
    simpa using this
  refine ⟨⟨hr.1.1, hr.1.2.1, fun q hq => ?_⟩, hr.2⟩
  obtain ⟨q1, q2, q3⟩ := mem_held.mp hq
  exact hr.1.2.2 q (mem_held.mpr ⟨q1, q2, by rw [q3]; exact key _ q1⟩)
section SIMC
variable {D : va_G} {cI : ClassId} {cA : Nat → ClassId} {base : Nat} {p : Program} {l : Launch} {e : Env} {R : Room} {s : State} {m : MethodId} {args : Array Value} {below : List Frame} {meth : Method} {c : Code} {Q : State → Prop} {y : Nat} {vf : Value} {hf : Hp}
/-- what a call of the method z is to give -/
def RunP (D : va_G) (cI : ClassId) (cA : Nat → ClassId) (base : Nat) (p : Program) (l : Launch) (e : Env) (R : Room) (s : State) (m : MethodId) (args : Array Value) (below : List Frame) (meth : Method) (c : Code) (y z pc : Nat) (A : Nat → Nat) (h : Hp) (arr : Array Slot) (H : Heap) (locs : List Loc) (cells slots : Nat) (st rest a : List Value) : Prop :=
  ∀ (h2 : Hp) (v : Value), z < 99 → z ≠ 1 → Met l (mY z) (wsM z) (rmM z (ck h2 - ck h) (cu h2 - cu h)) (Pm D cI cA base A h a) (Qm D cI cA base z A h h2 v) (ck h2 - ck h) (cu h2 - cu h) (fun q => base ≤ q) → mF z + 1 ≤ R.frames ∧ 8 + (mL z + 11) + mLc z ≤ R.locals →
    (∀ l2 : List Value, 2 * (F0 m pc arr l2).monitorRoom + ((rest.map (cvv A)).map fun v => v.category).sum ≤ 8) → cells + (ck h2 - ck h) ≤ R.cells ∧ slots + (cu h2 - cu h) ≤ R.slots →
    va_Run p l e R s m args below meth c H locs cells slots (ck h2 - ck h) (cu h2 - cu h) (F0 m pc arr (st.map (cvv A))) (rest.map (cvv A)) (Qm D cI cA base z A h h2 v (a.map (cvv A)).toArray) (fun q => base ≤ q)
theorem cll_on {n z pc : Nat} {ls st rest a : List Value} {h : Hp} {A : Nat → Nat} {arr : Array Slot} {H : Heap} {locs : List Loc} {cells slots : Nat} (M : MetP D cI cA base l n) (ih : IH D cI cA base p l e R s m args below meth c Q y vf hf n)
    (he : cll y pc z ls rest h (exec n y) (fun y a h' => exec n y 0 (ent y a) [] h') a = some (vf, hf)) (S : Stt D cI cA base s R y hf A h ls st arr H locs cells slots) (K : Fin D cI cA base p l e R s m args below meth c Q y vf hf A h cells slots)
    (hoa : okS h a) (hor : okS h rest) (hr : RunP D cI cA base p l e R s m args below meth c y z pc A h arr H locs cells slots st rest a) : W p l e R s m args below meth c H locs cells slots Q (F0 m pc arr (st.map (cvv A))) := by
  obtain ⟨hR, hl, ho, hs, hloc, hce, hsl, hfr, hlo⟩ := S
  unfold cll at he
  obtain ⟨hg, he⟩ := gd_some he
  simp only [okc, Bool.and_eq_true, decide_eq_true_eq, Bool.or_eq_true, bne_iff_ne, Bool.not_eq_true'] at hg
  obtain ⟨⟨⟨⟨⟨⟨⟨hm1, hm2⟩, hz⟩, hz1⟩, hlen⟩, hnl⟩, hlay⟩, hmv⟩ := hg
  split at he
  · rename_i v h2 heq
    have mo1 := exec_mono _ _ _ _ _ _ _ _ heq
    have mo2 := exec_mono _ _ _ _ _ _ _ _ he
    have M1 := M z a h h2 v A hz hz1 heq hoa (fun hn w hw => by
      rcases hnl with hnl | hnl
      · rw [hn] at hnl; cases hnl
      · have := List.all_eq_true.mp hnl w hw
        simpa using this) hlay
    have hmz : mv z = true → (mv y = true ∧ ng ls = true) ∧ ng rest = true := fun q => by
      rcases hmv with h1 | h1
      · rw [q] at h1; cases h1
      · exact h1
    have hr := hr h2 v hz hz1 M1 ⟨by omega, by omega⟩ (fun l2 => lv_room (by
      have h1 := cat_sum (rest.map (cvv A))
      rw [List.length_map] at h1
      omega)) ⟨by omega, by omega⟩
    intro T hT X
    obtain ⟨v0, st0, t, T', L, h0, X', hL, e1, e2, ⟨A', q1, q2, q3, q4⟩, st⟩ := hr T hT X
    have q5 : v0 = rvo z A' v := by cases q4; rfl
    have hR2 : Rep D cI cA base A' h2 s T'.heap := by
      rw [e1]
      refine Rep.moved ?_ q2
      rw [← e2]
      exact Vm.Alike.symm X'.warmed.alike
    have P2 : Pres y A A' h h2 := fun r hr hgy => q1 r hr (fun q => hgy (hmz q).1.1)
    have o3 := okS.to q1 hor (fun q => (hmz q).2)
    have o4 := okS.to q1 ho (fun q => (hmz q).1.2)
    have hob : okS h2 (back z v rest) := by
      unfold back
      split
      · exact o3.1
      · exact okS_cons.mpr ⟨q3, o3.1⟩
    have hlocs : ∀ q ∈ locs ++ L, base ≤ q.base := by
      intro q hq
      rcases List.mem_append.mp hq with h1 | h1
      · exact hloc q h1
      · exact hL q h1
    have w := ih (pc + 3) ls (back z v rest) h2 A' arr T'.heap (locs ++ L) (cells + (ck h2 - ck h)) (slots + (cu h2 - cu h)) he
      ⟨hR2, hl.toZ q1 ho (fun q => (hmz q).1.2), o4.1, hob, hlocs, by omega, by omega, hfr, hlo⟩ (K.step P2 (by omega) (by omega))
    rw [← rvo_list, o3.2, ← q5] at w
    obtain ⟨t2, a1, b1⟩ := w T' rfl X'
    exact ⟨t2, st t2 a1, b1⟩
  · cases he
theorem Pm_blind {A : Nat → Nat} {h : Hp} {a : List Value} : FrameBlind (Pm D cI cA base A h a) := fun a U g mk q => ⟨q.1, Rep.moved (u := U) (U := U.calling g mk a) (Vm.Alike.refl U.vm) q.2.1, KF.moved (U := U.calling g mk a) (State.WarmedH.refl U) q.2.2⟩
theorem Pm_at {A : Nat → Nat} {h : Hp} {H : Heap} {a : List Value} (hR : Rep D cI cA base A h s H) (hKF : KF D cI cA s) : ∀ U : State, U.heap = H → s.WarmedH U.vm → Pm D cI cA base A h a (a.map (cvv A)).toArray U := fun U hU hW => ⟨rfl, by rw [hU]; exact Rep.moved hW.alike hR, KF.moved hW hKF⟩
theorem Pm_S {A : Nat → Nat} {h : Hp} {H : Heap} {a : List Value} (hR : Rep D cI cA base A h s H) (hKF : KF D cI cA s) : PreS s H (Pm D cI cA base A h a) (a.map (cvv A)) := ⟨Pm_blind, Pm_at hR hKF⟩
theorem Pm_V {A : Nat → Nat} {h : Hp} {H : Heap} {a : List Value} {r ci : Nat} (hR : Rep D cI cA base A h s H) (hKF : KF D cI cA s) (ht : tg h r = ci + 1) (hci : ci < 12) : PreV s H (cn ci) (A r) (Pm D cI cA base A h (.ref r :: a)) (a.map (cvv A)) := by
  refine ⟨Pm_blind, ?_, Pm_at hR hKF⟩
  obtain ⟨cell, q1, q2, q3, q4⟩ := (hR.2.1 r (by omega)).1 ci ht hci
  obtain ⟨hS, hfc, kC, hkC, hkind⟩ := hKF.1.1 ci _ (cl_at hci)
  exact ⟨cell, q1, by rw [q3]; rfl, by rw [q2]; exact hfc⟩
/-- the receiver on the stack -/
theorem onobj_some {z : Nat} {st : List Value} {f : Nat → List Value → List Value → Rs} {q : Value × Hp} (h : onobj z st f = some q) : ∃ r rest, st = (takeA (mA z) st).reverse ++ .ref r :: rest ∧ mA z ≤ st.length ∧ st.drop (mA z) = .ref r :: rest ∧ f r (takeA (mA z) st) rest = some q := by
  obtain ⟨r, t, h1, h2⟩ := r1_some h
  obtain ⟨h3, h4⟩ := gd_some h2
  exact ⟨r, t, take_drop h1, of_decide_eq_true h3, h1, h4⟩
theorem stk_map {A : Nat → Nat} {as rest : List Value} {r : Nat} {st : List Value} (h : st = as.reverse ++ .ref r :: rest) : st.map (cvv A) = (as.map (cvv A)).reverse ++ .ref (A r) :: rest.map (cvv A) := by
  rw [h, List.map_append, List.map_reverse]
  rfl
theorem stk_mapS {A : Nat → Nat} {as rest : List Value} {st : List Value} (h : st = as.reverse ++ rest) : st.map (cvv A) = (as.map (cvv A)).reverse ++ rest.map (cvv A) := by
  rw [h, List.map_append, List.map_reverse]
theorem sim_static {n : Nat} (E : EnvM D cI cA p s m args meth c y) (M : MetP D cI cA base l n) (ih : IH D cI cA base p l e R s m args below meth c Q y vf hf n) {pc len : Nat} {ls st : List Value} {h : Hp} {A : Nat → Nat} {arr : Array Slot} {H : Heap} {locs : List Loc} {cells slots : Nat}  {j : Nat} 
    (hd : decode (mB y) pc = .ok (.invokestatic j, len)) (hok : okl (.invokestatic j) len = true) (he : stp y pc len ls st h (exec n y) (fun y a h' => exec n y 0 (ent y a) [] h') (.invokestatic j) = some (vf, hf)) (S : Stt D cI cA base s R y hf A h ls st arr H locs cells slots) (K : Fin D cI cA base p l e R s m args below meth c Q y vf hf A h cells slots) :
    W p l e R s m args below meth c H locs cells slots Q (F0 m pc arr (st.map (cvv A))) := by
  obtain ⟨hx, hb, hml, hown, hts, hKF, hnm⟩ := E
  obtain ⟨hR, hl, ho, hs, hloc, hce, hsl, hfr, hlo⟩ := S
  obtain rfl : len = 3 := by simpa [okl] using hok
  simp only [stp] at he
  split at he
  · rename_i z hq
    obtain ⟨h1, he⟩ := gd_some he
    have h1 := of_decide_eq_true h1
    refine cll_on M ih he ⟨hR, hl, ho, hs, hloc, hce, hsl, hfr, hlo⟩ K (okS_take hs) (okS_drop hs) fun h2 v hz hz1 M1 hr1 hr2 hr3 => ?_
    obtain ⟨x, ok, -⟩ := cal_row hq
    obtain ⟨n1, n2, n3, -⟩ := cod_ok hz hz1
    simp only [okCal, Bool.and_eq_true] at ok
    have hG : GoodIn goodWs (va_wsS (on (mO y)) j (mY z) (wsM z)) := good_in (by
      intro w hw
      simp only [va_wsS, List.cons_append, List.nil_append, List.mem_cons] at hw
      rcases hw with rfl | rfl | rfl | hw
      · exact good_at (wAt_eq ok.1) rfl
      · exact good_at (wAt_eq ok.2) rfl
      · exact n1
      · exact wsM_in hz w hw)
    exact va_runS (Ts := goodWs) (nL := mL y) ⟨hx, hb, hml, hown, hts⟩ M1 (va_cwS (mA z) hts hG rfl rfl rfl ⟨n2.1, n2.2, n3⟩ hr1) (Pm_S hR hKF) rfl (by rw [List.length_map]; exact takeA_len h1) hl.1.1 (stk_mapS (take_drop rfl)) (hr2 _) hd hr3
  · rename_i z hq
    obtain ⟨h1, he⟩ := gd_some he
    have h1 := of_decide_eq_true h1
    refine cll_on M ih he ⟨hR, hl, ho, hs, hloc, hce, hsl, hfr, hlo⟩ K (okS_take hs) (okS_drop hs) fun h2 v hz hz1 M1 hr1 hr2 hr3 => ?_
    obtain ⟨x, ok, -⟩ := cal_row hq
    obtain ⟨n1, n2, n3, -⟩ := cod_ok hz hz1
    simp only [okCal, Bool.and_eq_true] at ok
    exact va_runSN (Ts := goodWs) (nL := mL y) ⟨hx, hb, hml, hown, hts⟩ M1 ⟨va_cnB (mA z) hts (good_in (wsM_in hz)) rfl rfl rfl (hKF.2 _ (nest_at (wAt_eq ok.1) rfl)) (hts _ n1) ⟨n2.1, n2.2, n3⟩ hr1, hts _ (good_at (wAt_eq ok.2) rfl), trivial⟩ (Pm_S hR hKF) rfl (by rw [List.length_map]; exact takeA_len h1) hl.1.1 (stk_mapS (take_drop rfl)) (hr2 _) hd hr3
  · cases he
theorem sim_special {n : Nat} (E : EnvM D cI cA p s m args meth c y) (M : MetP D cI cA base l n) (ih : IH D cI cA base p l e R s m args below meth c Q y vf hf n) {pc len : Nat} {ls st : List Value} {h : Hp} {A : Nat → Nat} {arr : Array Slot} {H : Heap} {locs : List Loc} {cells slots : Nat}  {j : Nat} 
    (hd : decode (mB y) pc = .ok (.invokespecial j, len)) (hok : okl (.invokespecial j) len = true) (he : stp y pc len ls st h (exec n y) (fun y a h' => exec n y 0 (ent y a) [] h') (.invokespecial j) = some (vf, hf)) (S : Stt D cI cA base s R y hf A h ls st arr H locs cells slots) (K : Fin D cI cA base p l e R s m args below meth c Q y vf hf A h cells slots) :
    W p l e R s m args below meth c H locs cells slots Q (F0 m pc arr (st.map (cvv A))) := by
  obtain ⟨hx, hb, hml, hown, hts, hKF, hnm⟩ := E
  obtain ⟨hR, hl, ho, hs, hloc, hce, hsl, hfr, hlo⟩ := S
  obtain rfl : len = 3 := by simpa [okl] using hok
  simp only [stp] at he
  split at he
  · rename_i z hq
    obtain ⟨r, t, rfl, he⟩ := r1_some he
    obtain ⟨h1, he⟩ := gd_some he
    simp only [Bool.and_eq_true, decide_eq_true_eq] at h1
    obtain ⟨x, ok, -⟩ := cal_row hq
    simp only [okCal] at ok
    refine W.objInit hx hb hown (hts _ (good_at (wAt_eq ok) rfl)) (hts _ (good_at (wAt_eq okObj_0) rfl)) (hts _ (good_at (wAt_eq okObj_1) rfl)) rfl (by rw [hml]; exact hl.1.1) (a := A r) (rest := t.map (cvv A)) rfl hd (by omega) (by
      have h1 := cat_sum (t.map (cvv A))
      rw [List.length_map] at h1
      show 2 * 0 + _ + 12 ≤ _
      omega) ?_
    exact ih _ _ t _ _ _ _ _ _ _ he ⟨hR, hl, ho, (okS_cons.mp hs).2, hloc, hce, hsl, hfr, hlo⟩ K
  · rename_i z hq
    obtain ⟨r, t, h1, h2, h3, he⟩ := onobj_some he
    have o1 := okS_cons.mp (h3 ▸ okS_drop (k := mA z) hs)
    refine cll_on M ih he ⟨hR, hl, ho, hs, hloc, hce, hsl, hfr, hlo⟩ K (okS_cons.mpr ⟨o1.1, okS_take hs⟩) o1.2 fun h2 v hz hz1 M1 hr1 hr2 hr3 => ?_
    obtain ⟨x, ok, -⟩ := cal_row hq
    obtain ⟨n1, n2, n3, -⟩ := cod_ok hz hz1
    simp only [okCal, Bool.and_eq_true, decide_eq_true_eq] at ok
    have ew : wsM z = Cond.code (mY z) (mB z) (mL z) none :: goodWs := by unfold wsM; rw [ok.2]
    exact va_runI (Ts := goodWs) (nL := mL y) ⟨hx, hb, hml, hown, hts⟩ M1 (cwI (mA z) hts (good_in (wsM_in hz)) ew rfl rfl (hts _ n1) (hts _ (good_at (wAt_eq ok.1.1.1) rfl)) (hts _ (good_at (wAt_eq ok.1.1.2) rfl)) ok.1.2 ⟨n2.1, n2.2, n3⟩ hr1) (Pm_S (a := .ref r :: takeA (mA z) st) hR hKF) rfl (by rw [List.length_map]; exact takeA_len (by assumption)) hl.1.1 (stk_map h1) (hr2 _) hd hr3
  · rename_i z hq
    obtain ⟨r, t, h1, h2, h3, he⟩ := onobj_some he
    have o1 := okS_cons.mp (h3 ▸ okS_drop (k := mA z) hs)
    refine cll_on M ih he ⟨hR, hl, ho, hs, hloc, hce, hsl, hfr, hlo⟩ K (okS_cons.mpr ⟨o1.1, okS_take hs⟩) o1.2 fun h2 v hz hz1 M1 hr1 hr2 hr3 => ?_
    obtain ⟨x, ok, -⟩ := cal_row hq
    obtain ⟨n1, n2, n3, -⟩ := cod_ok hz hz1
    simp only [okCal, Bool.and_eq_true, decide_eq_true_eq] at ok
    have ew : wsM z = Cond.code (mY z) (mB z) (mL z) none :: goodWs := by unfold wsM; rw [ok.2]
    exact va_runIN (Ts := goodWs) (nL := mL y) ⟨hx, hb, hml, hown, hts⟩ M1 ⟨va_cnB (mA z) hts (good_in (wsM_in hz)) ew rfl rfl (hKF.2 _ (nest_at (wAt_eq ok.1.1.1) rfl)) (hts _ n1) ⟨n2.1, n2.2, n3⟩ hr1, ok.1.2, hts _ (good_at (wAt_eq ok.1.1.2) rfl)⟩ (Pm_S (a := .ref r :: takeA (mA z) st) hR hKF) rfl (by rw [List.length_map]; exact takeA_len (by assumption)) hl.1.1 (stk_map h1) (hr2 _) hd hr3
  · rename_i z hq
    obtain ⟨r, t, h1, h2, h3, he⟩ := onobj_some he
    obtain ⟨ht, he⟩ := gd_some he
    have ht : tg h r = mO y + 1 := by simpa using ht
    have o1 := okS_cons.mp (h3 ▸ okS_drop (k := mA z) hs)
    refine cll_on M ih he ⟨hR, hl, ho, hs, hloc, hce, hsl, hfr, hlo⟩ K (okS_cons.mpr ⟨o1.1, okS_take hs⟩) o1.2 fun h2 v hz hz1 M1 hr1 hr2 hr3 => ?_
    obtain ⟨x, ok, hin⟩ := cal_row hq
    obtain ⟨n1, n2, n3, -⟩ := cod_ok hz hz1
    simp only [okCal, Bool.and_eq_true, decide_eq_true_eq] at ok
    have hsup := List.all_eq_true.mp supX_all _ hin
    simp only [bne_self_eq_false, Bool.false_or, List.any_eq_true, Bool.and_eq_true, beq_iff_eq] at hsup
    obtain ⟨q, hqm, ⟨g1, g2⟩, g3⟩ := hsup
    have hsu := List.all_eq_true.mp okSup_all q hqm
    simp only [okSup, Bool.and_eq_true, decide_eq_true_eq] at hsu
    rw [g1, g3] at hsu
    have hG : GoodIn goodWs (va_wsSU (on (mO y)) j (mY z) (wsM z)) := good_in (by
      intro w hw
      simp only [va_wsSU, List.cons_append, List.nil_append, List.mem_cons] at hw
      rcases hw with rfl | rfl | rfl | rfl | rfl | hw
      · exact good_at (wAt_eq ok.1.1) rfl
      · exact good_at (wAt_eq hsu.1.1.1) rfl
      · exact good_at (wAt_eq hsu.1.1.2) rfl
      · exact good_at (wAt_eq ok.1.2) rfl
      · exact n1
      · exact wsM_in hz w hw)
    exact va_runSU (Ts := goodWs) (nL := mL y) (hKF.1.1 (mO y) _ (cl_at ok.2)).2 ⟨hx, hb, hml, hown, hts⟩ M1 (va_cwSU (mA z) hts hG rfl rfl rfl ⟨hsu.1.2, n3⟩ hr1) (Pm_V hR hKF ht ok.2) rfl (by rw [List.length_map]; exact takeA_len (by assumption)) hl.1.1 (stk_map h1) (hr2 _) hd hr3
  · cases he
theorem sim_virtual {n : Nat} (E : EnvM D cI cA p s m args meth c y) (M : MetP D cI cA base l n) (ih : IH D cI cA base p l e R s m args below meth c Q y vf hf n) {pc len : Nat} {ls st : List Value} {h : Hp} {A : Nat → Nat} {arr : Array Slot} {H : Heap} {locs : List Loc} {cells slots : Nat}  {j : Nat} 
    (hd : decode (mB y) pc = .ok (.invokevirtual j, len)) (hok : okl (.invokevirtual j) len = true) (he : stp y pc len ls st h (exec n y) (fun y a h' => exec n y 0 (ent y a) [] h') (.invokevirtual j) = some (vf, hf)) (S : Stt D cI cA base s R y hf A h ls st arr H locs cells slots) (K : Fin D cI cA base p l e R s m args below meth c Q y vf hf A h cells slots) :
    W p l e R s m args below meth c H locs cells slots Q (F0 m pc arr (st.map (cvv A))) := by
  obtain ⟨hx, hb, hml, hown, hts, hKF, hnm⟩ := E
  obtain ⟨hR, hl, ho, hs, hloc, hce, hsl, hfr, hlo⟩ := S
  obtain rfl : len = 3 := by simpa [okl] using hok
  simp only [stp] at he
  split at he
  · rename_i z hq
    obtain ⟨r, t, h1, h2, h3, he⟩ := onobj_some he
    obtain ⟨ht, he⟩ := gd_some he
    have ht : tg h r = mO z + 1 := by simpa using ht
    have o1 := okS_cons.mp (h3 ▸ okS_drop (k := mA z) hs)
    refine cll_on M ih he ⟨hR, hl, ho, hs, hloc, hce, hsl, hfr, hlo⟩ K (okS_cons.mpr ⟨o1.1, okS_take hs⟩) o1.2 fun h2 v hz hz1 M1 hr1 hr2 hr3 => ?_
    obtain ⟨x, ok, -⟩ := cal_row hq
    obtain ⟨n1, n2, n3, -⟩ := cod_ok hz hz1
    simp only [okCal, Bool.and_eq_true, decide_eq_true_eq] at ok
    have ec : (mY z).cls = cn (mO z) := on_cn ok.2
    have hG : GoodIn goodWs (wsV (on (mO y)) j (cn (mO z)) (mY z) (wsM z)) := good_in (by
      intro w hw
      rw [← ec] at hw
      simp only [wsV, List.cons_append, List.nil_append, List.mem_cons] at hw
      rcases hw with rfl | rfl | rfl | rfl | hw
      · exact good_at (wAt_eq ok.1.1.1) rfl
      · exact good_at (wAt_eq ok.1.1.2) rfl
      · exact good_at (wAt_eq ok.1.2) rfl
      · exact n1
      · exact wsM_in hz w hw)
    exact va_runV (Ts := goodWs) (nL := mL y) ⟨hx, hb, hml, hown, hts⟩ M1 (cwV (mA z) hts hG rfl rfl rfl ⟨ec, n2.1, n2.2, n3⟩ hr1) (Pm_V hR hKF ht ok.2) rfl (by rw [List.length_map]; exact takeA_len (by assumption)) hl.1.1 (stk_map h1) (hr2 _) hd hr3
  · rename_i y1 hq
    obtain ⟨r, t, h1, h2, h3, he⟩ := onobj_some he
    have o1 := okS_cons.mp (h3 ▸ okS_drop (k := mA y1) hs)
    split at he
    · rename_i z hv
      refine cll_on M ih he ⟨hR, hl, ho, hs, hloc, hce, hsl, hfr, hlo⟩ K (okS_cons.mpr ⟨o1.1, okS_take hs⟩) o1.2 fun h2 v hz hz1 M1 hr1 hr2 hr3 => ?_
      obtain ⟨n1, n2, n3, -⟩ := cod_ok hz hz1
      unfold vir at hv
      obtain ⟨q0, hq0, he0⟩ := Option.map_eq_some_iff.mp hv
      have g1 := List.find?_some hq0
      have g2 := List.mem_of_find?_eq_some hq0
      rw [virX_all] at g2
      obtain ⟨q, g3, rfl⟩ := List.mem_map.mp g2
      have ok := List.all_eq_true.mp okVir_all q g3
      obtain ⟨o', j', t', z', y0, oc, w1, w2, w3⟩ := q
      simp only [Bool.and_eq_true, beq_iff_eq] at g1
      obtain ⟨⟨i1, i2⟩, i3⟩ := g1
      have he0 : z' = z := he0
      simp only [i1, i2, i3, he0] at ok
      simp only [okVir, Bool.and_eq_true, decide_eq_true_eq] at ok
      obtain ⟨⟨⟨⟨⟨⟨⟨⟨k1, k2⟩, k3⟩, k4⟩, k5⟩, k6⟩, k7⟩, k8⟩, k9⟩ := ok
      have hy0 : y0 ≠ 1 := fun e => by rw [e] at k7; rw [k8] at k7; revert k7; decide
      obtain ⟨-, m2, m3, -⟩ := cod_ok k6 hy0
      have ht : tg h r = (tg h r - 1) + 1 := by omega
      have hG : GoodIn goodWs (va_wsO (on (mO y)) j (cn (tg h r - 1)) (mY y0).cls ⟨on oc, (mY y0).name, (mY y0).desc⟩ (mY z) (wsM z)) := good_in (by
        intro w hw
        simp only [va_wsO, List.cons_append, List.nil_append, List.mem_cons] at hw
        rcases hw with rfl | rfl | rfl | rfl | rfl | rfl | hw
        · exact good_at (wAt_eq k1) rfl
        · exact good_at (wAt_eq k2) rfl
        · exact good_at (wAt_eq k4) rfl
        · exact good_at (wAt_eq k3) rfl
        · exact good_at (wAt_eq k5) rfl
        · exact n1
        · exact wsM_in hz w hw)
      exact va_runU (Ts := goodWs) (nL := mL y) ⟨hx, hb, hml, hown, hts⟩ M1 (va_cwO (mA y0) hts hG rfl rfl rfl (cod_in k6) ⟨m2.1, m2.2, m3⟩ hr1) (Pm_V hR hKF ht (by omega)) rfl (by rw [List.length_map]; rw [takeA_len (by assumption), cal5 hq, k7, k8]) hl.1.1 (stk_map h1) (hr2 _) hd hr3
    · cases he
  · cases he
end SIMC

