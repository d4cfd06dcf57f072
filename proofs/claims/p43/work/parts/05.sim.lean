/-! The small machine goes as the machine goes. -/
def held (A : Nat → Nat) (ls : List Value) : List (Nat × Value) := (List.range ls.length).filterMap (fun k => if gt ls k = .retAddr 0 then none else some (k, cvv A (gt ls k)))
theorem mem_held {A : Nat → Nat} {ls : List Value} {q : Nat × Value} : q ∈ held A ls ↔ q.1 < ls.length ∧ gt ls q.1 ≠ .retAddr 0 ∧ q.2 = cvv A (gt ls q.1) := by
  unfold held
  rw [List.mem_filterMap]
  constructor
  · rintro ⟨k, hk, he⟩
    by_cases hg : gt ls k = .retAddr 0
    · rw [if_pos hg] at he; cases he
    · rw [if_neg hg] at he
      cases he
      exact ⟨List.mem_range.mp hk, hg, rfl⟩
  · rintro ⟨h1, h2, h3⟩
    refine ⟨q.1, List.mem_range.mpr h1, ?_⟩
    rw [if_neg h2, ← h3]
def lsR (y : Nat) (A : Nat → Nat) (ls : List Value) (arr : Array Slot) : Prop := lv_has arr (mL y) (held A ls) ∧ ls.length = mL y ∧ (nol y = true → ∀ v ∈ ls, isL v = false)
theorem gt_lt {ls : List Value} {k : Nat} (h : gt ls k ≠ .retAddr 0) : k < ls.length := by
  apply Nat.lt_of_not_le
  intro q
  apply h
  unfold gt
  rw [List.getElem?_eq_none q]
  rfl
theorem gt_mem {ls : List Value} {k : Nat} (h : k < ls.length) : gt ls k ∈ ls := by
  unfold gt
  rw [List.getElem?_eq_getElem h]
  exact List.getElem_mem h
theorem gt_set {ls : List Value} {k j : Nat} {v : Value} (h : k < ls.length) : gt (ls.set k v) j = if j = k then v else gt ls j := by
  unfold gt
  by_cases e : j = k
  · subst e
    rw [if_pos rfl, List.getElem?_set_self h]
    rfl
  · rw [if_neg e, List.getElem?_set_ne (Ne.symm e)]
theorem lsR.here {y : Nat} {A : Nat → Nat} {ls : List Value} {arr : Array Slot} (h : lsR y A ls arr) {k : Nat} (hk : gt ls k ≠ .retAddr 0) : arr[k]? = some (.val (cvv A (gt ls k))) := h.1.2.2 (k, cvv A (gt ls k)) (mem_held.mpr ⟨gt_lt hk, hk, rfl⟩)
theorem cvv_cat (A : Nat → Nat) (v : Value) : (cvv A v).category = v.category := by cases v <;> rfl
theorem isL_cat {v : Value} (h : isL v = false) : v.category ≠ 2 := by
  unfold isL at h
  intro e
  rw [e] at h
  cases h
theorem lsR.laid {y : Nat} {A : Nat → Nat} {ls : List Value} {arr arr' : Array Slot} (h : lsR y A ls arr) {k : Nat} {v : Value} (hk : okst y ls k = true) (hv : isL v = false) (h' : lv_has arr' (mL y) ((k, cvv A v) :: (held A ls).filter (fun q => !(q.1 == k) && !(q.1 + 1 == k && q.2.category == 2)))) : lsR y A (ls.set k v) arr' := by
  simp only [okst, Bool.and_eq_true, decide_eq_true_eq, Bool.or_eq_true, beq_iff_eq, Bool.not_eq_true'] at hk
  obtain ⟨hk1, hk2⟩ := hk
  refine ⟨⟨h'.1, h'.2.1, fun q hq => ?_⟩, by rw [List.length_set]; exact h.2.1, fun hn w hw => ?_⟩
  · obtain ⟨q1, q2, q3⟩ := mem_held.mp hq
    rw [List.length_set] at q1
    rw [gt_set hk1] at q2 q3
    apply h'.2.2
    by_cases e : q.1 = k
    · rw [if_pos e] at q3
      have : q = (k, cvv A v) := Prod.ext e q3
      rw [this]
      exact List.mem_cons_self
    · rw [if_neg e] at q2 q3
      refine List.mem_cons_of_mem _ (List.mem_filter.mpr ⟨mem_held.mpr ⟨q1, q2, q3⟩, ?_⟩)
      have e2 : (q.1 == k) = false := by simpa using e
      rw [e2]
      by_cases e3 : q.1 + 1 = k
      · have hc : isL (gt ls q.1) = false := by
          rcases hk2 with (hn | h0) | hl
          · exact h.2.2 hn _ (gt_mem q1)
          · omega
          · rw [← e3] at hl
            exact hl
        have hc2 : ¬ q.2.category = 2 := by rw [q3, cvv_cat]; exact isL_cat hc
        have e4 : (q.2.category == 2) = false := by simpa using hc2
        rw [e4]
        simp
      · have e4 : (q.1 + 1 == k) = false := by simpa using e3
        rw [e4]
        rfl
  · rcases List.mem_or_eq_of_mem_set hw with h1 | h1
    · exact h.2.2 hn w h1
    · rw [h1]; exact hv
theorem lsR.laidJ {y : Nat} {A : Nat → Nat} {ls : List Value} {arr arr' : Array Slot} (h : lsR y A ls arr) {k : Nat} {x : Int64} (hy : nol y = false) (hk : okst y ls k = true) (hk3 : k + 1 < ls.length) (h' : lv_has arr' (mL y) ((k, .long x) :: (held A ls).filter (fun q => !(q.1 == k) && (!(q.1 == k + 1) && !(q.1 + 1 == k && q.2.category == 2))))) : lsR y A ((ls.set k (.long x)).set (k + 1) (.retAddr 0)) arr' := by
  simp only [okst, Bool.and_eq_true, decide_eq_true_eq, Bool.or_eq_true, beq_iff_eq, Bool.not_eq_true'] at hk
  obtain ⟨hk1, hk2⟩ := hk
  refine ⟨⟨h'.1, h'.2.1, fun q hq => ?_⟩, by rw [List.length_set, List.length_set]; exact h.2.1, fun hn => by rw [hy] at hn; cases hn⟩
  obtain ⟨q1, q2, q3⟩ := mem_held.mp hq
  rw [List.length_set, List.length_set] at q1
  rw [gt_set (by rw [List.length_set]; exact hk3), gt_set hk1] at q2 q3
  apply h'.2.2
  by_cases e0 : q.1 = k + 1
  · rw [if_pos e0] at q2; exact absurd rfl q2
  · rw [if_neg e0] at q2 q3
    by_cases e : q.1 = k
    · rw [if_pos e] at q3
      have : q = (k, .long x) := Prod.ext e q3
      rw [this]
      exact List.mem_cons_self
    · rw [if_neg e] at q2 q3
      refine List.mem_cons_of_mem _ (List.mem_filter.mpr ⟨mem_held.mpr ⟨q1, q2, q3⟩, ?_⟩)
      have e2 : (q.1 == k) = false := by simpa using e
      have e5 : (q.1 == k + 1) = false := by simpa using e0
      rw [e2, e5]
      by_cases e3 : q.1 + 1 = k
      · have hc : isL (gt ls q.1) = false := by
          rcases hk2 with (hn | h0) | hl
          · rw [hy] at hn; cases hn
          · omega
          · rw [← e3] at hl
            exact hl
        have hc2 : ¬ q.2.category = 2 := by rw [q3, cvv_cat]; exact isL_cat hc
        have e4 : (q.2.category == 2) = false := by simpa using hc2
        rw [e4]
        simp
      · have e4 : (q.1 + 1 == k) = false := by simpa using e3
        rw [e4]
        rfl
/-- what stays: the roles that were there, but for those whose cell can become another one where the method may do that -/
def Pres (y : Nat) (A A' : Nat → Nat) (h h' : Hp) : Prop := ∀ r, tg h r ≠ 0 → (mv y = true → gw r = false) → tg h' r = tg h r ∧ A' r = A r
theorem Pres.rf (y : Nat) (A : Nat → Nat) (h : Hp) : Pres y A A h h := fun _ _ _ => ⟨rfl, rfl⟩
theorem Pres.tr {y : Nat} {A A1 A2 : Nat → Nat} {h h1 h2 : Hp} (p : Pres y A A1 h h1) (q : Pres y A1 A2 h1 h2) : Pres y A A2 h h2 := by
  intro r hr hg
  obtain ⟨p1, p2⟩ := p r hr hg
  obtain ⟨q1, q2⟩ := q r (by rw [p1]; exact hr) hg
  exact ⟨q1.trans p1, q2.trans p2⟩
/-- the same tags, the same addresses -/
theorem Pres.tags {y : Nat} {A : Nat → Nat} {h h1 : Hp} (e : ∀ r, tg h1 r = tg h r) : Pres y A A h h1 := fun r _ _ => ⟨e r, rfl⟩
theorem okS.to {y : Nat} {A A1 : Nat → Nat} {h h1 : Hp} {l : List Value} (p : Pres y A A1 h h1) (hl : okS h l) (hg : mv y = true → ng l = true) : okS h1 l ∧ l.map (cvv A1) = l.map (cvv A) := by
  have key : ∀ v ∈ l, okv h1 v ∧ cvv A1 v = cvv A v := by
    intro v hv
    cases v with
    | ref r =>
      obtain ⟨p1, p2⟩ := p r (hl _ hv) (fun hm => by
        have := List.all_eq_true.mp (hg hm) _ hv
        simpa [ngv] using this)
      exact ⟨by show tg h1 r ≠ 0; rw [p1]; exact hl _ hv, by show Value.ref _ = Value.ref _; rw [p2]⟩
    | _ => exact ⟨trivial, rfl⟩
  exact ⟨fun v hv => (key v hv).1, List.map_congr_left (fun v hv => (key v hv).2)⟩
theorem lsR.to {y : Nat} {A A1 : Nat → Nat} {h h1 : Hp} {ls : List Value} {arr : Array Slot} (p : Pres y A A1 h h1) (hl : okS h ls) (hg : mv y = true → ng ls = true) (hr : lsR y A ls arr) : lsR y A1 ls arr := by
  have e := (okS.to p hl hg).2
  have key : ∀ k, k < ls.length → cvv A1 (gt ls k) = cvv A (gt ls k) := by
    intro k hk
    have := congrArg (fun l : List Value => l[k]?) e
    simp only [List.getElem?_map] at this
    unfold gt
    rw [List.getElem?_eq_getElem hk] at this ⊢
    simpa using this
  refine ⟨⟨hr.1.1, hr.1.2.1, fun q hq => ?_⟩, hr.2⟩
  obtain ⟨q1, q2, q3⟩ := mem_held.mp hq
  exact hr.1.2.2 q (mem_held.mpr ⟨q1, q2, by rw [q3]; exact key _ q1⟩)
/-- the end of a method -/
def rst (y : Nat) (A : Nat → Nat) (v : Value) : List Value := if mR y = none then [] else [cvv A v]
def rvo (y : Nat) (A : Nat → Nat) (v : Value) : Option Value := if mR y = none then none else some (cvv A v)
def retI (y pc : Nat) (v : Value) : Prop :=
  (mR y = none ∧ decode (mB y) pc = .ok (.return_, 1)) ∨
  (∃ x : Int32, v = .int x ∧ decode (mB y) pc = .ok (.ireturn, 1) ∧ (mR y = some .int ∨ (mR y = some .boolean ∧ bz x = true))) ∨
  (∃ x : Int64, v = .long x ∧ decode (mB y) pc = .ok (.lreturn, 1) ∧ mR y = some .long) ∨
  (isR v = true ∧ decode (mB y) pc = .ok (.areturn, 1) ∧ ((∃ n, mR y = some (.object n)) ∨ ∃ t, mR y = some (.array t)))
def wsM (y : Nat) : List Jvm.Cond := .code (mY y) (mB y) (mL y) (mR y) :: goodWs
def rmM (y k u : Nat) : Room := { frames := mF y, cells := k, slots := u, locals := mLc y }
def Qm (D : va_G) (cI : ClassId) (cA : Nat → ClassId) (base z : Nat) (A : Nat → Nat) (h h' : Hp) (v : Value) : Array Value → State → Outcome → State → Prop := fun _ _ oc t => ∃ A' : Nat → Nat, Pres z A A' h h' ∧ Rep D cI cA base A' h' t t.heap ∧ okv h' v ∧ oc = .returned (rvo z A' v)
def Pm (D : va_G) (cI : ClassId) (cA : Nat → ClassId) (base : Nat) (A : Nat → Nat) (h : Hp) (a : List Value) : Array Value → State → Prop := va_Pc (a.map (cvv A)) (fun U => Rep D cI cA base A h U U.heap ∧ KF D cI cA U)
def MetP (D : va_G) (cI : ClassId) (cA : Nat → ClassId) (base : Nat) (l : Launch) (n : Nat) : Prop := ∀ (z : Nat) (a : List Value) (h h' : Hp) (v : Value) (A : Nat → Nat), z < 99 → z ≠ 1 → exec n z 0 (ent z a) [] h = some (v, h') → okS h a → (nol z = true → ∀ w ∈ a, isL w = false) → (lay a).length ≤ mL z →
  Met l (mY z) (wsM z) (rmM z (ck h' - ck h) (cu h' - cu h)) (Pm D cI cA base A h a) (Qm D cI cA base z A h h' v) (ck h' - ck h) (cu h' - cu h) (fun q => base ≤ q)
def EnvM (D : va_G) (cI : ClassId) (cA : Nat → ClassId) (p : Program) (s : State) (m : MethodId) (args : Array Value) (meth : Method) (c : Code) (y : Nat) : Prop :=
  p.tables.exec = Jvm.exec ∧ c.code = mB y ∧ c.maxLocals = mL y ∧ s.vm.findClass (on (mO y)) = some m.cls ∧ (∀ w ∈ goodWs, w.before args s = true) ∧ KF D cI cA s ∧ meth.name = (mt y).2.1
def Stt (D : va_G) (cI : ClassId) (cA : Nat → ClassId) (base : Nat) (s : State) (R : Room) (y : Nat) (hf : Hp) (A : Nat → Nat) (h : Hp) (ls st : List Value) (arr : Array Slot) (H : Heap) (locs : List Loc) (cells slots : Nat) : Prop :=
  Rep D cI cA base A h s H ∧ lsR y A ls arr ∧ okS h ls ∧ okS h st ∧ (∀ q ∈ locs, base ≤ q.base) ∧ cells + ck hf ≤ R.cells + ck h ∧ slots + cu hf ≤ R.slots + cu h ∧ mF y ≤ R.frames ∧ mLc y ≤ R.locals
def Fin (D : va_G) (cI : ClassId) (cA : Nat → ClassId) (base : Nat) (p : Program) (l : Launch) (e : Env) (R : Room) (s : State) (m : MethodId) (args : Array Value) (below : List Frame) (meth : Method) (c : Code) (Q : State → Prop) (y : Nat) (vf : Value) (hf : Hp) (A : Nat → Nat) (h : Hp) (cells slots : Nat) : Prop :=
  ∀ (A' : Nat → Nat) (H' : Heap) (locs' : List Loc) (cells' slots' pc' : Nat) (arr' : Array Slot), Pres y A A' h hf → Rep D cI cA base A' hf s H' → okv hf vf → (∀ q ∈ locs', base ≤ q.base) → cells' + ck h = cells + ck hf → slots' + cu h = slots + cu hf → retI y pc' vf →
    W p l e R s m args below meth c H' locs' cells' slots' Q (F0 m pc' arr' (rst y A' vf))
