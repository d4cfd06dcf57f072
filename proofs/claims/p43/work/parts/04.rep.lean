/-! How a heap of the small machine lies in a heap of the machine: the role r at the address A r. -/
def ck (h : Hp) : Nat := h.2.2.2.2.1
def cu (h : Hp) : Nat := h.2.2.2.2.2
def cvv (A : Nat → Nat) : Value → Value
  | .ref r => .ref (A r)
  | v => v
def okv (h : Hp) : Value → Prop
  | .ref r => tg h r ≠ 0
  | _ => True
def okS (h : Hp) (l : List Value) : Prop := ∀ v ∈ l, okv h v
def elv (A : Nat → Nat) (h : Hp) (r j : Nat) : Value := if fl h r j = true then .ref (A (child r j)) else .null
def slv (A : Nat → Nat) (h : Hp) (ci r k : Nat) : Value := if rfs ci k = true then elv A h r k else .int (I (iv h r (k : Nat)))
abbrev tysOf (cI : ClassId) (cA : Nat → ClassId) : List (ClassId × FieldType) := [(cI, .int), (cA 21, .object (aName 21)), (cA 22, .object (aName 22)), (cA 23, .object (aName 23)), (cA 24, .object (aName 24)), (cA 25, .object (aName 25))]
def KF (D : va_G) (cI : ClassId) (cA : Nat → ClassId) (U : State) : Prop := va_K D classes (tysOf cI cA) U ∧ ∀ w ∈ nestWs, va_Nw w U
theorem KF.moved {D : va_G} {cI : ClassId} {cA : Nat → ClassId} {s U : State} (hW : s.WarmedH U.vm) (h : KF D cI cA s) : KF D cI cA U := by
  refine ⟨va_K.moved hW.alike h.1, fun w hw => ?_⟩
  have hz := h.2 w hw
  have hn : nestW w = true := (List.mem_filter.mp hw).2
  cases w with
  | methodLinkNest a i x hst => exact va_Nw.warmM hW hz
  | fieldLinkNest a i b n d hst => exact va_Nw.warmF hW hz
  | castable a b => exact va_Nw.warmC hW hz
  | arrayOver t =>
    cases t with
    | object C => exact va_AO.moved hW.alike hz
    | _ => simp [nestW] at hn
  | _ => simp [nestW] at hn
theorem cl_at {ci : Nat} (h : ci < 12) : classes[ci]? = some (cn ci, cT ci, cSz ci) := by
  simp [classes, List.getElem?_map, List.getElem?_range h]
def Cel (D : va_G) (cI : ClassId) (cA : Nat → ClassId) (base : Nat) (A : Nat → Nat) (h : Hp) (U : State) (H : Heap) (r : Nat) : Prop :=
  (∀ ci, tg h r = ci + 1 → ci < 12 → t_OB (A r) (D.1 ci) (cSz ci) (D.2 ci) H (slv A h ci r)) ∧
  (tg h r = 20 → H[A r]? = some (arrV cI (ln h r) (fun j => .int (I (iv h r (j : Nat)))))) ∧
  (21 ≤ tg h r → tg h r ≤ 25 → H[A r]? = some (arrV (cA (tg h r)) (ln h r) (elv A h r))) ∧
  (tg h r = 30 → va_T .int (A r) (ln h r) (fun j => .int (I (iv h r (j : Nat)))) (fun q => base ≤ q) U H)
def Rep (D : va_G) (cI : ClassId) (cA : Nat → ClassId) (base : Nat) (A : Nat → Nat) (h : Hp) (U : State) (H : Heap) : Prop :=
  H.size = base + ck h ∧ (∀ r, tg h r ≠ 0 → Cel D cI cA base A h U H r) ∧ (∀ r, tg h r ≠ 0 → tg h r ≠ 30 → base ≤ A r) ∧ (∀ r q, tg h r ≠ 0 → tg h r ≠ 30 → tg h q ≠ 0 → A r = A q → r = q) ∧
  (∀ r, tg h r ≠ 0 → tg h r ≤ 12 ∨ (20 ≤ tg h r ∧ tg h r ≤ 25) ∨ tg h r = 30) ∧ (∀ r k, tg h r ≠ 0 → fl h r k = true → tg h (child r k) ≠ 0) ∧ (∀ r, gw r = true → tg h r ≠ 30) ∧
  va_Z "NutsUp" "FACTORIALS" "[I" (.ref (A 500)) (fun q => base ≤ q) U H ∧ va_Z "NutsUp" "LETTERS" "[I" (.ref (A 501)) (fun q => base ≤ q) U H
section REP
variable {D : va_G} {cI : ClassId} {cA : Nat → ClassId} {base : Nat} {A : Nat → Nat} {h : Hp} {U : State} {H : Heap}
theorem Rep.moved {u : State} (hvm : u.vm.Alike U.vm) (hr : Rep D cI cA base A h u H) : Rep D cI cA base A h U H := by
  obtain ⟨a, b, c, d, e, f, g, z1, z2⟩ := hr
  exact ⟨a, fun r hr => ⟨(b r hr).1, (b r hr).2.1, (b r hr).2.2.1, fun q => va_T.moved hvm ((b r hr).2.2.2 q)⟩, c, d, e, f, g, va_Z.moved hvm z1, va_Z.moved hvm z2⟩
theorem child_ne (r k : Nat) : child r k ≠ 37 ∧ child r k ≠ 38 ∧ child r k ≠ 500 ∧ child r k ≠ 501 := by
  unfold child
  grind (splits := 60)
/-- of a role whose cell can become another one: who can hold it -/
def par (c : Nat) : Nat × Nat := if c = 3 then (1, 4) else if c < 24 then (19, c - 20) else if c < 27 then (0, c - 10) else if c < 37 then (2, c - 30) else (c - 3, 1)
theorem par_child (r k : Nat) (hg : gw (child r k) = true) : par (child r k) = (r, k) := by
  have key : ∀ c, gw c = true → child r k = c → par c = (r, k) := by
    intro c hc he
    simp only [gw, Bool.or_eq_true, Bool.and_eq_true, beq_iff_eq, decide_eq_true_eq] at hc
    unfold child at he
    unfold par
    grind (splits := 60)
  exact key _ hg rfl
theorem Cel.kept {A1 : Nat → Nat} {h1 : Hp} {H1 : Heap} {r : Nat} (hz : H.size ≤ H1.size) (hc : Cel D cI cA base A h U H r) (ha : A1 r = A r) (ht : tg h1 r = tg h r) (hl : ln h1 r = ln h r) (hi : ∀ z, iv h1 r z = iv h r z) (hf : ∀ k, fl h1 r k = fl h r k) (hch : ∀ k, fl h r k = true → A1 (child r k) = A (child r k)) (hq : H1[A r]? = H[A r]?) : Cel D cI cA base A1 h1 U H1 r := by
  have he : ∀ k, elv A1 h1 r k = elv A h r k := by
    intro k
    unfold elv
    rw [hf k]
    by_cases hk : fl h r k = true
    · rw [if_pos hk, if_pos hk, hch k hk]
    · rw [if_neg hk, if_neg hk]
  obtain ⟨c1, c2, c3, c4⟩ := hc
  refine ⟨fun ci h1' h2' => ?_, fun h1' => ?_, fun h1' h2' => ?_, fun h1' => ?_⟩
  · rw [ht] at h1'
    rw [ha]
    refine ((c1 ci h1' h2').kept hq).to (fun k _ => ?_)
    unfold slv
    rw [he k, hi]
  · rw [ht] at h1'
    rw [ha, hq, c2 h1', hl]
    congr 2
    funext j
    rw [hi]
  · rw [ht] at h1' h2' ⊢
    rw [ha, hq, c3 h1' h2', hl]
    congr 2
    funext j
    rw [he]
  · rw [ht] at h1'
    obtain ⟨cell, g1, g2, g3, g4, g5, g6, g7⟩ := c4 h1'
    rw [ha, hl]
    exact ⟨cell, by rw [hq]; exact g1, g2, g3, g4, g5, fun j hj => by show _ = some (Value.int (I (iv h1 r _))); rw [hi]; exact g6 j hj, g7⟩
theorem zk {H1 : Heap} {C n d : String} {v : Value} (hz : va_Z C n d v (fun q => base ≤ q) U H) (hq : ∀ q, q < H.size → ¬ base ≤ q → H1[q]? = H[q]?) : va_Z C n d v (fun q => base ≤ q) U H1 := va_Z.kept hz hq
/-- a cell of the role r is written: its new contents are given -/
theorem Rep.put {h1 : Hp} {H1 : Heap} {r : Nat} (hr : Rep D cI cA base A h U H) (ht : tg h r ≠ 0) (ht3 : tg h r ≠ 30) (hz : H1.size = H.size) (oq : ∀ q, q ≠ A r → H1[q]? = H[q]?) (hk : ck h1 = ck h) (hT : ∀ q, tg h1 q = tg h q) (hL : ∀ q, ln h1 q = ln h q)
    (hI : ∀ q, q ≠ r → ∀ z, iv h1 q z = iv h q z) (hF : ∀ q k, q ≠ r → fl h1 q k = fl h q k) (hF2 : ∀ k, fl h1 r k = true → tg h (child r k) ≠ 0) (hn : Cel D cI cA base A h1 U H1 r) : Rep D cI cA base A h1 U H1 := by
  obtain ⟨a, b, c, d, e, f, g, z1, z2⟩ := hr
  have hb := c r ht ht3
  have ne : ∀ q, tg h q ≠ 0 → q ≠ r → A q ≠ A r := fun q hq hqr e => hqr (d r q ht ht3 hq e.symm).symm
  refine ⟨by rw [hz, hk]; exact a, fun q hq => ?_, fun q hq hq3 => ?_, fun q w hq hq3 hw he => ?_, fun q hq => ?_, fun q k hq hfl => ?_, fun q hq => ?_, zk z1 (fun q _ hq => oq q (fun e => hq (by rw [e]; exact hb))), zk z2 (fun q _ hq => oq q (fun e => hq (by rw [e]; exact hb)))⟩
  · rw [hT] at hq
    by_cases hqr : q = r
    · subst hqr
      exact hn
    · exact Cel.kept (Nat.le_of_eq hz.symm) (b q hq) rfl (hT q) (hL q) (hI q hqr) (fun k => hF q k hqr) (fun _ _ => rfl) (oq _ (ne q hq hqr))
  · rw [hT] at hq hq3; exact c q hq hq3
  · rw [hT] at hq hq3 hw; exact d q w hq hq3 hw he
  · rw [hT] at hq ⊢; exact e q hq
  · rw [hT] at hq ⊢
    by_cases hqr : q = r
    · subst hqr; exact hF2 k hfl
    · rw [hF q k hqr] at hfl; exact f q k hq hfl
  · rw [hT]; exact g q hq
theorem tg_setI (h : Hp) (r : Nat) (k v : Int) (q : Nat) : tg (setI h r k v) q = tg h q := rfl
theorem iv_setI (h : Hp) (r : Nat) (k v : Int) (q : Nat) (z : Int) : iv (setI h r k v) q z = if q = r ∧ z = k then v else iv h q z := rfl
theorem iv_setR (h : Hp) (r : Nat) (f : Int → Int) (q : Nat) (z : Int) : iv (setR h r f) q z = if q = r then f z else iv h q z := by
  by_cases e : q = r
  · rw [if_pos e]; exact congrFun (if_pos e) z
  · rw [if_neg e]; exact congrFun (if_neg e) z
theorem fl_setF (h : Hp) (r k q j : Nat) : fl (setF h r k) q j = if q = r ∧ j = k then true else fl h q j := rfl
/-- a number is laid into a field -/
theorem Rep.setObj {H1 : Heap} {r ci k : Nat} {x : Int32} (hr : Rep D cI cA base A h U H) (ht : tg h r = ci + 1) (hci : ci < 12) (hrf : rfs ci k = false) (hz : H1.size = H.size) (oq : ∀ q, q ≠ A r → H1[q]? = H[q]?)
    (ho : t_OB (A r) (D.1 ci) (cSz ci) (D.2 ci) H1 (updV (slv A h ci r) k (.int x))) : Rep D cI cA base A (setI h r (k : Nat) x.toInt) U H1 := by
  refine hr.put (r := r) (by omega) (by omega) hz oq rfl (fun _ => rfl) (fun _ => rfl) (fun q hq z => ?_) (fun _ _ _ => rfl) (fun j hj => hr.2.2.2.2.2.1 r j (by omega) hj) ⟨fun ci' h1 h2 => ?_, fun h1 => ?_, fun h1 => ?_, fun h1 => ?_⟩
  · rw [iv_setI, if_neg (fun e => hq e.1)]
  · rw [tg_setI, ht] at h1
    have e : ci' = ci := by omega
    subst e
    refine ho.to (fun j _ => ?_)
    unfold updV slv
    by_cases hj : j = k
    · subst hj
      rw [if_pos rfl, if_neg (by rw [hrf]; decide), iv_setI, if_pos ⟨rfl, rfl⟩]
      simp [I]
    · rw [if_neg hj, iv_setI, if_neg (fun e : r = r ∧ ((j : Nat) : Int) = (k : Nat) => hj (Int.ofNat.inj e.2))]
      rfl
  all_goals (rw [tg_setI, ht] at h1; omega)
/-- a link is laid into a field -/
theorem Rep.setLink {H1 : Heap} {r ci k : Nat} (hr : Rep D cI cA base A h U H) (ht : tg h r = ci + 1) (hci : ci < 12) (hrf : rfs ci k = true) (hch : tg h (child r k) ≠ 0) (hz : H1.size = H.size) (oq : ∀ q, q ≠ A r → H1[q]? = H[q]?)
    (ho : t_OB (A r) (D.1 ci) (cSz ci) (D.2 ci) H1 (updV (slv A h ci r) k (.ref (A (child r k))))) : Rep D cI cA base A (setF h r k) U H1 := by
  refine hr.put (r := r) (by omega) (by omega) hz oq rfl (fun _ => rfl) (fun _ => rfl) (fun q hq z => rfl) (fun q j hq => ?_) (fun j hj => ?_) ⟨fun ci' h1 h2 => ?_, fun h1 => ?_, fun h1 => ?_, fun h1 => ?_⟩
  · rw [fl_setF, if_neg (fun e => hq e.1)]
  · rw [fl_setF] at hj
    by_cases hjk : j = k
    · subst hjk; exact hch
    · rw [if_neg (fun e : r = r ∧ j = k => hjk e.2)] at hj; exact hr.2.2.2.2.2.1 r j (by omega) hj
  · have h1 : tg h r = ci' + 1 := h1
    have e : ci' = ci := by omega
    subst e
    refine ho.to (fun j _ => ?_)
    unfold updV slv elv
    by_cases hj : j = k
    · subst hj
      rw [if_pos rfl, if_pos hrf, fl_setF, if_pos (⟨rfl, rfl⟩ : r = r ∧ j = j)]
      rfl
    · rw [if_neg hj, fl_setF, if_neg (fun e : r = r ∧ j = k => hj e.2)]
      rfl
  · have h1 : tg h r = 20 := h1
    omega
  · have h1 : 21 ≤ tg h r := h1
    omega
  · have h1 : tg h r = 30 := h1
    omega
theorem Rep.setElL {H1 : Heap} {r k : Nat} (hr : Rep D cI cA base A h U H) (ht : 21 ≤ tg h r) (ht2 : tg h r ≤ 25) (hch : tg h (child r k) ≠ 0) (hz : H1.size = H.size) (oq : ∀ q, q ≠ A r → H1[q]? = H[q]?)
    (ho : H1[A r]? = some (arrV (cA (tg h r)) (ln h r) (updV (elv A h r) k (.ref (A (child r k)))))) : Rep D cI cA base A (setF h r k) U H1 := by
  refine hr.put (r := r) (by omega) (by omega) hz oq rfl (fun _ => rfl) (fun _ => rfl) (fun q hq z => rfl) (fun q j hq => ?_) (fun j hj => ?_) ⟨fun ci' h1 h2 => ?_, fun h1 => ?_, fun h1 h2 => ?_, fun h1 => ?_⟩
  · rw [fl_setF, if_neg (fun e => hq e.1)]
  · rw [fl_setF] at hj
    by_cases hjk : j = k
    · subst hjk; exact hch
    · rw [if_neg (fun e : r = r ∧ j = k => hjk e.2)] at hj; exact hr.2.2.2.2.2.1 r j (by omega) hj
  · have h1 : tg h r = ci' + 1 := h1
    omega
  · have h1 : tg h r = 20 := h1
    omega
  · rw [ho]
    show _ = some (arrV (cA (tg h r)) (ln h r) _)
    congr 2
    funext j
    unfold updV elv
    by_cases hj : j = k
    · subst hj
      rw [if_pos rfl, fl_setF, if_pos (⟨rfl, rfl⟩ : r = r ∧ j = j)]
      rfl
    · rw [if_neg hj, fl_setF, if_neg (fun e : r = r ∧ j = k => hj e.2)]
  · have h1 : tg h r = 30 := h1
    omega
/-- numbers of an array are laid anew -/
theorem Rep.setArr {H1 : Heap} {r : Nat} {h1 : Hp} (hr : Rep D cI cA base A h U H) (ht : tg h r = 20) (hk : ck h1 = ck h) (hT : ∀ q, tg h1 q = tg h q) (hL : ∀ q, ln h1 q = ln h q)
    (hI : ∀ q, q ≠ r → ∀ z, iv h1 q z = iv h q z) (hF : ∀ q k, fl h1 q k = fl h q k) (hz : H1.size = H.size) (oq : ∀ q, q ≠ A r → H1[q]? = H[q]?)
    (ho : H1[A r]? = some (arrV cI (ln h r) (fun j => .int (I (iv h1 r (j : Nat)))))) : Rep D cI cA base A h1 U H1 := by
  refine hr.put (r := r) (by omega) (by omega) hz oq hk hT hL hI (fun q k _ => hF q k) (fun j hj => ?_) ⟨fun ci' h1' h2 => ?_, fun h1' => ?_, fun h1' h2 => ?_, fun h1' => ?_⟩
  · rw [hF] at hj; exact hr.2.2.2.2.2.1 r j (by omega) hj
  · rw [hT] at h1'; omega
  · rw [hL]; exact ho
  · rw [hT] at h1' h2; omega
  · rw [hT] at h1'; omega
theorem tg_mk (h : Hp) (q t n u w : Nat) : tg (mk h q t n u) w = if w = q then t else tg h w := rfl
theorem ln_mk (h : Hp) (q t n u w : Nat) : ln (mk h q t n u) w = if w = q then n else ln h w := rfl
theorem iv_mk (h : Hp) (q t n u w : Nat) (z : Int) : iv (mk h q t n u) w z = if w = q then 0 else iv h w z := by
  by_cases e : w = q
  · rw [if_pos e]; exact congrFun (if_pos e) z
  · rw [if_neg e]; exact congrFun (if_neg e) z
theorem fl_mk (h : Hp) (q t n u w j : Nat) : fl (mk h q t n u) w j = if w = q then false else fl h w j := by
  by_cases e : w = q
  · rw [if_pos e]; exact congrFun (if_pos e) j
  · rw [if_neg e]; exact congrFun (if_neg e) j
/-- a cell is made -/
theorem Rep.make {H1 : Heap} {q t n u : Nat} (hr : Rep D cI cA base A h U H) (h0 : tg h q = 0) (hq5 : q ≠ 500 ∧ q ≠ 501) (ht : (1 ≤ t ∧ t ≤ 12) ∨ (20 ≤ t ∧ t ≤ 25)) (hz : H1.size = H.size + 1) (oq : ∀ a, a < H.size → H1[a]? = H[a]?)
    (ho : (∀ ci, t = ci + 1 → ci < 12 → t_OB H.size (D.1 ci) (cSz ci) (D.2 ci) H1 (fun k => if rfs ci k = true then .null else .int (I 0))) ∧ (t = 20 → H1[H.size]? = some (arrV cI n (fun _ => .int (I 0)))) ∧ (21 ≤ t → t ≤ 25 → H1[H.size]? = some (arrV (cA t) n (fun _ => .null)))) :
    Rep D cI cA base (up1 A q H.size) (mk h q t n u) U H1 := by
  obtain ⟨a, b, c, d, e, f, g, z1, z2⟩ := hr
  have lt : ∀ w, tg h w ≠ 0 → A w < H.size := by
    intro w hw
    obtain ⟨b1, b2, b3, b4⟩ := b w hw
    rcases e w hw with e1 | e1 | e1
    · obtain ⟨cell, h2, -⟩ := b1 (tg h w - 1) (by omega) (by omega)
      exact (Array.getElem?_eq_some_iff.mp h2).1
    · by_cases h20 : tg h w = 20
      · exact (Array.getElem?_eq_some_iff.mp (b2 h20)).1
      · exact (Array.getElem?_eq_some_iff.mp (b3 (by omega) e1.2)).1
    · obtain ⟨cell, h2, -⟩ := b4 e1
      exact (Array.getElem?_eq_some_iff.mp h2).1
  have hA : ∀ w, w ≠ q → up1 A q H.size w = A w := fun w hw => by unfold up1; rw [if_neg hw]
  have hAq : up1 A q H.size q = H.size := by unfold up1; rw [if_pos rfl]
  have hne : ∀ w, tg h w ≠ 0 → w ≠ q := fun w hw e => hw (by rw [e]; exact h0)
  refine ⟨by rw [hz, a]; rfl, fun w hw => ?_, fun w hw hw3 => ?_, fun w v hw hw3 hv he => ?_, fun w hw => ?_, fun w k hw hfl => ?_, fun w hg => ?_, ?_, ?_⟩
  · rw [tg_mk] at hw
    by_cases hwq : w = q
    · subst hwq
      obtain ⟨o1, o2, o3⟩ := ho
      refine ⟨fun ci h1 h2 => ?_, fun h1 => ?_, fun h1 h2 => ?_, fun h1 => ?_⟩
      · rw [tg_mk, if_pos rfl] at h1
        rw [hAq]
        refine (o1 ci h1 h2).to (fun k _ => ?_)
        unfold slv elv
        rw [fl_mk, if_pos rfl, iv_mk, if_pos rfl]
        rfl
      · rw [tg_mk, if_pos rfl] at h1
        rw [hAq, o2 h1, ln_mk, if_pos rfl]
        congr 2
        funext j
        rw [iv_mk, if_pos rfl]
      · rw [tg_mk, if_pos rfl] at h1 h2 ⊢
        rw [hAq, o3 h1 h2, ln_mk, if_pos rfl]
        congr 2
        funext j
        unfold elv
        rw [fl_mk, if_pos rfl]
        rfl
      · rw [tg_mk, if_pos rfl] at h1
        omega
    · rw [if_neg hwq] at hw
      exact Cel.kept (by omega) (b w hw) (hA w hwq) (by rw [tg_mk, if_neg hwq]) (by rw [ln_mk, if_neg hwq]) (fun z => by rw [iv_mk, if_neg hwq]) (fun k => by rw [fl_mk, if_neg hwq]) (fun k hk => hA _ (hne _ (f w k hw hk))) (oq _ (lt w hw))
  · rw [tg_mk] at hw hw3
    by_cases hwq : w = q
    · rw [hwq, hAq, a]; omega
    · rw [if_neg hwq] at hw hw3
      rw [hA w hwq]; exact c w hw hw3
  · rw [tg_mk] at hw hw3 hv
    by_cases hwq : w = q
    · subst hwq
      by_cases hvw : v = w
      · exact hvw.symm
      · rw [if_neg hvw] at hv
        rw [hAq, hA v hvw] at he
        have := lt v hv
        omega
    · rw [if_neg hwq] at hw hw3
      rw [hA w hwq] at he
      by_cases hvq : v = q
      · subst hvq
        rw [hAq] at he
        have := lt w hw
        omega
      · rw [if_neg hvq] at hv
        rw [hA v hvq] at he
        exact d w v hw hw3 hv he
  · rw [tg_mk] at hw ⊢
    by_cases hwq : w = q
    · rw [if_pos hwq]; omega
    · rw [if_neg hwq] at hw ⊢; exact e w hw
  · rw [tg_mk] at hw ⊢
    rw [fl_mk] at hfl
    by_cases hwq : w = q
    · rw [if_pos hwq] at hfl; cases hfl
    · rw [if_neg hwq] at hw hfl
      have h2 := f w k hw hfl
      rw [if_neg (hne _ h2)]
      exact h2
  · rw [tg_mk]
    split
    · omega
    · exact g w hg
  · rw [hA 500 (Ne.symm hq5.1)]
    exact zk z1 (fun q h1 _ => oq q h1)
  · rw [hA 501 (Ne.symm hq5.2)]
    exact zk z2 (fun q h1 _ => oq q h1)
theorem tg_mov (h : Hp) (r k c q w : Nat) : tg (mov h r k c q) w = if w = q then 0 else if w = c then tg h q else tg h w := rfl
theorem ln_mov (h : Hp) (r k c q w : Nat) : ln (mov h r k c q) w = if w = c then ln h q else ln h w := rfl
theorem iv_mov (h : Hp) (r k c q w : Nat) (z : Int) : iv (mov h r k c q) w z = if w = c then iv h q z else iv h w z := by
  by_cases e : w = c
  · rw [if_pos e]; exact congrFun (if_pos e) z
  · rw [if_neg e]; exact congrFun (if_neg e) z
theorem fl_mov (h : Hp) (r k c q w j : Nat) : fl (mov h r k c q) w j = if w = r ∧ j = k then true else if w = c then false else fl h w j := by
  by_cases e1 : w = r ∧ j = k
  · rw [if_pos e1]; exact if_pos e1
  · rw [if_neg e1]
    refine (if_neg e1).trans ?_
    by_cases e : w = c
    · rw [if_pos e]; exact congrFun (if_pos e) j
    · rw [if_neg e]; exact congrFun (if_neg e) j
theorem rfs_grain (ci : Nat) (h : ci = 2 ∨ ci = 4 ∨ ci = 6) (k : Nat) (hk : k < cSz ci) : rfs ci k = false := by
  have key : ∀ ci, ci < 12 → (ci == 2 || ci == 4 || ci == 6) = true → ∀ k, k < cSz ci → rfs ci k = false := by decide +kernel
  exact key ci (by omega) (by rcases h with rfl | rfl | rfl <;> rfl) k hk
/-- what was made comes to its place -/
theorem Rep.move {H1 : Heap} {r k q : Nat} (hr : Rep D cI cA base A h U H) (ht : tg h r ≠ 0) (ht3 : tg h r ≠ 30) (hg : gw (child r k) = true) (hgr : gw r = false) (hq : (q = 38 ∧ tg h q = 20) ∨ (q = 37 ∧ (tg h q = 3 ∨ tg h q = 5 ∨ tg h q = 7)))
    (hz : H1.size = H.size) (oq : ∀ a, a ≠ A r → H1[a]? = H[a]?) (hn : Cel D cI cA base (up1 A (child r k) (A q)) (mov h r k (child r k) q) U H1 r) : Rep D cI cA base (up1 A (child r k) (A q)) (mov h r k (child r k) q) U H1 := by
  obtain ⟨a, b, c, d, e, f, g, z1, z2⟩ := hr
  generalize hcd : child r k = w at *
  have hwq : w ≠ q := by
    have := child_ne r k
    rw [hcd] at this
    omega
  have hw5 : w ≠ 500 ∧ w ≠ 501 := by
    have := child_ne r k
    rw [hcd] at this
    exact this.2.2
  have hwr : w ≠ r := fun e => by rw [e, hgr] at hg; cases hg
  have hqr : q ≠ r := fun e => by
    rw [← e] at hgr
    rcases hq with hq | hq <;> (rw [hq.1] at hgr; revert hgr; decide)
  have hq0 : tg h q ≠ 0 := by omega
  have hq3 : tg h q ≠ 30 := by omega
  have hA : ∀ v, v ≠ w → up1 A w (A q) v = A v := fun v hv => by unfold up1; rw [if_neg hv]
  have hAw : up1 A w (A q) w = A q := by unfold up1; rw [if_pos rfl]
  have hb := c r ht ht3
  have ne : ∀ v, tg h v ≠ 0 → v ≠ r → A v ≠ A r := fun v hv hvr e => hvr (d r v ht ht3 hv e.symm).symm
  have key : ∀ v, tg (mov h r k w q) v ≠ 0 → v ≠ q ∧ ((v = w) ∨ (v ≠ w ∧ tg h v ≠ 0 ∧ tg (mov h r k w q) v = tg h v)) := by
    intro v hv
    rw [tg_mov] at hv ⊢
    by_cases h1 : v = q
    · rw [if_pos h1] at hv; exact absurd rfl hv
    · rw [if_neg h1] at hv ⊢
      by_cases h2 : v = w
      · exact ⟨h1, Or.inl h2⟩
      · rw [if_neg h2] at hv ⊢; exact ⟨h1, Or.inr ⟨h2, hv, rfl⟩⟩
  have tw : tg (mov h r k w q) w = tg h q := by rw [tg_mov, if_neg hwq, if_pos rfl]
  refine ⟨by rw [hz]; exact a, fun v hv => ?_, fun v hv hv3 => ?_, fun v u hv hv3 hu he => ?_, fun v hv => ?_, fun v j hv hfl => ?_, fun v hv => ?_, ?_, ?_⟩
  · obtain ⟨h1, h2 | ⟨h2, h3, h4⟩⟩ := key v hv
    · subst h2
      obtain ⟨b1, b2, b3, b4⟩ := b q hq0
      refine ⟨fun ci i1 i2 => ?_, fun i1 => ?_, fun i1 i2 => ?_, fun i1 => ?_⟩
      · rw [tw] at i1
        rw [hAw]
        refine ((b1 ci i1 i2).kept (oq _ (ne q hq0 hqr))).to (fun j hj => ?_)
        have hrf : rfs ci j = false := rfs_grain ci (by omega) j hj
        unfold slv
        rw [if_neg (by rw [hrf]; decide), if_neg (by rw [hrf]; decide), iv_mov, if_pos rfl]
      · rw [tw] at i1
        rw [hAw, oq _ (ne q hq0 hqr), b2 i1, ln_mov, if_pos rfl]
        congr 2
        funext j
        rw [iv_mov, if_pos rfl]
      · rw [tw] at i1 i2
        omega
      · rw [tw] at i1
        omega
    · by_cases hvr : v = r
      · subst hvr; exact hn
      · refine Cel.kept (Nat.le_of_eq hz.symm) (b v h3) (hA v h2) h4 (by rw [ln_mov, if_neg h2]) (fun z => by rw [iv_mov, if_neg h2]) (fun j => by rw [fl_mov, if_neg (fun e => hvr e.1), if_neg h2]) (fun j hj => hA _ (fun e => hvr ?_)) (oq _ (ne v h3 hvr))
        have p1 := par_child v j (by rw [e]; exact hg)
        have p2 := par_child r k (by rw [hcd]; exact hg)
        rw [e] at p1
        rw [hcd] at p2
        exact (Prod.mk.inj (p1.symm.trans p2)).1
  · obtain ⟨h1, h2 | ⟨h2, h3, h4⟩⟩ := key v hv
    · rw [h2, hAw]; exact c q hq0 hq3
    · rw [hA v h2]; rw [h4] at hv3; exact c v h3 hv3
  · obtain ⟨h1, h2 | ⟨h2, h3, h4⟩⟩ := key v hv
    · obtain ⟨g1, g2 | ⟨g2, g3, g4⟩⟩ := key u hu
      · rw [h2, g2]
      · rw [h2, hAw, hA u g2] at he
        exact absurd (d q u hq0 hq3 g3 he).symm g1
    · obtain ⟨g1, g2 | ⟨g2, g3, g4⟩⟩ := key u hu
      · rw [g2, hAw, hA v h2] at he
        rw [h4] at hv3
        exact absurd (d v q h3 hv3 hq0 he) h1
      · rw [hA v h2, hA u g2] at he
        rw [h4] at hv3
        exact d v u h3 hv3 g3 he
  · obtain ⟨h1, h2 | ⟨h2, h3, h4⟩⟩ := key v hv
    · rw [h2, tw]; exact e q hq0
    · rw [h4]; exact e v h3
  · rw [tg_mov]
    have n1 : child v j ≠ q := by
      have := child_ne v j
      omega
    rw [if_neg n1]
    split
    · exact hq0
    · rename_i n2
      obtain ⟨h1, h2 | ⟨h2, h3, h4⟩⟩ := key v hv
      · rw [fl_mov] at hfl
        by_cases h5 : v = r ∧ j = k
        · rw [h5.1, h5.2, hcd] at n2; exact absurd rfl n2
        · rw [if_neg h5, if_pos h2] at hfl
          cases hfl
      · rw [fl_mov] at hfl
        by_cases h5 : v = r ∧ j = k
        · rw [h5.1, h5.2, hcd] at n2; exact absurd rfl n2
        · rw [if_neg h5, if_neg h2] at hfl
          exact f v j h3 hfl
  · rw [tg_mov]
    split
    · omega
    · split
      · exact hq3
      · exact g v hv
  · rw [hA 500 (Ne.symm hw5.1)]
    exact zk z1 (fun q _ hq => oq q (fun e => hq (by rw [e]; exact hb)))
  · rw [hA 501 (Ne.symm hw5.2)]
    exact zk z2 (fun q _ hq => oq q (fun e => hq (by rw [e]; exact hb)))
end REP
