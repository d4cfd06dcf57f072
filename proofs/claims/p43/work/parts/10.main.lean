/-! The machine over roles and the machine agree: every method of the tables. -/
theorem lg_sl_cons (v : Value) (l : List Value) : lg_sl (v :: l) = (if v.category = 2 then [.val v, .second] else [.val v]) ++ lg_sl l := rfl
theorem isL_iff {v : Value} : isL v = true ↔ v.category = 2 := by
  unfold isL
  exact beq_iff_eq
theorem lay_len (A : Nat → Nat) : ∀ a : List Value, (lg_sl (a.map (cvv A))).length = (lay a).length
  | [] => rfl
  | v :: l => by
    rw [List.map_cons, lg_sl_cons, lay, cvv_cat, List.length_append, lay_len A l]
    by_cases h : isL v = true
    · rw [if_pos h, if_pos (isL_iff.mp h)]
      simp only [List.length_cons, List.length_nil]
      omega
    · rw [if_neg h, if_neg (fun q => h (isL_iff.mpr q))]
      simp only [List.length_cons, List.length_nil]
      omega
theorem lay_sl (A : Nat → Nat) : ∀ (a : List Value) (k : Nat) (v : Value), (lay a)[k]? = some v → v ≠ .retAddr 0 → (lg_sl (a.map (cvv A)))[k]? = some (.val (cvv A v))
  | [], k, v, h, _ => by simp [lay] at h
  | x :: l, k, v, h, hv => by
    rw [List.map_cons, lg_sl_cons, cvv_cat]
    rw [lay] at h
    by_cases hx : isL x = true
    · rw [if_pos hx] at h
      rw [if_pos (isL_iff.mp hx)]
      cases k with
      | zero => cases h; rfl
      | succ k =>
        cases k with
        | zero => cases h; exact absurd rfl hv
        | succ k => exact lay_sl A l k v h hv
    · rw [if_neg hx] at h
      rw [if_neg (fun q => hx (isL_iff.mpr q))]
      cases k with
      | zero => cases h; rfl
      | succ k => exact lay_sl A l k v h hv
theorem lay_mem : ∀ (a : List Value) (v : Value), v ∈ lay a → v ∈ a ∨ v = .retAddr 0
  | [], v, h => by cases h
  | x :: l, v, h => by
    rw [lay] at h
    by_cases hx : isL x = true
    · rw [if_pos hx] at h
      rcases List.mem_cons.mp h with h | h
      · exact Or.inl (h ▸ List.mem_cons_self)
      · rcases List.mem_cons.mp h with h | h
        · exact Or.inr h
        · exact (lay_mem l v h).imp (List.mem_cons_of_mem _) id
    · rw [if_neg hx] at h
      rcases List.mem_cons.mp h with h | h
      · exact Or.inl (h ▸ List.mem_cons_self)
      · exact (lay_mem l v h).imp (List.mem_cons_of_mem _) id
theorem ent_mem {z : Nat} {a : List Value} {v : Value} (h : v ∈ ent z a) : v ∈ a ∨ v = .retAddr 0 := by
  rcases List.mem_append.mp h with h | h
  · exact lay_mem a v h
  · exact Or.inr (List.eq_of_mem_replicate h)
theorem ent_len {z : Nat} {a : List Value} (h : (lay a).length ≤ mL z) : (ent z a).length = mL z := by
  unfold ent
  rw [List.length_append, List.length_replicate]
  omega
theorem lsR_ent {z : Nat} {a : List Value} (A : Nat → Nat) (h : (lay a).length ≤ mL z) (hn : nol z = true → ∀ w ∈ a, isL w = false) : lsR z A (ent z a) ((lg_sl (a.map (cvv A)) ++ List.replicate (mL z - (lg_sl (a.map (cvv A))).length) Slot.unset).toArray) := by
  have h1 := lv_entry (a.map (cvv A)) (n := mL z) (by rw [lay_len]; exact h)
  refine ⟨⟨h1.1, h1.2.1, fun q hq => ?_⟩, ent_len h, fun hz v hv => ?_⟩
  · obtain ⟨q1, q2, q3⟩ := mem_held.mp hq
    have hk : q.1 < (lay a).length := by
      apply Nat.lt_of_not_le
      intro hle
      apply q2
      unfold gt ent
      rw [List.getElem?_append_right hle]
      cases hr : (List.replicate (mL z - (lay a).length) (Value.retAddr 0))[q.1 - (lay a).length]? with
      | none => rfl
      | some w =>
        have := List.mem_of_getElem? hr
        rw [List.eq_of_mem_replicate this]
        rfl
    have e : gt (ent z a) q.1 = (lay a)[q.1] := by
      unfold gt ent
      rw [List.getElem?_append_left hk, List.getElem?_eq_getElem hk]
      rfl
    have h2 := lay_sl A a q.1 (lay a)[q.1] (List.getElem?_eq_getElem hk) (by rw [← e]; exact q2)
    rw [q3, e, List.getElem?_toArray, List.getElem?_append_left (by rw [lay_len]; exact hk), h2]
  · rcases ent_mem hv with h2 | h2
    · exact hn hz v h2
    · rw [h2]; rfl
section MAIN
variable {D : va_G} {cI : ClassId} {cA : Nat → ClassId} {base : Nat} {l : Launch}
theorem met_of {n : Nat} (hI : ∀ (p : Program) (e : Env) (R : Room) (s : State) (m : MethodId) (args : Array Value) (below : List Frame) (meth : Method) (c : Code) (Q : State → Prop) (y : Nat) (vf : Value) (hf : Hp), EnvM D cI cA p s m args meth c y → IH D cI cA base p l e R s m args below meth c Q y vf hf n) : MetP D cI cA base l n := by
  intro z a h h' v A hz hz1 he hoa hnl hlay
  obtain ⟨-, -, -, hpl⟩ := cod_ok hz hz1
  refine va_MetF hpl rfl fun p e s m args below meth c s₁ B hml hP => ?_
  obtain ⟨hargs, hR, hKF⟩ := hP
  have hws := atoms_spec (ws := wsM z) B.pre
  have E : EnvM D cI cA p s m args meth c z := ⟨B.exec, B.bytes, hml, findClass_of_methodNamed B.named, fun w hw => hws w (List.mem_cons_of_mem _ hw), hKF, (name_of_methodNamed B.named B.method).1⟩
  subst hargs
  have mo := exec_mono _ _ _ _ _ _ _ _ he
  rw [lg_entry_eq]
  refine hI p e _ s m _ below meth c _ z v h' E 0 (ent z a) [] h A _ s.heap [] 0 0 he ⟨hR, lsR_ent A hlay hnl, fun w hw => ?_, fun _ hw => by (cases hw), fun _ hq => by (cases hq), ?_, ?_, Nat.le_refl _, Nat.le_refl _⟩ ?_
  · rcases ent_mem hw with h2 | h2
    · exact hoa w h2
    · rw [h2]; exact trivial
  · show 0 + ck h' ≤ (ck h' - ck h) + ck h
    omega
  · show 0 + cu h' ≤ (cu h' - cu h) + cu h
    omega
  · intro A' H' locs' cells' slots' pc' arr' hP' hR' hov hlo hc hs hret
    obtain rfl : cells' = ck h' - ck h := by omega
    obtain rfl : slots' = cu h' - cu h := by omega
    have fin : ∀ (t : State), t.heap = H' → s.WarmedH t.vm → Rep D cI cA base A' h' t t.heap := fun t ht hW => by rw [ht]; exact Rep.moved hW.alike hR'
    unfold retI at hret
    unfold rst
    rcases hret with ⟨h1, hd⟩ | ⟨x, rfl, hd, h1 | ⟨h1, h2⟩⟩ | ⟨x, rfl, hd, h1⟩ | ⟨h1, hd, h2⟩
    · rw [if_pos h1]
      exact W.vret B.exec B.bytes (B.returns.trans h1) (fun t ht hW => ⟨A', hP', fin t ht hW, hov, by unfold rvo; rw [if_pos h1]⟩) hlo hd B.notSynchronized
    · rw [if_neg (by rw [h1]; exact fun q => by cases q)]
      exact W.iret B.exec B.bytes (B.returns.trans h1) (fun t ht hW => ⟨A', hP', fin t ht hW, hov, by unfold rvo; rw [if_neg (by rw [h1]; exact fun q => by cases q)]; rfl⟩) hlo hd B.notSynchronized
    · rw [if_neg (by rw [h1]; exact fun q => by cases q)]
      exact W.zret B.exec B.bytes (B.returns.trans h1) (fit_int (Or.inr ⟨rfl, h2⟩)).1 (fun t ht hW => ⟨A', hP', fin t ht hW, hov, by unfold rvo; rw [if_neg (by rw [h1]; exact fun q => by cases q)]; rfl⟩) hlo hd B.notSynchronized
    · rw [if_neg (by rw [h1]; exact fun q => by cases q)]
      exact W.lret B.exec B.bytes (B.returns.trans h1) (fun t ht hW => ⟨A', hP', fin t ht hW, hov, by unfold rvo; rw [if_neg (by rw [h1]; exact fun q => by cases q)]; rfl⟩) hlo hd B.notSynchronized
    · have hne : ¬ mR z = none := by
        rcases h2 with ⟨n, h2⟩ | ⟨n, h2⟩ <;> rw [h2] <;> exact fun q => by cases q
      rw [if_neg hne]
      have hv : cvv A' v = .null ∨ ∃ a, cvv A' v = .ref a := by
        rcases isR_some h1 with rfl | ⟨x, rfl⟩
        · exact Or.inl rfl
        · exact Or.inr ⟨_, rfl⟩
      have hq : ∀ t : State, t.heap = H' → s.WarmedH t.vm → Qm D cI cA base z A h h' v (a.map (cvv A)).toArray s (.returned (some (cvv A' v))) t := fun t ht hW => ⟨A', hP', fin t ht hW, hov, by unfold rvo; rw [if_neg hne]⟩
      rcases h2 with ⟨n, h2⟩ | ⟨n, h2⟩
      · exact W.aret B.exec B.bytes (B.returns.trans h2) (Or.inl ⟨n, rfl⟩) hv hq hlo hd B.notSynchronized
      · exact W.aret B.exec B.bytes (B.returns.trans h2) (Or.inr ⟨n, rfl⟩) hv hq hlo hd B.notSynchronized
theorem sim_all (D : va_G) (cI : ClassId) (cA : Nat → ClassId) (base : Nat) (l : Launch) : ∀ (n : Nat) (p : Program) (e : Env) (R : Room) (s : State) (m : MethodId) (args : Array Value) (below : List Frame) (meth : Method) (c : Code) (Q : State → Prop) (y : Nat) (vf : Value) (hf : Hp), EnvM D cI cA p s m args meth c y → IH D cI cA base p l e R s m args below meth c Q y vf hf n := by
  intro n
  induction n with
  | zero =>
    intro p e R s m args below meth c Q y vf hf E pc ls st h A arr H locs cells slots he
    simp [exec] at he
  | succ n ih =>
    intro p e R s m args below meth c Q y vf hf E pc ls st h A arr H locs cells slots he S K
    have M : MetP D cI cA base l n := met_of ih
    have I1 := ih p e R s m args below meth c Q y vf hf E
    rw [exec] at he
    split at he
    · rename_i i len hd
      obtain ⟨hok, he⟩ := gd_some he
      by_cases hp : plainI i = true
      · exact sim_plain E I1 hd hok he S K hp
      · cases i <;> first
          | exact absurd rfl hp
          | exact sim_getfield E I1 hd hok he S K
          | exact sim_putfield E I1 hd hok he S K
          | exact sim_getstatic E I1 hd hok he S K
          | exact sim_iaload E I1 hd hok he S K
          | exact sim_iastore E I1 hd hok he S K
          | exact sim_aaload E I1 hd hok he S K
          | exact sim_aastore E I1 hd hok he S K
          | exact sim_arraylength E I1 hd hok he S K
          | exact sim_new E I1 hd hok he S K
          | exact sim_newarray E I1 hd hok he S K
          | exact sim_anewarray E I1 hd hok he S K
          | exact sim_ldc E I1 hd hok he S K
          | exact sim_ldc_w E I1 hd hok he S K
          | exact sim_ldc2_w E I1 hd hok he S K
          | exact sim_static E M I1 hd hok he S K
          | exact sim_special E M I1 hd hok he S K
          | exact sim_virtual E M I1 hd hok he S K
    · cases he
end MAIN
