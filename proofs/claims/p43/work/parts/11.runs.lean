/-! Runs: from a place the method comes to its end, and then P. -/
theorem gd_t {r : Rs} : gd true r = r := rfl
/-- more steps do no harm -/
theorem stp_le {y pc len : Nat} {ls st : List Value} {h : Hp} {go go2 : Go} {call call2 : Nat → List Value → Hp → Rs} {i : Instr} {r : Value × Hp}
    (hg : ∀ pc' ls' st' h1 r, go pc' ls' st' h1 = some r → go2 pc' ls' st' h1 = some r) (hc : ∀ z a h1 r, call z a h1 = some r → call2 z a h1 = some r) (he : stp y pc len ls st h go call i = some r) : stp y pc len ls st h go2 call2 i = some r := by
  have hgd : ∀ (b : Bool) pc' ls' st' h1, gd b (go pc' ls' st' h1) = some r → gd b (go2 pc' ls' st' h1) = some r := by
    intro b pc1 ls1 st1 h1 q
    obtain ⟨rfl, q⟩ := gd_some q
    exact hg _ _ _ _ _ q
  have hj : ∀ off ls' st' h1, jmp pc off (fun t => go t ls' st' h1) = some r → jmp pc off (fun t => go2 t ls' st' h1) = some r := fun off ls1 st1 h1 q => hgd _ _ _ _ _ q
  have hbr : ∀ c x z (t1 t2 : Nat) l1 s1 h1 l2 s2 h2, brn c x z (go t1 l1 s1 h1) (go t2 l2 s2 h2) = some r → brn c x z (go2 t1 l1 s1 h1) (go2 t2 l2 s2 h2) = some r := by
    intro c x z t1 t2 l1 s1 h1 l2 s2 h2 q
    cases c <;> simp only [brn] at q ⊢ <;> split at q <;> rename_i hcc <;> (first | rw [if_pos hcc] | rw [if_neg hcc]) <;> exact hg _ _ _ _ _ q
  have hcll : ∀ z lz sz a, cll y pc z lz sz h go call a = some r → cll y pc z lz sz h go2 call2 a = some r := by
    intro z lz sz a q
    unfold cll at q ⊢
    obtain ⟨q1, q⟩ := gd_some q
    split at q
    · rename_i w h2 heq
      rw [hc _ _ _ _ heq, q1]
      exact hg _ _ _ _ _ q
    · cases q
  cases i <;> simp only [stp] at he ⊢
  case iconst n =>
    exact hg _ _ _ _ _ he
  case bipush n =>
    exact hg _ _ _ _ _ he
  case sipush n =>
    exact hg _ _ _ _ _ he
  case lconst n =>
    exact hg _ _ _ _ _ he
  case aconst_null =>
    exact hg _ _ _ _ _ he
  case ldc j =>
    split at he
    · exact hg _ _ _ _ _ he
    · cases he
  case ldc_w j =>
    split at he
    · exact hg _ _ _ _ _ he
    · cases he
  case ldc2_w j =>
    cases he
  case iload k =>
    exact hgd _ _ _ _ _ he
  case iload_n k =>
    exact hgd _ _ _ _ _ he
  case lload k =>
    exact hgd _ _ _ _ _ he
  case lload_n k =>
    exact hgd _ _ _ _ _ he
  case aload k =>
    exact hgd _ _ _ _ _ he
  case aload_n k =>
    exact hgd _ _ _ _ _ he
  case istore k =>
    obtain ⟨x, t, rfl, he⟩ := i1_some he
    exact hgd _ _ _ _ _ he
  case istore_n k =>
    obtain ⟨x, t, rfl, he⟩ := i1_some he
    exact hgd _ _ _ _ _ he
  case astore k =>
    obtain ⟨x, t, rfl, he⟩ := v1_some he
    exact hgd _ _ _ _ _ he
  case astore_n k =>
    obtain ⟨x, t, rfl, he⟩ := v1_some he
    exact hgd _ _ _ _ _ he
  case lstore k =>
    obtain ⟨x, t, rfl, he⟩ := l1_some he
    exact hgd _ _ _ _ _ he
  case lstore_n k =>
    obtain ⟨x, t, rfl, he⟩ := l1_some he
    exact hgd _ _ _ _ _ he
  case iinc k j =>
    split at he
    · exact hgd _ _ _ _ _ he
    · cases he
  case iadd =>
    obtain ⟨x, z, t, rfl, he⟩ := i2_some he
    exact hg _ _ _ _ _ he
  case isub =>
    obtain ⟨x, z, t, rfl, he⟩ := i2_some he
    exact hg _ _ _ _ _ he
  case imul =>
    obtain ⟨x, z, t, rfl, he⟩ := i2_some he
    exact hg _ _ _ _ _ he
  case ishl =>
    obtain ⟨x, z, t, rfl, he⟩ := i2_some he
    exact hg _ _ _ _ _ he
  case ishr =>
    obtain ⟨x, z, t, rfl, he⟩ := i2_some he
    exact hg _ _ _ _ _ he
  case iushr =>
    obtain ⟨x, z, t, rfl, he⟩ := i2_some he
    exact hg _ _ _ _ _ he
  case iand =>
    obtain ⟨x, z, t, rfl, he⟩ := i2_some he
    exact hg _ _ _ _ _ he
  case ior =>
    obtain ⟨x, z, t, rfl, he⟩ := i2_some he
    exact hg _ _ _ _ _ he
  case ixor =>
    obtain ⟨x, z, t, rfl, he⟩ := i2_some he
    exact hg _ _ _ _ _ he
  case idiv =>
    obtain ⟨x, z, t, rfl, he⟩ := i2_some he
    exact hgd _ _ _ _ _ he
  case irem =>
    obtain ⟨x, z, t, rfl, he⟩ := i2_some he
    exact hgd _ _ _ _ _ he
  case ineg =>
    obtain ⟨x, t, rfl, he⟩ := i1_some he
    exact hg _ _ _ _ _ he
  case i2l =>
    obtain ⟨x, t, rfl, he⟩ := i1_some he
    exact hg _ _ _ _ _ he
  case i2b =>
    obtain ⟨x, t, rfl, he⟩ := i1_some he
    exact hg _ _ _ _ _ he
  case i2s =>
    obtain ⟨x, t, rfl, he⟩ := i1_some he
    exact hg _ _ _ _ _ he
  case ldiv =>
    obtain ⟨x, z, t, rfl, he⟩ := l2_some he
    exact hgd _ _ _ _ _ he
  case lrem =>
    obtain ⟨x, z, t, rfl, he⟩ := l2_some he
    exact hgd _ _ _ _ _ he
  case lcmp =>
    obtain ⟨x, z, t, rfl, he⟩ := l2_some he
    exact hg _ _ _ _ _ he
  case pop =>
    obtain ⟨x, t, rfl, he⟩ := v1_some he
    exact hgd _ _ _ _ _ he
  case dup =>
    obtain ⟨x, t, rfl, he⟩ := v1_some he
    exact hgd _ _ _ _ _ he
  case dup2 =>
    obtain ⟨x, t, rfl, he⟩ := v1_some he
    obtain ⟨x2, t2, rfl, he⟩ := v1_some (st := t) he
    exact hgd _ _ _ _ _ he
  case goto off =>
    exact hj _ _ _ _ he
  case ifCond cc off =>
    obtain ⟨x, t, rfl, he⟩ := i1_some he
    obtain ⟨q1, he⟩ := gd_some he
    show gd _ _ = _
    rw [q1]
    exact hbr _ _ _ _ _ _ _ _ _ _ _ he
  case if_icmp cc off =>
    obtain ⟨x, z, t, rfl, he⟩ := i2_some he
    obtain ⟨q1, he⟩ := gd_some he
    show gd _ _ = _
    rw [q1]
    exact hbr _ _ _ _ _ _ _ _ _ _ _ he
  case ifnull off =>
    split at he
    · exact hj _ _ _ _ he
    · exact hg _ _ _ _ _ he
    · cases he
  case ifnonnull off =>
    split at he
    · exact hg _ _ _ _ _ he
    · exact hj _ _ _ _ he
    · cases he
  case tableswitch d lo hi offs =>
    obtain ⟨x, t, rfl, he⟩ := i1_some he
    show (if _ then _ else _) = _
    change (if _ then _ else _) = some r at he
    split at he
    · rename_i hcc
      rw [if_pos hcc]
      exact hj _ _ _ _ he
    · rename_i hcc
      rw [if_neg hcc]
      split at he
      · exact hj _ _ _ _ he
      · cases he
  case lookupswitch d ps =>
    obtain ⟨x, t, rfl, he⟩ := i1_some he
    obtain ⟨q1, he⟩ := gd_some he
    show gd _ _ = _
    rw [q1]
    exact hj _ _ _ _ he
  case getfield j =>
    split at he
    · obtain ⟨x, t, rfl, he⟩ := r1_some he
      obtain ⟨q1, he⟩ := gd_some he
      show gd _ _ = _
      rw [q1]
      show (if _ then _ else _) = _
      split at he
      · rename_i hcc
        rw [if_pos hcc]
        exact hgd _ _ _ _ _ he
      · rename_i hcc
        rw [if_neg hcc]
        exact hg _ _ _ _ _ he
    · cases he
  case putfield j =>
    split at he
    · obtain ⟨q1, he⟩ := gd_some he
      rw [q1, gd_t]
      split at he
      · exact hgd _ _ _ _ _ he
      · obtain ⟨q2, he⟩ := gd_some he
        show gd _ _ = _
        rw [q2]
        show (if _ then _ else _) = _
        split at he
        · rename_i hcc
          rw [if_pos hcc]
          exact hg _ _ _ _ _ he
        · rename_i hcc
          rw [if_neg hcc]
          exact hgd _ _ _ _ _ he
      · cases he
    · cases he
  case getstatic j =>
    split at he
    · exact hgd _ _ _ _ _ he
    · cases he
  case iaload =>
    obtain ⟨x, i, t, rfl, he⟩ := ri_some he
    exact hgd _ _ _ _ _ he
  case iastore =>
    obtain ⟨x, i, z, t, rfl, he⟩ := rii_some he
    exact hgd _ _ _ _ _ he
  case aaload =>
    obtain ⟨x, i, t, rfl, he⟩ := ri_some he
    exact hgd _ _ _ _ _ he
  case aastore =>
    obtain ⟨x, i, z, t, rfl, he⟩ := rir_some he
    obtain ⟨q2, he⟩ := gd_some he
    show gd _ _ = _
    rw [q2]
    show (if _ then _ else _) = _
    split at he
    · rename_i hcc
      rw [if_pos hcc]
      exact hg _ _ _ _ _ he
    · rename_i hcc
      rw [if_neg hcc]
      exact hgd _ _ _ _ _ he
  case arraylength =>
    obtain ⟨x, t, rfl, he⟩ := r1_some he
    exact hgd _ _ _ _ _ he
  case new j =>
    split at he
    · exact hgd _ _ _ _ _ he
    · cases he
  case newarray j =>
    obtain ⟨x, t, rfl, he⟩ := i1_some he
    exact hgd _ _ _ _ _ he
  case anewarray j =>
    split at he
    · obtain ⟨x, t, rfl, he⟩ := i1_some he
      exact hgd _ _ _ _ _ he
    · cases he
  case invokestatic j =>
    split at he
    · obtain ⟨q1, he⟩ := gd_some he
      rw [q1]
      exact hcll _ _ _ _ he
    · obtain ⟨q1, he⟩ := gd_some he
      rw [q1]
      exact hcll _ _ _ _ he
    · cases he
  case invokespecial j =>
    have hon : ∀ z sz (f f2 : Nat → List Value → List Value → Rs), (∀ r0 a s, f r0 a s = some r → f2 r0 a s = some r) → onobj z sz f = some r → onobj z sz f2 = some r := by
      intro z sz f f2 hf q
      obtain ⟨r0, t, e, q⟩ := r1_some q
      obtain ⟨q1, q⟩ := gd_some q
      unfold onobj
      rw [e]
      show gd _ _ = _
      rw [q1]
      exact hf _ _ _ q
    split at he
    · obtain ⟨x, t, rfl, he⟩ := r1_some he
      exact hgd _ _ _ _ _ he
    · exact hon _ _ _ _ (fun _ _ _ q => hcll _ _ _ _ q) he
    · exact hon _ _ _ _ (fun _ _ _ q => hcll _ _ _ _ q) he
    · refine hon _ _ _ _ (fun _ _ _ q => ?_) he
      obtain ⟨q1, q⟩ := gd_some q
      rw [q1]
      exact hcll _ _ _ _ q
    · cases he
  case invokevirtual j =>
    have hon : ∀ z sz (f f2 : Nat → List Value → List Value → Rs), (∀ r0 a s, f r0 a s = some r → f2 r0 a s = some r) → onobj z sz f = some r → onobj z sz f2 = some r := by
      intro z sz f f2 hf q
      obtain ⟨r0, t, e, q⟩ := r1_some q
      obtain ⟨q1, q⟩ := gd_some q
      unfold onobj
      rw [e]
      show gd _ _ = _
      rw [q1]
      exact hf _ _ _ q
    split at he
    · refine hon _ _ _ _ (fun _ _ _ q => ?_) he
      obtain ⟨q1, q⟩ := gd_some q
      rw [q1]
      exact hcll _ _ _ _ q
    · refine hon _ _ _ _ (fun _ _ _ q => ?_) he
      split at q
      · exact hcll _ _ _ _ q
      · cases q
    · cases he
  case ireturn =>
    exact he
  case lreturn =>
    exact he
  case areturn =>
    exact he
  case return_ =>
    exact he
  all_goals (cases he)
theorem exec_le : ∀ (n k y pc : Nat) (ls st : List Value) (h : Hp) (r : Value × Hp), n ≤ k → exec n y pc ls st h = some r → exec k y pc ls st h = some r := by
  intro n
  induction n with
  | zero => intro k y pc ls st h r _ he; simp [exec] at he
  | succ n ih =>
    intro k y pc ls st h r hk he
    cases k with
    | zero => omega
    | succ k =>
      rw [exec] at he ⊢
      split at he
      · obtain ⟨q1, he⟩ := gd_some he
        rw [q1]
        exact stp_le (fun _ _ _ _ _ q => ih k _ _ _ _ _ _ (by omega) q) (fun _ _ _ _ q => ih k _ _ _ _ _ _ (by omega) q) he
      · cases he
def R (m pc : Nat) (ls st : List Value) (h : Hp) (P : Value → Hp → Prop) : Prop := ∃ (n : Nat) (v : Value) (h' : Hp), exec n m pc ls st h = some (v, h') ∧ P v h'
theorem R.imp {m pc : Nat} {ls st : List Value} {h : Hp} {P Q : Value → Hp → Prop} (hr : R m pc ls st h P) (hq : ∀ v h', P v h' → Q v h') : R m pc ls st h Q := by
  obtain ⟨n, v, h', e, p⟩ := hr
  exact ⟨n, v, h', e, hq _ _ p⟩
def Dd (m pc : Nat) (i : Instr) (len : Nat) : Prop := decode (mB m) pc = .ok (i, len) ∧ okl i len = true
def Dall (m : Nat) (l : List (Nat × Instr × Nat)) : Bool := l.all (fun q => decide (decode (mB m) q.1 = .ok (q.2.1, q.2.2)) && okl q.2.1 q.2.2)
theorem Dat {m : Nat} {l : List (Nat × Instr × Nat)} (h : Dall m l = true) (k : Nat) {pc len : Nat} {i : Instr} (hq : l[k]? = some (pc, i, len)) : Dd m pc i len := by
  have h1 := List.all_eq_true.mp h _ (List.mem_of_getElem? hq)
  rw [Bool.and_eq_true, decide_eq_true_eq] at h1
  exact h1
theorem R_go {m pc len pc' : Nat} {ls st ls' st' : List Value} {h h' : Hp} {i : Instr} {P : Value → Hp → Prop} (hd : Dd m pc i len) (he : ∀ go call, stp m pc len ls st h go call i = go pc' ls' st' h') (k : R m pc' ls' st' h' P) : R m pc ls st h P := by
  obtain ⟨n, v, h2, e, p⟩ := k
  refine ⟨n + 1, v, h2, ?_, p⟩
  rw [exec, hd.1]
  show gd _ _ = _
  rw [hd.2, he]
  exact e
theorem R_end {m pc len : Nat} {ls st : List Value} {h h' : Hp} {v : Value} {i : Instr} {P : Value → Hp → Prop} (hd : Dd m pc i len) (he : ∀ go call, stp m pc len ls st h go call i = some (v, h')) (k : P v h') : R m pc ls st h P := by
  refine ⟨1, v, h', ?_, k⟩
  rw [exec, hd.1]
  show gd _ _ = _
  rw [hd.2, he]
  rfl
def okg (m y : Nat) (ls s a : List Value) : Bool := okc m y && decide (s.length ≤ 4) && (!nol y || a.all (fun v => !isL v)) && decide ((lay a).length ≤ mL y) && (!mv y || (mv m && ng ls && ng s))
theorem R_cll {m pc len y : Nat} {ls st s a e : List Value} {h : Hp} {i : Instr} {P : Value → Hp → Prop} (hd : Dd m pc i len) (he : ∀ go call, stp m pc len ls st h go call i = cll m pc y ls s h go call a) (hg : okg m y ls s a = true) (hent : ent y a = e)
    (k : R y 0 e [] h (fun v h2 => R m (pc + 3) ls (back y v s) h2 P)) : R m pc ls st h P := by
  obtain ⟨n, v, h2, e1, n2, v2, h3, e2, p⟩ := k
  refine ⟨n + n2 + 1, v2, h3, ?_, p⟩
  rw [exec, hd.1]
  show gd _ _ = _
  rw [hd.2, he]
  show gd true _ = _
  unfold gd cll
  rw [if_pos rfl]
  have hg2 : (okc m y && decide (s.length ≤ 4) && (!nol y || a.all (fun v => !isL v)) && decide ((lay a).length ≤ mL y) && (!mv y || (mv m && ng ls && ng s))) = true := hg
  rw [hg2]
  show (match exec (n + n2) y 0 (ent y a) [] h with | some (v, h') => exec (n + n2) m (pc + 3) ls (back y v s) h' | none => none) = _
  rw [hent, exec_le n (n + n2) _ _ _ _ _ _ (by omega) e1]
  exact exec_le n2 (n + n2) _ _ _ _ _ _ (by omega) e2
/-! numbers -/
def J (z : Int) : Int64 := Int64.ofInt z
abbrev rng (z : Int) : Prop := -2147483648 ≤ z ∧ z < 2147483648
def wr (z : Int) : Int := (I z).toInt
theorem I_toInt {z : Int} (h : rng z) : (I z).toInt = z := Int32.toInt_ofInt_of_le h.1 h.2
theorem wr_eq {z : Int} (h : rng z) : wr z = z := I_toInt h
theorem wr_rng (z : Int) : rng (wr z) := ⟨Int32.le_toInt _, Int32.toInt_lt _⟩
theorem I_wr (z : Int) : I (wr z) = I z := by unfold wr I; exact Int32.ofInt_toInt _
theorem I_add (a b : Int) : I a + I b = I (a + b) := (Int32.ofInt_add a b).symm
theorem I_sub (a b : Int) : I a - I b = I (a - b) := (Int32.ofInt_sub a b).symm
theorem I_mul (a b : Int) : I a * I b = I (a * b) := (Int32.ofInt_mul a b).symm
theorem I_neg (a : Int) : -I a = I (-a) := (Int32.ofInt_neg a).symm
theorem I_inj {a b : Int} (ha : rng a) (hb : rng b) : I a = I b ↔ a = b := by
  constructor
  · intro h
    have := congrArg Int32.toInt h
    rwa [I_toInt ha, I_toInt hb] at this
  · intro h; rw [h]
theorem I_lt {a b : Int} (ha : rng a) (hb : rng b) : I a < I b ↔ a < b := by
  rw [Int32.lt_iff_toInt_lt, I_toInt ha, I_toInt hb]
theorem I_div {a b : Int} (ha : 0 ≤ a ∧ a < 2147483648) (hb : 0 < b ∧ b < 2147483648) : I a / I b = I (a / b) := by
  apply Int32.toInt_inj.mp
  have h1 : 0 ≤ a / b := Int.ediv_nonneg ha.1 (by omega)
  have h2 : a / b ≤ a := Int.ediv_le_self _ ha.1
  rw [Int32.toInt_div, I_toInt ⟨by omega, ha.2⟩, I_toInt ⟨by omega, hb.2⟩, I_toInt ⟨by omega, by omega⟩, Int.tdiv_eq_ediv_of_nonneg ha.1]
  exact Int.bmod_eq_of_le (by omega) (by omega)
theorem I_mod {a b : Int} (ha : 0 ≤ a ∧ a < 2147483648) (hb : 0 < b ∧ b < 2147483648) : I a % I b = I (a % b) := by
  apply Int32.toInt_inj.mp
  have h1 : 0 ≤ a % b := Int.emod_nonneg _ (by omega)
  have h2 : a % b < b := Int.emod_lt_of_pos _ hb.1
  rw [Int32.toInt_mod, I_toInt ⟨by omega, ha.2⟩, I_toInt ⟨by omega, hb.2⟩, I_toInt ⟨by omega, by omega⟩, Int.tmod_eq_emod_of_nonneg ha.1]
def band (a b : Int) : Int := (I a &&& I b).toInt
def bor (a b : Int) : Int := (I a ||| I b).toInt
def bxor (a b : Int) : Int := (I a ^^^ I b).toInt
def shl (a k : Int) : Int := (I a <<< (I k &&& 31)).toInt
def shr (a k : Int) : Int := (I a >>> (I k &&& 31)).toInt
def ushr (a k : Int) : Int := (((I a).toUInt32 >>> ((I k).toUInt32 &&& Int32.toUInt32 31)).toInt32).toInt
def b8 (a : Int) : Int := ((I a).toInt8.toInt32).toInt
def b16 (a : Int) : Int := ((I a).toInt16.toInt32).toInt
theorem I_of (x : Int32) : I x.toInt = x := Int32.ofInt_toInt _

theorem R_iconst {m pc : Nat} {ls st : List Value} {h : Hp} {P : Value → Hp → Prop} {n : Int} (hd : Dd m pc (.iconst n) 1) (k : R m (pc + 1) ls (.int (I n) :: st) h P) : R m pc ls (st) h P := R_go hd (fun _ _ => rfl) k
theorem R_bipush {m pc : Nat} {ls st : List Value} {h : Hp} {P : Value → Hp → Prop} {n a : Int} (hd : Dd m pc (.bipush n) 2) (hn : (Int8.ofInt n).toInt32 = I a) (k : R m (pc + 2) ls (.int (I a) :: st) h P) : R m pc ls (st) h P := by
  rw [← hn] at k
  exact R_go hd (fun _ _ => rfl) k
theorem R_sipush {m pc : Nat} {ls st : List Value} {h : Hp} {P : Value → Hp → Prop} {n a : Int} (hd : Dd m pc (.sipush n) 3) (hn : (Int16.ofInt n).toInt32 = I a) (k : R m (pc + 3) ls (.int (I a) :: st) h P) : R m pc ls (st) h P := by
  rw [← hn] at k
  exact R_go hd (fun _ _ => rfl) k
theorem R_lconst {m pc : Nat} {ls st : List Value} {h : Hp} {P : Value → Hp → Prop} {n : _root_.Fin 2} (hd : Dd m pc (.lconst n) 1) (k : R m (pc + 1) ls (.long (J (n : Nat)) :: st) h P) : R m pc ls (st) h P := R_go hd (fun _ _ => rfl) k
theorem R_null {m pc : Nat} {ls st : List Value} {h : Hp} {P : Value → Hp → Prop} (hd : Dd m pc (.aconst_null) 1) (k : R m (pc + 1) ls (.null :: st) h P) : R m pc ls (st) h P := R_go hd (fun _ _ => rfl) k
theorem R_ldc {m pc : Nat} {ls st : List Value} {h : Hp} {P : Value → Hp → Prop} {j : Nat} {a : Int} (hd : Dd m pc (.ldc j) 2) (hv : ldct (mO m) j = some (I a)) (k : R m (pc + 2) ls (.int (I a) :: st) h P) : R m pc ls (st) h P := R_go hd (fun _ _ => by simp only [stp, hv]) k
theorem R_ldc_w {m pc : Nat} {ls st : List Value} {h : Hp} {P : Value → Hp → Prop} {j : Nat} {a : Int} (hd : Dd m pc (.ldc_w j) 3) (hv : ldct (mO m) j = some (I a)) (k : R m (pc + 3) ls (.int (I a) :: st) h P) : R m pc ls (st) h P := R_go hd (fun _ _ => by simp only [stp, hv]) k
theorem R_ldc2_w {m pc : Nat} {ls st : List Value} {h : Hp} {P : Value → Hp → Prop} {j : Nat} {a : Int} (hd : Dd m pc (.ldc2_w j) 3) (hv : ld2t (mO m) j = some (J a)) (k : R m (pc + 3) ls (.long (J a) :: st) h P) : R m pc ls (st) h P := R_go hd (fun _ _ => by simp only [stp, hv]) k
theorem R_iload {m pc : Nat} {ls st : List Value} {h : Hp} {P : Value → Hp → Prop} {kk : Nat} {x : Int32} (hd : Dd m pc (.iload kk) 2) (hg : gt ls kk = .int x) (k : R m (pc + 2) ls (.int x :: st) h P) : R m pc ls (st) h P := R_go hd (fun _ _ => by simp only [stp, hg]; rfl) k
theorem R_lload {m pc : Nat} {ls st : List Value} {h : Hp} {P : Value → Hp → Prop} {kk : Nat} {x : Int64} (hd : Dd m pc (.lload kk) 2) (hg : gt ls kk = .long x) (k : R m (pc + 2) ls (.long x :: st) h P) : R m pc ls (st) h P := R_go hd (fun _ _ => by simp only [stp, hg]; rfl) k
theorem R_aload {m pc : Nat} {ls st : List Value} {h : Hp} {P : Value → Hp → Prop} {kk : Nat} {x : Value} (hd : Dd m pc (.aload kk) 2) (hg : gt ls kk = x) (hx : isR x = true) (k : R m (pc + 2) ls (x :: st) h P) : R m pc ls (st) h P := R_go hd (fun _ _ => by simp only [stp, hg, hx]; rfl) k
theorem R_iload_n {m pc : Nat} {ls st : List Value} {h : Hp} {P : Value → Hp → Prop} {kk : _root_.Fin 4} {x : Int32} (hd : Dd m pc (.iload_n kk) 1) (hg : gt ls (kk : Nat) = .int x) (k : R m (pc + 1) ls (.int x :: st) h P) : R m pc ls (st) h P := R_go hd (fun _ _ => by simp only [stp, hg]; rfl) k
theorem R_lload_n {m pc : Nat} {ls st : List Value} {h : Hp} {P : Value → Hp → Prop} {kk : _root_.Fin 4} {x : Int64} (hd : Dd m pc (.lload_n kk) 1) (hg : gt ls (kk : Nat) = .long x) (k : R m (pc + 1) ls (.long x :: st) h P) : R m pc ls (st) h P := R_go hd (fun _ _ => by simp only [stp, hg]; rfl) k
theorem R_aload_n {m pc : Nat} {ls st : List Value} {h : Hp} {P : Value → Hp → Prop} {kk : _root_.Fin 4} {x : Value} (hd : Dd m pc (.aload_n kk) 1) (hg : gt ls (kk : Nat) = x) (hx : isR x = true) (k : R m (pc + 1) ls (x :: st) h P) : R m pc ls (st) h P := R_go hd (fun _ _ => by simp only [stp, hg, hx]; rfl) k
theorem R_istore {m pc : Nat} {ls st : List Value} {h : Hp} {P : Value → Hp → Prop} {kk : Nat} {x : Int32} {ls1 : List Value} (hd : Dd m pc (.istore kk) 2) (hg : okst m ls kk = true) (hl : ls.set kk (.int x) = ls1) (k : R m (pc + 2) ls1 (st) h P) : R m pc ls (.int x :: st) h P := by
  rw [← hl] at k
  exact R_go hd (fun _ _ => by simp only [stp, i1, hg]; rfl) k
theorem R_astore {m pc : Nat} {ls st : List Value} {h : Hp} {P : Value → Hp → Prop} {kk : Nat} {x : Value} {ls1 : List Value} (hd : Dd m pc (.astore kk) 2) (hg : okst m ls kk = true) (hx : isR x = true) (hl : ls.set kk x = ls1) (k : R m (pc + 2) ls1 (st) h P) : R m pc ls (x :: st) h P := by
  rw [← hl] at k
  exact R_go hd (fun _ _ => by simp only [stp, v1, hg, hx]; rfl) k
theorem R_lstore {m pc : Nat} {ls st : List Value} {h : Hp} {P : Value → Hp → Prop} {kk : Nat} {x : Int64} {ls1 : List Value} (hd : Dd m pc (.lstore kk) 2) (hg : (!nol m && okst m ls kk && decide (kk + 1 < ls.length)) = true) (hl : (ls.set kk (.long x)).set (kk + 1) (.retAddr 0) = ls1) (k : R m (pc + 2) ls1 (st) h P) : R m pc ls (.long x :: st) h P := by
  rw [← hl] at k
  exact R_go hd (fun _ _ => by simp only [stp, l1, hg]; rfl) k
theorem R_istore_n {m pc : Nat} {ls st : List Value} {h : Hp} {P : Value → Hp → Prop} {kk : _root_.Fin 4} {x : Int32} {ls1 : List Value} (hd : Dd m pc (.istore_n kk) 1) (hg : okst m ls (kk : Nat) = true) (hl : ls.set (kk : Nat) (.int x) = ls1) (k : R m (pc + 1) ls1 (st) h P) : R m pc ls (.int x :: st) h P := by
  rw [← hl] at k
  exact R_go hd (fun _ _ => by simp only [stp, i1, hg]; rfl) k
theorem R_astore_n {m pc : Nat} {ls st : List Value} {h : Hp} {P : Value → Hp → Prop} {kk : _root_.Fin 4} {x : Value} {ls1 : List Value} (hd : Dd m pc (.astore_n kk) 1) (hg : okst m ls (kk : Nat) = true) (hx : isR x = true) (hl : ls.set (kk : Nat) x = ls1) (k : R m (pc + 1) ls1 (st) h P) : R m pc ls (x :: st) h P := by
  rw [← hl] at k
  exact R_go hd (fun _ _ => by simp only [stp, v1, hg, hx]; rfl) k
theorem R_lstore_n {m pc : Nat} {ls st : List Value} {h : Hp} {P : Value → Hp → Prop} {kk : _root_.Fin 4} {x : Int64} {ls1 : List Value} (hd : Dd m pc (.lstore_n kk) 1) (hg : (!nol m && okst m ls (kk : Nat) && decide ((kk : Nat) + 1 < ls.length)) = true) (hl : (ls.set (kk : Nat) (.long x)).set ((kk : Nat) + 1) (.retAddr 0) = ls1) (k : R m (pc + 1) ls1 (st) h P) : R m pc ls (.long x :: st) h P := by
  rw [← hl] at k
  exact R_go hd (fun _ _ => by simp only [stp, l1, hg]; rfl) k
theorem R_iinc {m pc : Nat} {ls st : List Value} {h : Hp} {P : Value → Hp → Prop} {j : Nat} {c : Int} {x : Int} {ls1 : List Value} (hd : Dd m pc (.iinc j c) 3) (hx : gt ls j = .int (I x)) (hg : okst m ls j = true) (hl : ls.set j (.int (I (x + c))) = ls1) (k : R m (pc + 3) ls1 (st) h P) : R m pc ls (st) h P := by
  rw [← hl, ← I_add] at k
  exact R_go hd (fun _ _ => by simp only [stp, hx, hg]; rfl) k
theorem R_iadd {m pc : Nat} {ls st : List Value} {h : Hp} {P : Value → Hp → Prop} {a b : Int} (hd : Dd m pc (.iadd) 1) (k : R m (pc + 1) ls (.int (I (a + b)) :: st) h P) : R m pc ls (.int (I b) :: .int (I a) :: st) h P := by
  rw [← I_add] at k
  exact R_go hd (fun _ _ => rfl) k
theorem R_isub {m pc : Nat} {ls st : List Value} {h : Hp} {P : Value → Hp → Prop} {a b : Int} (hd : Dd m pc (.isub) 1) (k : R m (pc + 1) ls (.int (I (a - b)) :: st) h P) : R m pc ls (.int (I b) :: .int (I a) :: st) h P := by
  rw [← I_sub] at k
  exact R_go hd (fun _ _ => rfl) k
theorem R_imul {m pc : Nat} {ls st : List Value} {h : Hp} {P : Value → Hp → Prop} {a b : Int} (hd : Dd m pc (.imul) 1) (k : R m (pc + 1) ls (.int (I (a * b)) :: st) h P) : R m pc ls (.int (I b) :: .int (I a) :: st) h P := by
  rw [← I_mul] at k
  exact R_go hd (fun _ _ => rfl) k
theorem R_idiv {m pc : Nat} {ls st : List Value} {h : Hp} {P : Value → Hp → Prop} {a b : Int} (hd : Dd m pc (.idiv) 1) (ha : 0 ≤ a ∧ a < 2147483648) (hb : 0 < b ∧ b < 2147483648) (k : R m (pc + 1) ls (.int (I (a / b)) :: st) h P) : R m pc ls (.int (I b) :: .int (I a) :: st) h P := by
  rw [← I_div ha hb] at k
  have hne : (I b != 0) = true := by
    rw [bne_iff_ne]
    exact fun q => by
      have := (I_inj ⟨by omega, hb.2⟩ (b := 0) ⟨by decide, by decide⟩).mp q
      omega
  exact R_go hd (fun _ _ => by simp only [stp, i2, hne]; rfl) k
theorem R_irem {m pc : Nat} {ls st : List Value} {h : Hp} {P : Value → Hp → Prop} {a b : Int} (hd : Dd m pc (.irem) 1) (ha : 0 ≤ a ∧ a < 2147483648) (hb : 0 < b ∧ b < 2147483648) (k : R m (pc + 1) ls (.int (I (a % b)) :: st) h P) : R m pc ls (.int (I b) :: .int (I a) :: st) h P := by
  rw [← I_mod ha hb] at k
  have hne : (I b != 0) = true := by
    rw [bne_iff_ne]
    exact fun q => by
      have := (I_inj ⟨by omega, hb.2⟩ (b := 0) ⟨by decide, by decide⟩).mp q
      omega
  exact R_go hd (fun _ _ => by simp only [stp, i2, hne]; rfl) k
theorem R_iand {m pc : Nat} {ls st : List Value} {h : Hp} {P : Value → Hp → Prop} {a b : Int} (hd : Dd m pc (.iand) 1) (k : R m (pc + 1) ls (.int (I (band a b)) :: st) h P) : R m pc ls (.int (I b) :: .int (I a) :: st) h P := by
  have e : I (band a b) = I a &&& I b := I_of _
  rw [e] at k
  exact R_go hd (fun _ _ => rfl) k
theorem R_ior {m pc : Nat} {ls st : List Value} {h : Hp} {P : Value → Hp → Prop} {a b : Int} (hd : Dd m pc (.ior) 1) (k : R m (pc + 1) ls (.int (I (bor a b)) :: st) h P) : R m pc ls (.int (I b) :: .int (I a) :: st) h P := by
  have e : I (bor a b) = I a ||| I b := I_of _
  rw [e] at k
  exact R_go hd (fun _ _ => rfl) k
theorem R_ixor {m pc : Nat} {ls st : List Value} {h : Hp} {P : Value → Hp → Prop} {a b : Int} (hd : Dd m pc (.ixor) 1) (k : R m (pc + 1) ls (.int (I (bxor a b)) :: st) h P) : R m pc ls (.int (I b) :: .int (I a) :: st) h P := by
  have e : I (bxor a b) = I a ^^^ I b := I_of _
  rw [e] at k
  exact R_go hd (fun _ _ => rfl) k
theorem R_ishl {m pc : Nat} {ls st : List Value} {h : Hp} {P : Value → Hp → Prop} {a b : Int} (hd : Dd m pc (.ishl) 1) (k : R m (pc + 1) ls (.int (I (shl a b)) :: st) h P) : R m pc ls (.int (I b) :: .int (I a) :: st) h P := by
  unfold shl at k
  rw [I_of] at k
  exact R_go hd (fun _ _ => rfl) k
theorem R_ishr {m pc : Nat} {ls st : List Value} {h : Hp} {P : Value → Hp → Prop} {a b : Int} (hd : Dd m pc (.ishr) 1) (k : R m (pc + 1) ls (.int (I (shr a b)) :: st) h P) : R m pc ls (.int (I b) :: .int (I a) :: st) h P := by
  unfold shr at k
  rw [I_of] at k
  exact R_go hd (fun _ _ => rfl) k
theorem R_iushr {m pc : Nat} {ls st : List Value} {h : Hp} {P : Value → Hp → Prop} {a b : Int} (hd : Dd m pc (.iushr) 1) (k : R m (pc + 1) ls (.int (I (ushr a b)) :: st) h P) : R m pc ls (.int (I b) :: .int (I a) :: st) h P := by
  unfold ushr at k
  rw [I_of] at k
  exact R_go hd (fun _ _ => rfl) k
theorem R_ineg {m pc : Nat} {ls st : List Value} {h : Hp} {P : Value → Hp → Prop} {a : Int} (hd : Dd m pc (.ineg) 1) (k : R m (pc + 1) ls (.int (I (-a)) :: st) h P) : R m pc ls (.int (I a) :: st) h P := by
  rw [← I_neg] at k
  exact R_go hd (fun _ _ => rfl) k
theorem R_i2b {m pc : Nat} {ls st : List Value} {h : Hp} {P : Value → Hp → Prop} {a : Int} (hd : Dd m pc (.i2b) 1) (k : R m (pc + 1) ls (.int (I (b8 a)) :: st) h P) : R m pc ls (.int (I a) :: st) h P := by
  unfold b8 at k
  rw [I_of] at k
  exact R_go hd (fun _ _ => rfl) k
theorem R_i2s {m pc : Nat} {ls st : List Value} {h : Hp} {P : Value → Hp → Prop} {a : Int} (hd : Dd m pc (.i2s) 1) (k : R m (pc + 1) ls (.int (I (b16 a)) :: st) h P) : R m pc ls (.int (I a) :: st) h P := by
  unfold b16 at k
  rw [I_of] at k
  exact R_go hd (fun _ _ => rfl) k
theorem J_toInt {z : Int} (h : -9223372036854775808 ≤ z ∧ z < 9223372036854775808) : (J z).toInt = z := Int64.toInt_ofInt_of_le h.1 h.2
theorem I_long {a : Int} (h : rng a) : (I a).toInt64 = J a := by
  apply Int64.toInt_inj.mp
  rw [Int32.toInt_toInt64, I_toInt h, J_toInt ⟨by omega, by omega⟩]
theorem R_i2l {m pc : Nat} {ls st : List Value} {h : Hp} {P : Value → Hp → Prop} {a : Int} (hd : Dd m pc (.i2l) 1) (ha : rng a) (k : R m (pc + 1) ls (.long (J a) :: st) h P) : R m pc ls (.int (I a) :: st) h P := by
  rw [← I_long ha] at k
  exact R_go hd (fun _ _ => rfl) k
theorem J_div {a b : Int} (ha : 0 ≤ a ∧ a < 2147483648) (hb : 0 < b ∧ b < 2147483648) : J a / J b = J (a / b) := by
  apply Int64.toInt_inj.mp
  have h1 : 0 ≤ a / b := Int.ediv_nonneg ha.1 (by omega)
  have h2 : a / b ≤ a := Int.ediv_le_self _ ha.1
  rw [Int64.toInt_div, J_toInt ⟨by omega, by omega⟩, J_toInt ⟨by omega, by omega⟩, J_toInt ⟨by omega, by omega⟩, Int.tdiv_eq_ediv_of_nonneg ha.1]
  exact Int.bmod_eq_of_le (by omega) (by omega)
theorem J_mod {a b : Int} (ha : 0 ≤ a ∧ a < 2147483648) (hb : 0 < b ∧ b < 2147483648) : J a % J b = J (a % b) := by
  apply Int64.toInt_inj.mp
  have h1 : 0 ≤ a % b := Int.emod_nonneg _ (by omega)
  have h2 : a % b < b := Int.emod_lt_of_pos _ hb.1
  rw [Int64.toInt_mod, J_toInt ⟨by omega, by omega⟩, J_toInt ⟨by omega, by omega⟩, J_toInt ⟨by omega, by omega⟩, Int.tmod_eq_emod_of_nonneg ha.1]
abbrev lrg (z : Int) : Prop := -9223372036854775808 ≤ z ∧ z < 9223372036854775808
theorem J_inj {a b : Int} (ha : lrg a) (hb : lrg b) : J a = J b ↔ a = b := by
  constructor
  · intro h
    have := congrArg Int64.toInt h
    rwa [J_toInt ha, J_toInt hb] at this
  · intro h; rw [h]
theorem J_lt {a b : Int} (ha : lrg a) (hb : lrg b) : J a < J b ↔ a < b := by
  rw [Int64.lt_iff_toInt_lt, J_toInt ha, J_toInt hb]
def lcp (a b : Int) : Int := (lg_cmp (J a) (J b)).toInt
theorem R_ldiv {m pc : Nat} {ls st : List Value} {h : Hp} {P : Value → Hp → Prop} {a b : Int} (hd : Dd m pc (.ldiv) 1) (ha : 0 ≤ a ∧ a < 2147483648) (hb : 0 < b ∧ b < 2147483648) (k : R m (pc + 1) ls (.long (J (a / b)) :: st) h P) : R m pc ls (.long (J b) :: .long (J a) :: st) h P := by
  rw [← J_div ha hb] at k
  have hne : (J b != 0) = true := by
    rw [bne_iff_ne]
    exact fun q => by
      have := (J_inj ⟨by omega, by omega⟩ (b := 0) ⟨by decide, by decide⟩).mp q
      omega
  exact R_go hd (fun _ _ => by simp only [stp, l2, hne]; rfl) k
theorem R_lrem {m pc : Nat} {ls st : List Value} {h : Hp} {P : Value → Hp → Prop} {a b : Int} (hd : Dd m pc (.lrem) 1) (ha : 0 ≤ a ∧ a < 2147483648) (hb : 0 < b ∧ b < 2147483648) (k : R m (pc + 1) ls (.long (J (a % b)) :: st) h P) : R m pc ls (.long (J b) :: .long (J a) :: st) h P := by
  rw [← J_mod ha hb] at k
  have hne : (J b != 0) = true := by
    rw [bne_iff_ne]
    exact fun q => by
      have := (J_inj ⟨by omega, by omega⟩ (b := 0) ⟨by decide, by decide⟩).mp q
      omega
  exact R_go hd (fun _ _ => by simp only [stp, l2, hne]; rfl) k
theorem R_lcmp {m pc : Nat} {ls st : List Value} {h : Hp} {P : Value → Hp → Prop} {a b : Int} (hd : Dd m pc (.lcmp) 1) (k : R m (pc + 1) ls (.int (I (lcp a b)) :: st) h P) : R m pc ls (.long (J b) :: .long (J a) :: st) h P := by
  unfold lcp at k
  rw [I_of] at k
  exact R_go hd (fun _ _ => rfl) k
theorem R_pop {m pc : Nat} {ls st : List Value} {h : Hp} {P : Value → Hp → Prop} {v : Value} (hd : Dd m pc (.pop) 1) (hv : (!isL v && (isI v || isR v)) = true) (k : R m (pc + 1) ls (st) h P) : R m pc ls (v :: st) h P := R_go hd (fun _ _ => by simp only [stp, v1, hv]; rfl) k
theorem R_dup {m pc : Nat} {ls st : List Value} {h : Hp} {P : Value → Hp → Prop} {v : Value} (hd : Dd m pc (.dup) 1) (hv : (!isL v && (isI v || isR v)) = true) (k : R m (pc + 1) ls (v :: v :: st) h P) : R m pc ls (v :: st) h P := R_go hd (fun _ _ => by simp only [stp, v1, hv]; rfl) k
theorem R_dup2 {m pc : Nat} {ls st : List Value} {h : Hp} {P : Value → Hp → Prop} {v w : Value} (hd : Dd m pc (.dup2) 1) (hv : (!isL v && (isI v || isR v) && (!isL w && (isI w || isR w))) = true) (k : R m (pc + 1) ls (v :: w :: v :: w :: st) h P) : R m pc ls (v :: w :: st) h P := R_go hd (fun _ _ => by simp only [stp, v1, hv]; rfl) k
theorem jmp_go {pc t : Nat} {off : Int} {go : Nat → Rs} (h : (pc : Int) + off = (t : Int)) : jmp pc off go = go t := by
  unfold jmp
  have e : ((pc : Int) + off).toNat = t := by omega
  have e2 : decide (0 ≤ (pc : Int) + off) = true := decide_eq_true (by omega)
  rw [e, e2]
  rfl
theorem R_goto {m pc : Nat} {ls st : List Value} {h : Hp} {P : Value → Hp → Prop} {t : Nat} {off : Int} (hd : Dd m pc (.goto off) 3) (ht : (pc : Int) + off = (t : Int)) (k : R m t ls st h P) : R m pc ls st h P := R_go hd (fun _ _ => by simp only [stp]; exact jmp_go ht) k
theorem R_ic_eq {m pc : Nat} {ls st : List Value} {h : Hp} {P : Value → Hp → Prop} {a b off : Int} {t : Nat} (hd : Dd m pc (.if_icmp .eq off) 3) (ht : (pc : Int) + off = (t : Int)) (ha : rng a) (hb : rng b) (k1 : a = b → R m t ls st h P) (k2 : ¬ a = b → R m (pc + 3) ls st h P) : R m pc ls (.int (I b) :: .int (I a) :: st) h P := by
  have e1 : ((pc : Int) + off).toNat = t := by omega
  have e2 : decide (0 ≤ (pc : Int) + off) = true := decide_eq_true (by omega)
  by_cases q : a = b
  · exact R_go hd (fun go call => by
      have q2 := (I_inj ha hb).mpr q
      simp only [stp, i2, e2, e1, gd, brn]
      exact (if_pos trivial).trans (if_pos q2)) (k1 q)
  · exact R_go hd (fun go call => by
      have q2 := fun z => q ((I_inj ha hb).mp z)
      simp only [stp, i2, e2, e1, gd, brn]
      exact (if_pos trivial).trans (if_neg q2)) (k2 q)
theorem R_if_eq {m pc : Nat} {ls st : List Value} {h : Hp} {P : Value → Hp → Prop} {a off : Int} {t : Nat} (hd : Dd m pc (.ifCond .eq off) 3) (ht : (pc : Int) + off = (t : Int)) (ha : rng a) (k1 : a = 0 → R m t ls st h P) (k2 : ¬ a = 0 → R m (pc + 3) ls st h P) : R m pc ls (.int (I a) :: st) h P := by
  have e1 : ((pc : Int) + off).toNat = t := by omega
  have e2 : decide (0 ≤ (pc : Int) + off) = true := decide_eq_true (by omega)
  have b0 : rng 0 := ⟨by decide, by decide⟩
  by_cases q : a = 0
  · exact R_go hd (fun go call => by
      have q2 := (I_inj ha (b0)).mpr q
      simp only [stp, i1, e2, e1, gd, brn]
      exact (if_pos trivial).trans (if_pos q2)) (k1 q)
  · exact R_go hd (fun go call => by
      have q2 := fun z => q ((I_inj ha (b0)).mp z)
      simp only [stp, i1, e2, e1, gd, brn]
      exact (if_pos trivial).trans (if_neg q2)) (k2 q)
theorem R_ic_ne {m pc : Nat} {ls st : List Value} {h : Hp} {P : Value → Hp → Prop} {a b off : Int} {t : Nat} (hd : Dd m pc (.if_icmp .ne off) 3) (ht : (pc : Int) + off = (t : Int)) (ha : rng a) (hb : rng b) (k1 : a = b → R m (pc + 3) ls st h P) (k2 : ¬ a = b → R m t ls st h P) : R m pc ls (.int (I b) :: .int (I a) :: st) h P := by
  have e1 : ((pc : Int) + off).toNat = t := by omega
  have e2 : decide (0 ≤ (pc : Int) + off) = true := decide_eq_true (by omega)
  by_cases q : a = b
  · exact R_go hd (fun go call => by
      have q2 := (I_inj ha hb).mpr q
      simp only [stp, i2, e2, e1, gd, brn]
      exact (if_pos trivial).trans (if_pos q2)) (k1 q)
  · exact R_go hd (fun go call => by
      have q2 := fun z => q ((I_inj ha hb).mp z)
      simp only [stp, i2, e2, e1, gd, brn]
      exact (if_pos trivial).trans (if_neg q2)) (k2 q)
theorem R_if_ne {m pc : Nat} {ls st : List Value} {h : Hp} {P : Value → Hp → Prop} {a off : Int} {t : Nat} (hd : Dd m pc (.ifCond .ne off) 3) (ht : (pc : Int) + off = (t : Int)) (ha : rng a) (k1 : a = 0 → R m (pc + 3) ls st h P) (k2 : ¬ a = 0 → R m t ls st h P) : R m pc ls (.int (I a) :: st) h P := by
  have e1 : ((pc : Int) + off).toNat = t := by omega
  have e2 : decide (0 ≤ (pc : Int) + off) = true := decide_eq_true (by omega)
  have b0 : rng 0 := ⟨by decide, by decide⟩
  by_cases q : a = 0
  · exact R_go hd (fun go call => by
      have q2 := (I_inj ha (b0)).mpr q
      simp only [stp, i1, e2, e1, gd, brn]
      exact (if_pos trivial).trans (if_pos q2)) (k1 q)
  · exact R_go hd (fun go call => by
      have q2 := fun z => q ((I_inj ha (b0)).mp z)
      simp only [stp, i1, e2, e1, gd, brn]
      exact (if_pos trivial).trans (if_neg q2)) (k2 q)
theorem R_ic_lt {m pc : Nat} {ls st : List Value} {h : Hp} {P : Value → Hp → Prop} {a b off : Int} {t : Nat} (hd : Dd m pc (.if_icmp .lt off) 3) (ht : (pc : Int) + off = (t : Int)) (ha : rng a) (hb : rng b) (k1 : a < b → R m t ls st h P) (k2 : ¬ a < b → R m (pc + 3) ls st h P) : R m pc ls (.int (I b) :: .int (I a) :: st) h P := by
  have e1 : ((pc : Int) + off).toNat = t := by omega
  have e2 : decide (0 ≤ (pc : Int) + off) = true := decide_eq_true (by omega)
  by_cases q : a < b
  · exact R_go hd (fun go call => by
      have q2 := (I_lt ha hb).mpr q
      simp only [stp, i2, e2, e1, gd, brn]
      exact (if_pos trivial).trans (if_pos q2)) (k1 q)
  · exact R_go hd (fun go call => by
      have q2 := fun z => q ((I_lt ha hb).mp z)
      simp only [stp, i2, e2, e1, gd, brn]
      exact (if_pos trivial).trans (if_neg q2)) (k2 q)
theorem R_if_lt {m pc : Nat} {ls st : List Value} {h : Hp} {P : Value → Hp → Prop} {a off : Int} {t : Nat} (hd : Dd m pc (.ifCond .lt off) 3) (ht : (pc : Int) + off = (t : Int)) (ha : rng a) (k1 : a < 0 → R m t ls st h P) (k2 : ¬ a < 0 → R m (pc + 3) ls st h P) : R m pc ls (.int (I a) :: st) h P := by
  have e1 : ((pc : Int) + off).toNat = t := by omega
  have e2 : decide (0 ≤ (pc : Int) + off) = true := decide_eq_true (by omega)
  have b0 : rng 0 := ⟨by decide, by decide⟩
  by_cases q : a < 0
  · exact R_go hd (fun go call => by
      have q2 := (I_lt ha (b0)).mpr q
      simp only [stp, i1, e2, e1, gd, brn]
      exact (if_pos trivial).trans (if_pos q2)) (k1 q)
  · exact R_go hd (fun go call => by
      have q2 := fun z => q ((I_lt ha (b0)).mp z)
      simp only [stp, i1, e2, e1, gd, brn]
      exact (if_pos trivial).trans (if_neg q2)) (k2 q)
theorem R_ic_ge {m pc : Nat} {ls st : List Value} {h : Hp} {P : Value → Hp → Prop} {a b off : Int} {t : Nat} (hd : Dd m pc (.if_icmp .ge off) 3) (ht : (pc : Int) + off = (t : Int)) (ha : rng a) (hb : rng b) (k1 : a < b → R m (pc + 3) ls st h P) (k2 : ¬ a < b → R m t ls st h P) : R m pc ls (.int (I b) :: .int (I a) :: st) h P := by
  have e1 : ((pc : Int) + off).toNat = t := by omega
  have e2 : decide (0 ≤ (pc : Int) + off) = true := decide_eq_true (by omega)
  by_cases q : a < b
  · exact R_go hd (fun go call => by
      have q2 := (I_lt ha hb).mpr q
      simp only [stp, i2, e2, e1, gd, brn]
      exact (if_pos trivial).trans (if_pos q2)) (k1 q)
  · exact R_go hd (fun go call => by
      have q2 := fun z => q ((I_lt ha hb).mp z)
      simp only [stp, i2, e2, e1, gd, brn]
      exact (if_pos trivial).trans (if_neg q2)) (k2 q)
theorem R_if_ge {m pc : Nat} {ls st : List Value} {h : Hp} {P : Value → Hp → Prop} {a off : Int} {t : Nat} (hd : Dd m pc (.ifCond .ge off) 3) (ht : (pc : Int) + off = (t : Int)) (ha : rng a) (k1 : a < 0 → R m (pc + 3) ls st h P) (k2 : ¬ a < 0 → R m t ls st h P) : R m pc ls (.int (I a) :: st) h P := by
  have e1 : ((pc : Int) + off).toNat = t := by omega
  have e2 : decide (0 ≤ (pc : Int) + off) = true := decide_eq_true (by omega)
  have b0 : rng 0 := ⟨by decide, by decide⟩
  by_cases q : a < 0
  · exact R_go hd (fun go call => by
      have q2 := (I_lt ha (b0)).mpr q
      simp only [stp, i1, e2, e1, gd, brn]
      exact (if_pos trivial).trans (if_pos q2)) (k1 q)
  · exact R_go hd (fun go call => by
      have q2 := fun z => q ((I_lt ha (b0)).mp z)
      simp only [stp, i1, e2, e1, gd, brn]
      exact (if_pos trivial).trans (if_neg q2)) (k2 q)
theorem R_ic_gt {m pc : Nat} {ls st : List Value} {h : Hp} {P : Value → Hp → Prop} {a b off : Int} {t : Nat} (hd : Dd m pc (.if_icmp .gt off) 3) (ht : (pc : Int) + off = (t : Int)) (ha : rng a) (hb : rng b) (k1 : b < a → R m t ls st h P) (k2 : ¬ b < a → R m (pc + 3) ls st h P) : R m pc ls (.int (I b) :: .int (I a) :: st) h P := by
  have e1 : ((pc : Int) + off).toNat = t := by omega
  have e2 : decide (0 ≤ (pc : Int) + off) = true := decide_eq_true (by omega)
  by_cases q : b < a
  · exact R_go hd (fun go call => by
      have q2 := (I_lt hb ha).mpr q
      simp only [stp, i2, e2, e1, gd, brn]
      exact (if_pos trivial).trans (if_pos q2)) (k1 q)
  · exact R_go hd (fun go call => by
      have q2 := fun z => q ((I_lt hb ha).mp z)
      simp only [stp, i2, e2, e1, gd, brn]
      exact (if_pos trivial).trans (if_neg q2)) (k2 q)
theorem R_if_gt {m pc : Nat} {ls st : List Value} {h : Hp} {P : Value → Hp → Prop} {a off : Int} {t : Nat} (hd : Dd m pc (.ifCond .gt off) 3) (ht : (pc : Int) + off = (t : Int)) (ha : rng a) (k1 : 0 < a → R m t ls st h P) (k2 : ¬ 0 < a → R m (pc + 3) ls st h P) : R m pc ls (.int (I a) :: st) h P := by
  have e1 : ((pc : Int) + off).toNat = t := by omega
  have e2 : decide (0 ≤ (pc : Int) + off) = true := decide_eq_true (by omega)
  have b0 : rng 0 := ⟨by decide, by decide⟩
  by_cases q : 0 < a
  · exact R_go hd (fun go call => by
      have q2 := (I_lt (b0) ha).mpr q
      simp only [stp, i1, e2, e1, gd, brn]
      exact (if_pos trivial).trans (if_pos q2)) (k1 q)
  · exact R_go hd (fun go call => by
      have q2 := fun z => q ((I_lt (b0) ha).mp z)
      simp only [stp, i1, e2, e1, gd, brn]
      exact (if_pos trivial).trans (if_neg q2)) (k2 q)
theorem R_ic_le {m pc : Nat} {ls st : List Value} {h : Hp} {P : Value → Hp → Prop} {a b off : Int} {t : Nat} (hd : Dd m pc (.if_icmp .le off) 3) (ht : (pc : Int) + off = (t : Int)) (ha : rng a) (hb : rng b) (k1 : b < a → R m (pc + 3) ls st h P) (k2 : ¬ b < a → R m t ls st h P) : R m pc ls (.int (I b) :: .int (I a) :: st) h P := by
  have e1 : ((pc : Int) + off).toNat = t := by omega
  have e2 : decide (0 ≤ (pc : Int) + off) = true := decide_eq_true (by omega)
  by_cases q : b < a
  · exact R_go hd (fun go call => by
      have q2 := (I_lt hb ha).mpr q
      simp only [stp, i2, e2, e1, gd, brn]
      exact (if_pos trivial).trans (if_pos q2)) (k1 q)
  · exact R_go hd (fun go call => by
      have q2 := fun z => q ((I_lt hb ha).mp z)
      simp only [stp, i2, e2, e1, gd, brn]
      exact (if_pos trivial).trans (if_neg q2)) (k2 q)
theorem R_if_le {m pc : Nat} {ls st : List Value} {h : Hp} {P : Value → Hp → Prop} {a off : Int} {t : Nat} (hd : Dd m pc (.ifCond .le off) 3) (ht : (pc : Int) + off = (t : Int)) (ha : rng a) (k1 : 0 < a → R m (pc + 3) ls st h P) (k2 : ¬ 0 < a → R m t ls st h P) : R m pc ls (.int (I a) :: st) h P := by
  have e1 : ((pc : Int) + off).toNat = t := by omega
  have e2 : decide (0 ≤ (pc : Int) + off) = true := decide_eq_true (by omega)
  have b0 : rng 0 := ⟨by decide, by decide⟩
  by_cases q : 0 < a
  · exact R_go hd (fun go call => by
      have q2 := (I_lt (b0) ha).mpr q
      simp only [stp, i1, e2, e1, gd, brn]
      exact (if_pos trivial).trans (if_pos q2)) (k1 q)
  · exact R_go hd (fun go call => by
      have q2 := fun z => q ((I_lt (b0) ha).mp z)
      simp only [stp, i1, e2, e1, gd, brn]
      exact (if_pos trivial).trans (if_neg q2)) (k2 q)
theorem R_ifnull0 {m pc : Nat} {ls st : List Value} {h : Hp} {P : Value → Hp → Prop} {t : Nat} {off : Int} (hd : Dd m pc (.ifnull off) 3) (ht : (pc : Int) + off = (t : Int)) (k : R m t ls st h P) : R m pc ls (.null :: st) h P := R_go hd (fun _ _ => by simp only [stp]; exact jmp_go ht) k
theorem R_ifnull1 {m pc : Nat} {ls st : List Value} {h : Hp} {P : Value → Hp → Prop} {r : Nat} {off : Int} (hd : Dd m pc (.ifnull off) 3) (k : R m (pc + 3) ls st h P) : R m pc ls (.ref r :: st) h P := R_go hd (fun _ _ => rfl) k
theorem R_ifnn0 {m pc : Nat} {ls st : List Value} {h : Hp} {P : Value → Hp → Prop} {off : Int} (hd : Dd m pc (.ifnonnull off) 3) (k : R m (pc + 3) ls st h P) : R m pc ls (.null :: st) h P := R_go hd (fun _ _ => rfl) k
theorem R_ifnn1 {m pc : Nat} {ls st : List Value} {h : Hp} {P : Value → Hp → Prop} {r t : Nat} {off : Int} (hd : Dd m pc (.ifnonnull off) 3) (ht : (pc : Int) + off = (t : Int)) (k : R m t ls st h P) : R m pc ls (.ref r :: st) h P := R_go hd (fun _ _ => by simp only [stp]; exact jmp_go ht) k
theorem R_tsw {m pc : Nat} {ls st : List Value} {h : Hp} {P : Value → Hp → Prop} {d lo hi : Int} {offs : Array Int} {len : Nat} {a : Int} {td : Nat} {ts : List Nat} (hd : Dd m pc (.tableswitch d lo hi offs) len) (ha : rng a) (hn : offs.size = ts.length) (hlo : hi = lo + (ts.length : Int) - 1) (hts : ((List.range ts.length).all (fun i => decide ((pc : Int) + offs[i]! = (ts[i]! : Nat)))) = true) (htd : (pc : Int) + d = (td : Int))
    (k : ∀ i : Nat, i < ts.length → a = lo + (i : Int) → R m ts[i]! ls st h P) (kd : a < lo ∨ hi < a → R m td ls st h P) : R m pc ls (.int (I a) :: st) h P := by
  by_cases q : a < lo ∨ hi < a
  · exact R_go hd (fun go call => by
      simp only [stp, i1, I_toInt ha, if_pos q]
      exact jmp_go htd) (kd q)
  · have hi2 : (a - lo).toNat < ts.length := by omega
    have h3 := range_all hts hi2
    rw [decide_eq_true_eq, getElem!_pos offs _ (by omega)] at h3
    refine R_go hd (fun go call => ?_) (k (a - lo).toNat hi2 (by omega))
    simp only [stp, i1, I_toInt ha, if_neg q]
    rw [Array.getElem?_eq_getElem (by omega)]
    exact jmp_go h3
theorem R_geti {m pc : Nat} {ls st : List Value} {h : Hp} {P : Value → Hp → Prop} {j ci kk r : Nat} (hd : Dd m pc (.getfield j) 3) (hf : fld (mO m) j = some (ci, kk)) (hr : rfs ci kk = false) (ht : tagok ci (tg h r) = true) (k : R m (pc + 3) ls (.int (I (iv h r (kk : Nat))) :: st) h P) : R m pc ls (.ref r :: st) h P := by
  refine R_go hd (fun go call => ?_) k
  simp only [stp, hf, r1, ht, gd, hr]
  rfl
theorem R_getr {m pc : Nat} {ls st : List Value} {h : Hp} {P : Value → Hp → Prop} {j ci kk r q : Nat} (hd : Dd m pc (.getfield j) 3) (hf : fld (mO m) j = some (ci, kk)) (hr : rfs ci kk = true) (ht : tagok ci (tg h r) = true) (hl : fl h r kk = true) (hq : child r kk = q) (hz : tg h q ≠ 0) (k : R m (pc + 3) ls (.ref q :: st) h P) : R m pc ls (.ref r :: st) h P := by
  subst hq
  refine R_go hd (fun go call => ?_) k
  have e : (fl h r kk && tg h (child r kk) != 0) = true := by rw [hl]; exact bne_iff_ne.mpr hz
  simp only [stp, hf, r1, ht, hr, e]
  rfl
theorem R_puti {m pc : Nat} {ls st : List Value} {h : Hp} {P : Value → Hp → Prop} {j ci kk r : Nat} {a v : Int} (hd : Dd m pc (.putfield j) 3) (hf : fld (mO m) j = some (ci, kk)) (hp : pok m ci kk = true) (hr : rfs ci kk = false) (ht : tagok ci (tg h r) = true) (hb : (cTy ci kk == .int || bz (I a)) = true) (hv : wr a = v) (k : R m (pc + 3) ls (st) (setI h r (kk : Nat) v) P) : R m pc ls (.int (I a) :: .ref r :: st) h P := by
  subst hv
  refine R_go hd (fun go call => ?_) k
  simp only [stp, hf, hp, gd, ht, hr, hb]
  rfl
theorem R_putr {m pc : Nat} {ls st : List Value} {h : Hp} {P : Value → Hp → Prop} {j ci kk r q : Nat} (hd : Dd m pc (.putfield j) 3) (hf : fld (mO m) j = some (ci, kk)) (hp : pok m ci kk = true) (hr : rfs ci kk = true) (ht : tagok ci (tg h r) = true) (hq : child r kk = q) (k : R m (pc + 3) ls (st) (setF h r kk) P) : R m pc ls (.ref q :: .ref r :: st) h P := by
  subst hq
  refine R_go hd (fun go call => ?_) k
  simp only [stp, hf, hp, gd, ht, hr]
  rfl
theorem R_putm {m pc : Nat} {ls st : List Value} {h : Hp} {P : Value → Hp → Prop} {j ci kk r q : Nat} (hd : Dd m pc (.putfield j) 3) (hf : fld (mO m) j = some (ci, kk)) (hp : pok m ci kk = true) (hr : rfs ci kk = true) (ht : tagok ci (tg h r) = true) (hq : child r kk = q) (hne : q ≠ 38) (hg : (mv m && gw q && !gw r && decide (q < 37 ∨ 38 < q) && tg h 38 == 20 && ng ls && ng st) = true) (k : R m (pc + 3) ls (st) (mov h r kk q 38) P) : R m pc ls (.ref 38 :: .ref r :: st) h P := by
  subst hq
  refine R_go hd (fun go call => ?_) k
  simp only [Bool.and_eq_true] at hg
  obtain ⟨⟨⟨⟨⟨⟨g1, g2⟩, g3⟩, g4⟩, g5⟩, g6⟩, g7⟩ := hg
  simp only [stp, hf, hp, gd, ht, hr, g1, g2, g3, g4, g5, g6, g7, if_neg (Ne.symm hne)]
  rfl
theorem R_getst {m pc : Nat} {ls st : List Value} {h : Hp} {P : Value → Hp → Prop} {j r : Nat} (hd : Dd m pc (.getstatic j) 3) (hf : stf (mO m) j = some r) (ht : tg h r = 30) (k : R m (pc + 3) ls (.ref r :: st) h P) : R m pc ls (st) h P := by
  refine R_go hd (fun go call => ?_) k
  simp only [stp, hf, ht]
  rfl
theorem inr_I {i : Int} {n : Nat} (h1 : 0 ≤ i) (h2 : i < n) (h3 : (n : Int) ≤ 2147483648) : inr (I i) n = true ∧ (I i).toInt = i := by
  have e : (I i).toInt = i := I_toInt ⟨by omega, by omega⟩
  refine ⟨?_, e⟩
  unfold inr
  rw [e, decide_eq_true h1, decide_eq_true h2]
  rfl
theorem R_iaload {m pc : Nat} {ls st : List Value} {h : Hp} {P : Value → Hp → Prop} {r : Nat} {i : Int} (hd : Dd m pc (.iaload) 1) (ht : tg h r = 20 ∨ tg h r = 30) (hn : (ln h r : Int) ≤ 2147483648) (h1 : 0 ≤ i) (h2 : i < ln h r) (k : R m (pc + 1) ls (.int (I (iv h r i)) :: st) h P) : R m pc ls (.int (I i) :: .ref r :: st) h P := by
  obtain ⟨e1, e2⟩ := inr_I h1 h2 hn
  have e3 : ((tg h r == 20 || tg h r == 30) && inr (I i) (ln h r)) = true := by rw [e1]; rcases ht with q | q <;> rw [q] <;> rfl
  rw [← e2] at k
  refine R_go hd (fun go call => ?_) k
  simp only [stp, ri, e3]
  rw [e2]
  rfl
theorem R_iastore {m pc : Nat} {ls st : List Value} {h : Hp} {P : Value → Hp → Prop} {r : Nat} {i a v : Int} (hd : Dd m pc (.iastore) 1) (ht : tg h r = 20) (hn : (ln h r : Int) ≤ 2147483648) (h1 : 0 ≤ i) (h2 : i < ln h r) (hv : wr a = v) (k : R m (pc + 1) ls (st) (setI h r i v) P) : R m pc ls (.int (I a) :: .int (I i) :: .ref r :: st) h P := by
  obtain ⟨e1, e2⟩ := inr_I h1 h2 hn
  subst hv
  have e3 : (tg h r == 20 && inr (I i) (ln h r)) = true := by rw [e1, ht]; rfl
  refine R_go hd (fun go call => ?_) k
  simp only [stp, rii, e3, e2]
  rfl
theorem R_aaload {m pc : Nat} {ls st : List Value} {h : Hp} {P : Value → Hp → Prop} {r q : Nat} {i : Int} (hd : Dd m pc (.aaload) 1) (ht : 21 ≤ tg h r ∧ tg h r ≤ 25) (hn : (ln h r : Int) ≤ 2147483648) (h1 : 0 ≤ i) (h2 : i < ln h r) (hl : fl h r i.toNat = true) (hq : child r i.toNat = q) (hz : tg h q ≠ 0) (k : R m (pc + 1) ls (.ref q :: st) h P) : R m pc ls (.int (I i) :: .ref r :: st) h P := by
  obtain ⟨e1, e2⟩ := inr_I h1 h2 hn
  subst hq
  refine R_go hd (fun go call => ?_) k
  have e3 : (decide (21 ≤ tg h r) && decide (tg h r ≤ 25) && inr (I i) (ln h r) && fl h r (I i).toInt.toNat && tg h (child r (I i).toInt.toNat) != 0) = true := by
    rw [e1, e2, hl, decide_eq_true ht.1, decide_eq_true ht.2]
    exact bne_iff_ne.mpr hz
  simp only [stp, ri, e3]
  rw [e2]
  rfl
theorem R_aastore {m pc : Nat} {ls st : List Value} {h : Hp} {P : Value → Hp → Prop} {r q : Nat} {i : Int} (hd : Dd m pc (.aastore) 1) (he : elok (tg h r) (tg h q) = true) (hn : (ln h r : Int) ≤ 2147483648) (h1 : 0 ≤ i) (h2 : i < ln h r) (hq : child r i.toNat = q) (k : R m (pc + 1) ls (st) (setF h r i.toNat) P) : R m pc ls (.ref q :: .int (I i) :: .ref r :: st) h P := by
  obtain ⟨e1, e2⟩ := inr_I h1 h2 hn
  refine R_go hd (fun go call => ?_) k
  simp only [stp, rir, he, e1, e2, gd]
  rw [if_pos hq.symm]
  rfl
theorem R_aastorem {m pc : Nat} {ls st : List Value} {h : Hp} {P : Value → Hp → Prop} {r q : Nat} {i : Int} (hd : Dd m pc (.aastore) 1) (he : elok (tg h r) (tg h 37) = true) (hn : (ln h r : Int) ≤ 2147483648) (h1 : 0 ≤ i) (h2 : i < ln h r) (hq : child r i.toNat = q) (hg : (tg h r == 21 && mv m && gw q && !gw r && decide (q < 37) && ng ls && ng st) = true) (k : R m (pc + 1) ls (st) (mov h r i.toNat q 37) P) : R m pc ls (.ref 37 :: .int (I i) :: .ref r :: st) h P := by
  obtain ⟨e1, e2⟩ := inr_I h1 h2 hn
  subst hq
  simp only [Bool.and_eq_true] at hg
  obtain ⟨⟨⟨⟨⟨⟨g1, g2⟩, g3⟩, g4⟩, g5⟩, g6⟩, g7⟩ := hg
  have hne : ¬ 37 = child r i.toNat := Ne.symm (child_ne _ _).1
  refine R_go hd (fun go call => ?_) k
  simp only [stp, rir, he, e1, e2, gd, g1, g2, g3, g4, g5, g6, g7, if_neg hne]
  rfl
theorem R_alen {m pc : Nat} {ls st : List Value} {h : Hp} {P : Value → Hp → Prop} {r : Nat} (hd : Dd m pc (.arraylength) 1) (ht : (20 ≤ tg h r ∧ tg h r ≤ 25) ∨ tg h r = 30) (k : R m (pc + 1) ls (.int (I (ln h r : Nat)) :: st) h P) : R m pc ls (.ref r :: st) h P := by
  have e : (decide (20 ≤ tg h r) && decide (tg h r ≤ 25) || tg h r == 30) = true := by
    rcases ht with q | q
    · rw [decide_eq_true q.1, decide_eq_true q.2]; rfl
    · rw [q]; rfl
  refine R_go hd (fun go call => ?_) k
  simp only [stp, r1, e]
  rfl
theorem R_new {m pc : Nat} {ls st : List Value} {h : Hp} {P : Value → Hp → Prop} {j ci q : Nat} (hd : Dd m pc (.new j) 3) (hf : newt (mO m) j = some ci) (hm : mv m = true) (hq : site m pc ls h = q) (h0 : tg h q = 0) (h5 : q < 500 ∨ 10000 ≤ q) (k : R m (pc + 3) ls (.ref q :: st) (mk h q (ci + 1) 0 (cSz ci)) P) : R m pc ls (st) h P := by
  subst hq
  have e : (mv m && tg h (site m pc ls h) == 0 && decide (site m pc ls h < 500 ∨ 10000 ≤ site m pc ls h)) = true := by rw [hm, h0, decide_eq_true h5]; rfl
  refine R_go hd (fun go call => ?_) k
  simp only [stp, hf, e]
  rfl
theorem R_newa {m pc : Nat} {ls st : List Value} {h : Hp} {P : Value → Hp → Prop} {q : Nat} {a : Int} (hd : Dd m pc (.newarray .int) 2) (hm : mv m = true) (hq : site m pc ls h = q) (h0 : tg h q = 0) (h5 : q < 500 ∨ 10000 ≤ q) (h1 : 0 ≤ a) (h2 : a < 1000000) (k : R m (pc + 2) ls (.ref q :: st) (mk h q 20 a.toNat a.toNat) P) : R m pc ls (.int (I a) :: st) h P := by
  subst hq
  have e0 : (I a).toInt = a := I_toInt ⟨by omega, by omega⟩
  have e : (mv m && ArrayType.int == .int && decide (0 ≤ (I a).toInt) && decide ((I a).toInt < 1000000) && tg h (site m pc ls h) == 0 && decide (site m pc ls h < 500 ∨ 10000 ≤ site m pc ls h)) = true := by
    rw [hm, h0, e0, decide_eq_true h5, decide_eq_true h1, decide_eq_true h2]
    rfl
  refine R_go hd (fun go call => ?_) k
  simp only [stp, i1, e]
  rw [e0]
  rfl
theorem R_anew {m pc : Nat} {ls st : List Value} {h : Hp} {P : Value → Hp → Prop} {j t : Nat} {q : Nat} {a : Int} (hd : Dd m pc (.anewarray j) 3) (hf : anwt (mO m) j = some t) (hm : mv m = true) (hq : site m pc ls h = q) (h0 : tg h q = 0) (h5 : q < 500 ∨ 10000 ≤ q) (h1 : 0 ≤ a) (h2 : a < 1000000) (k : R m (pc + 3) ls (.ref q :: st) (mk h q t a.toNat a.toNat) P) : R m pc ls (.int (I a) :: st) h P := by
  subst hq
  have e0 : (I a).toInt = a := I_toInt ⟨by omega, by omega⟩
  have e : (mv m && decide (0 ≤ (I a).toInt) && decide ((I a).toInt < 1000000) && tg h (site m pc ls h) == 0 && decide (site m pc ls h < 500 ∨ 10000 ≤ site m pc ls h)) = true := by
    rw [hm, h0, e0, decide_eq_true h5, decide_eq_true h1, decide_eq_true h2]
    rfl
  refine R_go hd (fun go call => ?_) k
  simp only [stp, hf, i1, e]
  rw [e0]
  rfl
theorem R_ireturn {m pc : Nat} {ls : List Value} {h : Hp} {P : Value → Hp → Prop} {x : Int32} (hd : Dd m pc .ireturn 1) (hr : (mR m == some .int || (mR m == some .boolean && bz x)) = true) (k : P (.int x) h) : R m pc ls [.int x] h P := R_end hd (fun _ _ => by simp only [stp, hr]; rfl) k
theorem R_lreturn {m pc : Nat} {ls : List Value} {h : Hp} {P : Value → Hp → Prop} {x : Int64} (hd : Dd m pc .lreturn 1) (hr : (mR m == some .long) = true) (k : P (.long x) h) : R m pc ls [.long x] h P := R_end hd (fun _ _ => by simp only [stp, hr]; rfl) k
theorem R_areturn {m pc : Nat} {ls : List Value} {h : Hp} {P : Value → Hp → Prop} {v : Value} (hd : Dd m pc .areturn 1) (hr : (isR v && (match mR m with | some (.object _) => true | some (.array _) => true | _ => false)) = true) (k : P v h) : R m pc ls [v] h P := R_end hd (fun _ _ => by simp only [stp]; exact (congrArg (fun b => gd b _) hr).trans rfl) k
theorem R_return {m pc : Nat} {ls : List Value} {h : Hp} {P : Value → Hp → Prop} (hd : Dd m pc .return_ 1) (hr : (mR m == none) = true) (k : P .null h) : R m pc ls [] h P := R_end hd (fun _ _ => by simp only [stp, hr]; rfl) k
theorem R_call0 {m pc : Nat} {ls st : List Value} {h : Hp} {P : Value → Hp → Prop} {j y : Nat} {s a e : List Value} (hd : Dd m pc (.invokestatic j) 3) (hc : cal (mO m) j = some (0, y)) (hs : decide (mA y ≤ st.length) = true) (h1 : st.drop (mA y) = s) (h2 : takeA (mA y) st = a) (hg : okg m y ls s a = true) (hent : ent y a = e)
    (k : R y 0 e [] h (fun v h2 => R m (pc + 3) ls (back y v s) h2 P)) : R m pc ls st h P := R_cll hd (fun go call => by
  simp only [stp, hc, h1, h2, hs, gd]
  rfl) hg hent k
theorem R_call3 {m pc : Nat} {ls st : List Value} {h : Hp} {P : Value → Hp → Prop} {j y : Nat} {s a e : List Value} (hd : Dd m pc (.invokestatic j) 3) (hc : cal (mO m) j = some (3, y)) (hs : decide (mA y ≤ st.length) = true) (h1 : st.drop (mA y) = s) (h2 : takeA (mA y) st = a) (hg : okg m y ls s a = true) (hent : ent y a = e)
    (k : R y 0 e [] h (fun v h2 => R m (pc + 3) ls (back y v s) h2 P)) : R m pc ls st h P := R_cll hd (fun go call => by
  simp only [stp, hc, h1, h2, hs, gd]
  rfl) hg hent k
theorem R_call1 {m pc : Nat} {ls st : List Value} {h : Hp} {P : Value → Hp → Prop} {j y r : Nat} {s a e : List Value} (hd : Dd m pc (.invokevirtual j) 3) (hc : cal (mO m) j = some (1, y)) (ht : tg h r = mO y + 1) (hs : decide (mA y ≤ st.length) = true) (h1 : st.drop (mA y) = .ref r :: s) (h2 : takeA (mA y) st = a) (hg : okg m y ls s (.ref r :: a) = true) (hent : ent y (.ref r :: a) = e)
    (k : R y 0 e [] h (fun v h2 => R m (pc + 3) ls (back y v s) h2 P)) : R m pc ls st h P := R_cll hd (fun go call => by
  have e1 : (tg h r == mO y + 1) = true := beq_iff_eq.mpr ht
  simp only [stp, hc, onobj, r1, h1, h2, hs, gd, e1]
  rfl) hg hent k
theorem R_call2 {m pc : Nat} {ls st : List Value} {h : Hp} {P : Value → Hp → Prop} {j y r : Nat} {s a e : List Value} (hd : Dd m pc (.invokespecial j) 3) (hc : cal (mO m) j = some (2, y)) (hs : decide (mA y ≤ st.length) = true) (h1 : st.drop (mA y) = .ref r :: s) (h2 : takeA (mA y) st = a) (hg : okg m y ls s (.ref r :: a) = true) (hent : ent y (.ref r :: a) = e)
    (k : R y 0 e [] h (fun v h2 => R m (pc + 3) ls (back y v s) h2 P)) : R m pc ls st h P := R_cll hd (fun go call => by
  simp only [stp, hc, onobj, r1, h1, h2, hs, gd]
  rfl) hg hent k
theorem R_call4 {m pc : Nat} {ls st : List Value} {h : Hp} {P : Value → Hp → Prop} {j y r : Nat} {s a e : List Value} (hd : Dd m pc (.invokespecial j) 3) (hc : cal (mO m) j = some (4, y)) (hs : decide (mA y ≤ st.length) = true) (h1 : st.drop (mA y) = .ref r :: s) (h2 : takeA (mA y) st = a) (hg : okg m y ls s (.ref r :: a) = true) (hent : ent y (.ref r :: a) = e)
    (k : R y 0 e [] h (fun v h2 => R m (pc + 3) ls (back y v s) h2 P)) : R m pc ls st h P := R_cll hd (fun go call => by
  simp only [stp, hc, onobj, r1, h1, h2, hs, gd]
  rfl) hg hent k
theorem R_call6 {m pc : Nat} {ls st : List Value} {h : Hp} {P : Value → Hp → Prop} {j y r : Nat} {s a e : List Value} (hd : Dd m pc (.invokespecial j) 3) (hc : cal (mO m) j = some (6, y)) (ht : tg h r = mO m + 1) (hs : decide (mA y ≤ st.length) = true) (h1 : st.drop (mA y) = .ref r :: s) (h2 : takeA (mA y) st = a) (hg : okg m y ls s (.ref r :: a) = true) (hent : ent y (.ref r :: a) = e)
    (k : R y 0 e [] h (fun v h2 => R m (pc + 3) ls (back y v s) h2 P)) : R m pc ls st h P := R_cll hd (fun go call => by
  have e1 : (tg h r == mO m + 1) = true := beq_iff_eq.mpr ht
  simp only [stp, hc, onobj, r1, h1, h2, hs, gd, e1]
  rfl) hg hent k
theorem R_call5 {m pc : Nat} {ls st : List Value} {h : Hp} {P : Value → Hp → Prop} {j y z r : Nat} {s a e : List Value} (hd : Dd m pc (.invokevirtual j) 3) (hc : cal (mO m) j = some (5, y)) (hv : vir (mO m) j (tg h r) = some z) (hs : decide (mA y ≤ st.length) = true) (h1 : st.drop (mA y) = .ref r :: s) (h2 : takeA (mA y) st = a) (hg : okg m z ls s (.ref r :: a) = true) (hent : ent z (.ref r :: a) = e)
    (k : R z 0 e [] h (fun v h2 => R m (pc + 3) ls (back z v s) h2 P)) : R m pc ls st h P := R_cll hd (fun go call => by
  simp only [stp, hc, onobj, r1, h1, h2, hs, gd, hv]
  rfl) hg hent k
theorem R_call8 {m pc : Nat} {ls st : List Value} {h : Hp} {P : Value → Hp → Prop} {j y r : Nat} (hd : Dd m pc (.invokespecial j) 3) (hc : cal (mO m) j = some (8, y)) (hg : (decide (1 ≤ mF m) && decide (20 ≤ mLc m) && decide (st.length ≤ 4)) = true) (k : R m (pc + 3) ls (st) h P) : R m pc ls (.ref r :: st) h P := R_go hd (fun _ _ => by simp only [stp, hc, r1, hg]; rfl) k
