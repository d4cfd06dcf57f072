theorem gd_some {b : Bool} {r : Rs} {x : Value × Hp} (h : gd b r = some x) : b = true ∧ r = some x := by
  unfold gd at h
  cases b with
  | true => exact ⟨rfl, h⟩
  | false => cases h
theorem i1_some {st : List Value} {f : Int32 → List Value → Rs} {r : Value × Hp} (h : i1 st f = some r) : ∃ x t, st = .int x :: t ∧ f x t = some r := by
  unfold i1 at h
  split at h
  · exact ⟨_, _, rfl, h⟩
  · cases h
theorem i2_some {st : List Value} {f : Int32 → Int32 → List Value → Rs} {r : Value × Hp} (h : i2 st f = some r) : ∃ x y t, st = .int y :: .int x :: t ∧ f x y t = some r := by
  unfold i2 at h
  split at h
  · exact ⟨_, _, _, rfl, h⟩
  · cases h
theorem l1_some {st : List Value} {f : Int64 → List Value → Rs} {r : Value × Hp} (h : l1 st f = some r) : ∃ x t, st = .long x :: t ∧ f x t = some r := by
  unfold l1 at h
  split at h
  · exact ⟨_, _, rfl, h⟩
  · cases h
theorem l2_some {st : List Value} {f : Int64 → Int64 → List Value → Rs} {r : Value × Hp} (h : l2 st f = some r) : ∃ x y t, st = .long y :: .long x :: t ∧ f x y t = some r := by
  unfold l2 at h
  split at h
  · exact ⟨_, _, _, rfl, h⟩
  · cases h
theorem r1_some {st : List Value} {f : Nat → List Value → Rs} {r : Value × Hp} (h : r1 st f = some r) : ∃ x t, st = .ref x :: t ∧ f x t = some r := by
  unfold r1 at h
  split at h
  · exact ⟨_, _, rfl, h⟩
  · cases h
theorem ri_some {st : List Value} {f : Nat → Int32 → List Value → Rs} {r : Value × Hp} (h : ri st f = some r) : ∃ x i t, st = .int i :: .ref x :: t ∧ f x i t = some r := by
  unfold ri at h
  split at h
  · exact ⟨_, _, _, rfl, h⟩
  · cases h
theorem rii_some {st : List Value} {f : Nat → Int32 → Int32 → List Value → Rs} {r : Value × Hp} (h : rii st f = some r) : ∃ x i z t, st = .int z :: .int i :: .ref x :: t ∧ f x i z t = some r := by
  unfold rii at h
  split at h
  · exact ⟨_, _, _, _, rfl, h⟩
  · cases h
theorem rir_some {st : List Value} {f : Nat → Int32 → Nat → List Value → Rs} {r : Value × Hp} (h : rir st f = some r) : ∃ x i q t, st = .ref q :: .int i :: .ref x :: t ∧ f x i q t = some r := by
  unfold rir at h
  split at h
  · exact ⟨_, _, _, _, rfl, h⟩
  · cases h
theorem v1_some {st : List Value} {f : Value → List Value → Rs} {r : Value × Hp} (h : v1 st f = some r) : ∃ x t, st = x :: t ∧ f x t = some r := by
  unfold v1 at h
  split at h
  · exact ⟨_, _, rfl, h⟩
  · cases h
theorem jmp_some {pc : Nat} {off : Int} {go : Nat → Rs} {r : Value × Hp} (h : jmp pc off go = some r) : ∃ t : Nat, (pc : Int) + off = (t : Int) ∧ go t = some r := by
  obtain ⟨h1, h2⟩ := gd_some h
  exact ⟨_, (Int.toNat_of_nonneg (of_decide_eq_true h1)).symm, h2⟩
theorem isI_some {v : Value} (h : isI v = true) : ∃ x, v = .int x := by cases v <;> first | exact ⟨_, rfl⟩ | cases h
theorem isJ_some {v : Value} (h : isJ v = true) : ∃ x, v = .long x := by cases v <;> first | exact ⟨_, rfl⟩ | cases h
theorem isR_some {v : Value} (h : isR v = true) : v = .null ∨ ∃ x, v = .ref x := by cases v <;> first | exact Or.inl rfl | exact Or.inr ⟨_, rfl⟩ | cases h
theorem okS_cons {h : Hp} {v : Value} {l : List Value} : okS h (v :: l) ↔ okv h v ∧ okS h l := by
  unfold okS
  simp
theorem okS_get {h : Hp} {ls : List Value} (hl : okS h ls) (k : Nat) : okv h (gt ls k) := by
  by_cases q : k < ls.length
  · exact hl _ (gt_mem q)
  · have e : gt ls k = .retAddr 0 := by
      unfold gt
      rw [List.getElem?_eq_none (by omega)]
      rfl
    rw [e]
    exact trivial
theorem okS_set {h : Hp} {ls : List Value} {k : Nat} {v : Value} (hl : okS h ls) (hv : okv h v) : okS h (ls.set k v) := by
  intro w hw
  rcases List.mem_or_eq_of_mem_set hw with h1 | h1
  · exact hl w h1
  · rw [h1]; exact hv
/-- counts only grow -/
theorem stp_mono {y pc len : Nat} {ls st : List Value} {h : Hp} {go : Go} {call : Nat → List Value → Hp → Rs} {i : Instr} {v : Value} {h' : Hp}
    (hg : ∀ pc' ls' st' h1, go pc' ls' st' h1 = some (v, h') → ck h1 ≤ ck h' ∧ cu h1 ≤ cu h') (hc : ∀ z a h1 w h2, call z a h1 = some (w, h2) → ck h1 ≤ ck h2 ∧ cu h1 ≤ cu h2) (he : stp y pc len ls st h go call i = some (v, h')) : ck h ≤ ck h' ∧ cu h ≤ cu h' := by
  have hcll : ∀ z lz sz a, cll y pc z lz sz h go call a = some (v, h') → ck h ≤ ck h' ∧ cu h ≤ cu h' := by
    intro z lz sz a hz
    unfold cll at hz
    obtain ⟨-, hz⟩ := gd_some hz
    split at hz
    · rename_i w h2 heq
      have h1 := hc _ _ _ _ _ heq
      have h2 := hg _ _ _ _ hz
      omega
    · cases hz
  have hs : ∀ pc' ls' st' h1, go pc' ls' st' h1 = some (v, h') → ck h1 = ck h → cu h1 = cu h → ck h ≤ ck h' ∧ cu h ≤ cu h' := by
    intro pc1 ls1 st1 h1 hz e1 e2
    have h2 := hg _ _ _ _ hz
    omega
  have hmk : ∀ q t n u pc' ls' st', go pc' ls' st' (mk h q t n u) = some (v, h') → ck h ≤ ck h' ∧ cu h ≤ cu h' := by
    intro q t n u pc' ls' st' hz
    have h2 := hg _ _ _ _ hz
    have e1 : ck (mk h q t n u) = ck h + 1 := rfl
    have e2 : cu (mk h q t n u) = cu h + u := rfl
    omega
  have hon : ∀ z sz (f : Nat → List Value → List Value → Rs), onobj z sz f = some (v, h') → ∃ r a s, f r a s = some (v, h') := by
    intro z sz f hz
    obtain ⟨r, t, -, hz⟩ := r1_some hz
    obtain ⟨-, hz⟩ := gd_some hz
    exact ⟨_, _, _, hz⟩
  cases i <;> simp only [stp] at he
  all_goals (first | (cases he; done) | (exact hg _ _ _ _ he) | skip)
  case ldc j => split at he <;> first | exact hg _ _ _ _ he | cases he
  case ldc_w j => split at he <;> first | exact hg _ _ _ _ he | cases he
  case iload k => exact hg _ _ _ _ (gd_some he).2
  case iload_n k => exact hg _ _ _ _ (gd_some he).2
  case lload k => exact hg _ _ _ _ (gd_some he).2
  case lload_n k => exact hg _ _ _ _ (gd_some he).2
  case aload k => exact hg _ _ _ _ (gd_some he).2
  case aload_n k => exact hg _ _ _ _ (gd_some he).2
  case istore k => obtain ⟨x, t, -, he⟩ := i1_some he; exact hg _ _ _ _ (gd_some he).2
  case istore_n k => obtain ⟨x, t, -, he⟩ := i1_some he; exact hg _ _ _ _ (gd_some he).2
  case astore k => obtain ⟨x, t, -, he⟩ := v1_some he; exact hg _ _ _ _ (gd_some he).2
  case astore_n k => obtain ⟨x, t, -, he⟩ := v1_some he; exact hg _ _ _ _ (gd_some he).2
  case lstore k => obtain ⟨x, t, -, he⟩ := l1_some he; exact hg _ _ _ _ (gd_some he).2
  case lstore_n k => obtain ⟨x, t, -, he⟩ := l1_some he; exact hg _ _ _ _ (gd_some he).2
  case iinc k j =>
    split at he
    · exact hg _ _ _ _ (gd_some he).2
    · cases he
  case iadd => obtain ⟨x, z, t, -, he⟩ := i2_some he; exact hg _ _ _ _ he
  case isub => obtain ⟨x, z, t, -, he⟩ := i2_some he; exact hg _ _ _ _ he
  case imul => obtain ⟨x, z, t, -, he⟩ := i2_some he; exact hg _ _ _ _ he
  case idiv => obtain ⟨x, z, t, -, he⟩ := i2_some he; exact hg _ _ _ _ (gd_some he).2
  case irem => obtain ⟨x, z, t, -, he⟩ := i2_some he; exact hg _ _ _ _ (gd_some he).2
  case ineg => obtain ⟨x, t, -, he⟩ := i1_some he; exact hg _ _ _ _ he
  case ishl => obtain ⟨x, z, t, -, he⟩ := i2_some he; exact hg _ _ _ _ he
  case ishr => obtain ⟨x, z, t, -, he⟩ := i2_some he; exact hg _ _ _ _ he
  case iushr => obtain ⟨x, z, t, -, he⟩ := i2_some he; exact hg _ _ _ _ he
  case iand => obtain ⟨x, z, t, -, he⟩ := i2_some he; exact hg _ _ _ _ he
  case ior => obtain ⟨x, z, t, -, he⟩ := i2_some he; exact hg _ _ _ _ he
  case ixor => obtain ⟨x, z, t, -, he⟩ := i2_some he; exact hg _ _ _ _ he
  case i2l => obtain ⟨x, t, -, he⟩ := i1_some he; exact hg _ _ _ _ he
  case i2b => obtain ⟨x, t, -, he⟩ := i1_some he; exact hg _ _ _ _ he
  case i2s => obtain ⟨x, t, -, he⟩ := i1_some he; exact hg _ _ _ _ he
  case ldiv => obtain ⟨x, z, t, -, he⟩ := l2_some he; exact hg _ _ _ _ (gd_some he).2
  case lrem => obtain ⟨x, z, t, -, he⟩ := l2_some he; exact hg _ _ _ _ (gd_some he).2
  case lcmp => obtain ⟨x, z, t, -, he⟩ := l2_some he; exact hg _ _ _ _ he
  case pop => obtain ⟨x, t, -, he⟩ := v1_some he; exact hg _ _ _ _ (gd_some he).2
  case dup => obtain ⟨x, t, -, he⟩ := v1_some he; exact hg _ _ _ _ (gd_some he).2
  case dup2 => obtain ⟨x, t, -, he⟩ := v1_some he; obtain ⟨x, t, -, he⟩ := v1_some he; exact hg _ _ _ _ (gd_some he).2
  case goto off => obtain ⟨t, -, he⟩ := jmp_some he; exact hg _ _ _ _ he
  case ifCond cc off =>
    obtain ⟨x, t, -, he⟩ := i1_some he
    obtain ⟨-, he⟩ := gd_some he
    cases cc <;> simp only [brn] at he <;> split at he <;> exact hg _ _ _ _ he
  case if_icmp cc off =>
    obtain ⟨x, z, t, -, he⟩ := i2_some he
    obtain ⟨-, he⟩ := gd_some he
    cases cc <;> simp only [brn] at he <;> split at he <;> exact hg _ _ _ _ he
  case ifnull off =>
    split at he
    · obtain ⟨t, -, he⟩ := jmp_some he; exact hg _ _ _ _ he
    · exact hg _ _ _ _ he
    · cases he
  case ifnonnull off =>
    split at he
    · exact hg _ _ _ _ he
    · obtain ⟨t, -, he⟩ := jmp_some he; exact hg _ _ _ _ he
    · cases he
  case tableswitch d lo hi offs =>
    obtain ⟨x, t, -, he⟩ := i1_some he
    split at he
    · obtain ⟨t, -, he⟩ := jmp_some he; exact hg _ _ _ _ he
    · split at he
      · obtain ⟨t, -, he⟩ := jmp_some he; exact hg _ _ _ _ he
      · cases he
  case lookupswitch d ps =>
    obtain ⟨x, t, -, he⟩ := i1_some he
    obtain ⟨-, he⟩ := gd_some he
    obtain ⟨t, -, he⟩ := jmp_some he
    exact hg _ _ _ _ he
  case getfield j =>
    split at he
    · obtain ⟨x, t, -, he⟩ := r1_some he
      obtain ⟨-, he⟩ := gd_some he
      split at he
      · exact hg _ _ _ _ (gd_some he).2
      · exact hg _ _ _ _ he
    · cases he
  case putfield j =>
    split at he
    · obtain ⟨-, he⟩ := gd_some he
      split at he
      · obtain ⟨-, he⟩ := gd_some he
        exact hs _ _ _ _ he rfl rfl
      · obtain ⟨-, he⟩ := gd_some he
        split at he
        · exact hs _ _ _ _ he rfl rfl
        · exact hs _ _ _ _ (gd_some he).2 rfl rfl
      · cases he
    · cases he
  case getstatic j =>
    split at he
    · exact hg _ _ _ _ (gd_some he).2
    · cases he
  case iaload => obtain ⟨x, i, t, -, he⟩ := ri_some he; exact hg _ _ _ _ (gd_some he).2
  case iastore => obtain ⟨x, i, z, t, -, he⟩ := rii_some he; exact hs _ _ _ _ (gd_some he).2 rfl rfl
  case aaload => obtain ⟨x, i, t, -, he⟩ := ri_some he; exact hg _ _ _ _ (gd_some he).2
  case aastore =>
    obtain ⟨x, i, z, t, -, he⟩ := rir_some he
    obtain ⟨-, he⟩ := gd_some he
    split at he
    · exact hs _ _ _ _ he rfl rfl
    · exact hs _ _ _ _ (gd_some he).2 rfl rfl
  case arraylength => obtain ⟨x, t, -, he⟩ := r1_some he; exact hg _ _ _ _ (gd_some he).2
  case new j =>
    split at he
    · exact hmk _ _ _ _ _ _ _ (gd_some he).2
    · cases he
  case newarray j => obtain ⟨x, t, -, he⟩ := i1_some he; exact hmk _ _ _ _ _ _ _ (gd_some he).2
  case anewarray j =>
    split at he
    · obtain ⟨x, t, -, he⟩ := i1_some he; exact hmk _ _ _ _ _ _ _ (gd_some he).2
    · cases he
  case invokestatic j =>
    split at he
    · exact hcll _ _ _ _ (gd_some he).2
    · exact hcll _ _ _ _ (gd_some he).2
    · cases he
  case invokespecial j =>
    split at he
    · obtain ⟨x, t, -, he⟩ := r1_some he; exact hg _ _ _ _ (gd_some he).2
    · obtain ⟨r, a, t, he⟩ := hon _ _ _ he; exact hcll _ _ _ _ he
    · obtain ⟨r, a, t, he⟩ := hon _ _ _ he; exact hcll _ _ _ _ he
    · obtain ⟨r, a, t, he⟩ := hon _ _ _ he; exact hcll _ _ _ _ (gd_some he).2
    · cases he
  case invokevirtual j =>
    split at he
    · obtain ⟨r, a, t, he⟩ := hon _ _ _ he; exact hcll _ _ _ _ (gd_some he).2
    · obtain ⟨r, a, t, he⟩ := hon _ _ _ he
      split at he
      · exact hcll _ _ _ _ he
      · cases he
    · cases he
  case ireturn =>
    split at he
    · obtain ⟨-, he⟩ := gd_some he; cases he; exact ⟨Nat.le_refl _, Nat.le_refl _⟩
    · cases he
  case lreturn =>
    split at he
    · obtain ⟨-, he⟩ := gd_some he; cases he; exact ⟨Nat.le_refl _, Nat.le_refl _⟩
    · cases he
  case areturn =>
    split at he
    · obtain ⟨-, he⟩ := gd_some he; cases he; exact ⟨Nat.le_refl _, Nat.le_refl _⟩
    · cases he
  case return_ =>
    split at he
    · obtain ⟨-, he⟩ := gd_some he; cases he; exact ⟨Nat.le_refl _, Nat.le_refl _⟩
    · cases he
theorem exec_mono : ∀ (n y pc : Nat) (ls st : List Value) (h : Hp) (v : Value) (h' : Hp), exec n y pc ls st h = some (v, h') → ck h ≤ ck h' ∧ cu h ≤ cu h' := by
  intro n
  induction n with
  | zero => intro y pc ls st h v h' he; simp [exec] at he
  | succ n ih =>
    intro y pc ls st h v h' he
    rw [exec] at he
    split at he
    · obtain ⟨-, he⟩ := gd_some he
      exact stp_mono (fun _ _ _ _ q => ih _ _ _ _ _ _ _ q) (fun _ _ _ _ _ q => ih _ _ _ _ _ _ _ q) he
    · cases he
