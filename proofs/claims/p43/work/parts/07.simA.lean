def plainI : Instr → Bool
  | .getfield _ => false
  | .putfield _ => false
  | .getstatic _ => false
  | .iaload => false
  | .iastore => false
  | .aaload => false
  | .aastore => false
  | .arraylength => false
  | .new _ => false
  | .newarray _ => false
  | .anewarray _ => false
  | .invokestatic _ => false
  | .invokespecial _ => false
  | .invokevirtual _ => false
  | .ldc _ => false
  | .ldc_w _ => false
  | .ldc2_w _ => false
  | _ => true
theorem lrem_eq (x y : Int64) : x - (x / y) * y = x % y := by
  apply Int64.toInt_inj.mp
  have h1 := Int64.le_toInt (x % y)
  have h2 := Int64.toInt_lt (x % y)
  rw [Int64.toInt_sub, Int64.toInt_mul, Int64.toInt_div, Int.bmod_mul_bmod, Int.sub_bmod_bmod, Int.mul_comm (x.toInt.tdiv y.toInt), ← Int.tmod_def, ← Int64.toInt_mod]
  exact Int.bmod_eq_of_le_mul_two (by omega) (by omega)
section SIMA
variable {D : va_G} {cI : ClassId} {cA : Nat → ClassId} {base : Nat} {p : Program} {l : Launch} {e : Env} {R : Room} {s : State} {m : MethodId} {args : Array Value} {below : List Frame} {meth : Method} {c : Code} {Q : State → Prop} {y : Nat} {vf : Value} {hf : Hp}
/-- what is known of runs of n steps -/
def IH (D : va_G) (cI : ClassId) (cA : Nat → ClassId) (base : Nat) (p : Program) (l : Launch) (e : Env) (R : Room) (s : State) (m : MethodId) (args : Array Value) (below : List Frame) (meth : Method) (c : Code) (Q : State → Prop) (y : Nat) (vf : Value) (hf : Hp) (n : Nat) : Prop :=
  ∀ (pc : Nat) (ls st : List Value) (h : Hp) (A : Nat → Nat) (arr : Array Slot) (H : Heap) (locs : List Loc) (cells slots : Nat), exec n y pc ls st h = some (vf, hf) → Stt D cI cA base s R y hf A h ls st arr H locs cells slots → Fin D cI cA base p l e R s m args below meth c Q y vf hf A h cells slots →
    W p l e R s m args below meth c H locs cells slots Q (F0 m pc arr (st.map (cvv A)))
/-- one step that is no call, makes nothing, changes no heap -/
theorem sim_plain {n : Nat} (E : EnvM D cI cA p s m args meth c y) (ih : IH D cI cA base p l e R s m args below meth c Q y vf hf n) {pc len : Nat} {ls st : List Value} {h : Hp} {A : Nat → Nat} {arr : Array Slot} {H : Heap} {locs : List Loc} {cells slots : Nat} {i : Instr}
    (hd : decode (mB y) pc = .ok (i, len)) (hok : okl i len = true) (he : stp y pc len ls st h (exec n y) (fun y a h' => exec n y 0 (ent y a) [] h') i = some (vf, hf)) (S : Stt D cI cA base s R y hf A h ls st arr H locs cells slots) (K : Fin D cI cA base p l e R s m args below meth c Q y vf hf A h cells slots)
    (hi : plainI i = true) :
    W p l e R s m args below meth c H locs cells slots Q (F0 m pc arr (st.map (cvv A))) := by
  obtain ⟨hx, hb, hml, hown, hts, hKF, hnm⟩ := E
  obtain ⟨hR, hl, ho, hs, hloc, hce, hsl, hfr, hlo⟩ := S
  have g : ∀ pc' ls' arr' st', exec n y pc' ls' st' h = some (vf, hf) → lsR y A ls' arr' → okS h ls' → okS h st' → W p l e R s m args below meth c H locs cells slots Q (F0 m pc' arr' (st'.map (cvv A))) :=
    fun pc' ls' arr' st' q hl' ho' hs' => ih pc' ls' st' h A arr' H locs cells slots q ⟨hR, hl', ho', hs', hloc, hce, hsl, hfr, hlo⟩ K
  have g0 : ∀ pc' st', exec n y pc' ls st' h = some (vf, hf) → okS h st' → W p l e R s m args below meth c H locs cells slots Q (F0 m pc' arr (st'.map (cvv A))) := fun pc' st' q hs' => g pc' ls arr st' q hl ho hs'
  have o2 : ∀ {a b : Value} {t : List Value}, okS h (a :: b :: t) → okS h t := fun q => (okS_cons.mp (okS_cons.mp q).2).2
  have o1 : ∀ {a : Value} {t : List Value}, okS h (a :: t) → okS h t := fun q => (okS_cons.mp q).2
  have oi : ∀ {x : Int32} {t : List Value}, okS h t → okS h (.int x :: t) := fun q => okS_cons.mpr ⟨trivial, q⟩
  have oj : ∀ {x : Int64} {t : List Value}, okS h t → okS h (.long x :: t) := fun q => okS_cons.mpr ⟨trivial, q⟩
  cases i <;> simp only [stp] at he
  all_goals (first | (cases he; done) | (cases hi; done) | skip)
  all_goals (first | (have hlen : len = 1 := by simpa [okl] using hok) | (have hlen : len = 2 := by simpa [okl] using hok) | (have hlen : len = 3 := by simpa [okl] using hok) | skip)
  all_goals (first | subst hlen | skip)
  case iconst k => exact lv_iconst hx hb hd rfl (g0 _ _ he (oi hs))
  case bipush k => exact lv_bipush hx hb hd rfl (g0 _ _ he (oi hs))
  case sipush k => exact lv_sipush hx hb hd rfl (g0 _ _ he (oi hs))
  case lconst k => exact lv_lconst hx hb hd rfl (g0 _ _ he (oj hs))
  case aconst_null => exact lv_null hx hb hd (g0 _ _ he (okS_cons.mpr ⟨trivial, hs⟩))
  case iload k =>
    obtain ⟨h1, he⟩ := gd_some he
    obtain ⟨x, hv⟩ := isI_some h1
    have hk := hl.here (k := k) (by rw [hv]; exact fun q => by cases q)
    rw [hv] at hk he
    exact lv_iload hx hb hd hk (g0 _ _ he (oi hs))
  case iload_n k =>
    obtain ⟨h1, he⟩ := gd_some he
    obtain ⟨x, hv⟩ := isI_some h1
    have hk := hl.here (k := k) (by rw [hv]; exact fun q => by cases q)
    rw [hv] at hk he
    exact lv_iload_n hx hb hd rfl hk (g0 _ _ he (oi hs))
  case lload k =>
    obtain ⟨h1, he⟩ := gd_some he
    obtain ⟨x, hv⟩ := isJ_some h1
    have hk := hl.here (k := k) (by rw [hv]; exact fun q => by cases q)
    rw [hv] at hk he
    exact lv_lload hx hb hd hk (g0 _ _ he (oj hs))
  case lload_n k =>
    obtain ⟨h1, he⟩ := gd_some he
    obtain ⟨x, hv⟩ := isJ_some h1
    have hk := hl.here (k := k) (by rw [hv]; exact fun q => by cases q)
    rw [hv] at hk he
    exact lv_lload_n hx hb hd rfl hk (g0 _ _ he (oj hs))
  case aload k =>
    obtain ⟨h1, he⟩ := gd_some he
    have hov := okS_get ho k
    rcases isR_some h1 with hv | ⟨x, hv⟩
    · have hk := hl.here (k := k) (by rw [hv]; exact fun q => by cases q)
      rw [hv] at hk he hov
      exact lv_aloadN hx hb hd hk (g0 _ _ he (okS_cons.mpr ⟨hov, hs⟩))
    · have hk := hl.here (k := k) (by rw [hv]; exact fun q => by cases q)
      rw [hv] at hk he hov
      exact lv_aload hx hb hd hk (g0 _ _ he (okS_cons.mpr ⟨hov, hs⟩))
  case aload_n k =>
    obtain ⟨h1, he⟩ := gd_some he
    have hov := okS_get ho k
    rcases isR_some h1 with hv | ⟨x, hv⟩
    · have hk := hl.here (k := k) (by rw [hv]; exact fun q => by cases q)
      rw [hv] at hk he hov
      exact lv_aload_nN hx hb hd rfl hk (g0 _ _ he (okS_cons.mpr ⟨hov, hs⟩))
    · have hk := hl.here (k := k) (by rw [hv]; exact fun q => by cases q)
      rw [hv] at hk he hov
      exact lv_aload_n hx hb hd rfl hk (g0 _ _ he (okS_cons.mpr ⟨hov, hs⟩))
  case istore k =>
    obtain ⟨x, t, rfl, he⟩ := i1_some he
    obtain ⟨h1, he⟩ := gd_some he
    have hk : k < mL y := by
      have := hl.2.1
      simp only [okst, Bool.and_eq_true, decide_eq_true_eq] at h1
      omega
    exact lv_istore hx hb hd hl.1 hk rfl (fun arr' h' => g _ _ _ _ he (hl.laid (v := .int x) h1 rfl h') (okS_set ho trivial) (o1 hs))
  case istore_n k =>
    obtain ⟨x, t, rfl, he⟩ := i1_some he
    obtain ⟨h1, he⟩ := gd_some he
    have hk : (k : Nat) < mL y := by
      have := hl.2.1
      simp only [okst, Bool.and_eq_true, decide_eq_true_eq] at h1
      omega
    exact lv_istore_n hx hb hd rfl hl.1 hk rfl (fun arr' h' => g _ _ _ _ he (hl.laid (v := .int x) h1 rfl h') (okS_set ho trivial) (o1 hs))
  case astore k =>
    obtain ⟨v, t, rfl, he⟩ := v1_some he
    obtain ⟨h1, he⟩ := gd_some he
    rw [Bool.and_eq_true] at h1
    obtain ⟨h0, h1⟩ := h1
    have hk : k < mL y := by
      have := hl.2.1
      simp only [okst, Bool.and_eq_true, decide_eq_true_eq] at h1
      omega
    rcases isR_some h0 with rfl | ⟨x, rfl⟩
    · exact lv_astoreN hx hb hd hl.1 hk rfl (fun arr' h' => g _ _ _ _ he (hl.laid (v := .null) h1 rfl h') (okS_set ho trivial) (o1 hs))
    · exact lv_astore hx hb hd hl.1 hk rfl (fun arr' h' => g _ _ _ _ he (hl.laid (v := .ref x) h1 rfl h') (okS_set ho (okS_cons.mp hs).1) (o1 hs))
  case astore_n k =>
    obtain ⟨v, t, rfl, he⟩ := v1_some he
    obtain ⟨h1, he⟩ := gd_some he
    rw [Bool.and_eq_true] at h1
    obtain ⟨h0, h1⟩ := h1
    have hk : (k : Nat) < mL y := by
      have := hl.2.1
      simp only [okst, Bool.and_eq_true, decide_eq_true_eq] at h1
      omega
    rcases isR_some h0 with rfl | ⟨x, rfl⟩
    · exact lv_astore_nN hx hb hd rfl hl.1 hk rfl (fun arr' h' => g _ _ _ _ he (hl.laid (v := .null) h1 rfl h') (okS_set ho trivial) (o1 hs))
    · exact lv_astore_n hx hb hd rfl hl.1 hk rfl (fun arr' h' => g _ _ _ _ he (hl.laid (v := .ref x) h1 rfl h') (okS_set ho (okS_cons.mp hs).1) (o1 hs))
  case lstore k =>
    obtain ⟨x, t, rfl, he⟩ := l1_some he
    obtain ⟨h1, he⟩ := gd_some he
    simp only [Bool.and_eq_true, decide_eq_true_eq, Bool.not_eq_true'] at h1
    have hk : k + 1 < mL y := by
      have := hl.2.1
      omega
    exact lv_lstore hx hb hd hl.1 hk rfl (fun arr' h' => g _ _ _ _ he (hl.laidJ (x := x) h1.1.1 h1.1.2 h1.2 h') (okS_set (okS_set ho trivial) trivial) (o1 hs))
  case lstore_n k =>
    obtain ⟨x, t, rfl, he⟩ := l1_some he
    obtain ⟨h1, he⟩ := gd_some he
    simp only [Bool.and_eq_true, decide_eq_true_eq, Bool.not_eq_true'] at h1
    have hk : (k : Nat) + 1 < mL y := by
      have := hl.2.1
      omega
    exact lv_lstore_n hx hb hd rfl hl.1 hk rfl (fun arr' h' => g _ _ _ _ he (hl.laidJ (x := x) h1.1.1 h1.1.2 h1.2 h') (okS_set (okS_set ho trivial) trivial) (o1 hs))
  case iinc k j =>
    split at he
    · rename_i x hv
      obtain ⟨h1, he⟩ := gd_some he
      have hk : k < mL y := by
        have := hl.2.1
        simp only [okst, Bool.and_eq_true, decide_eq_true_eq] at h1
        omega
      have hm : (k, Value.int x) ∈ held A ls := mem_held.mpr ⟨(by rw [hl.2.1]; exact hk), (by rw [hv]; exact (fun q => by cases q)), (by rw [hv]; rfl)⟩
      obtain ⟨q, hq⟩ := List.getElem?_of_mem hm
      exact lv_iinc hx hb hd hl.1 hq rfl hk rfl (fun arr' h' => g _ _ _ _ he (hl.laid (v := .int (x + Int32.ofInt j)) h1 rfl h') (okS_set ho trivial) hs)
    · cases he
  case iadd => obtain ⟨x, z, t, rfl, he⟩ := i2_some he; exact lv_iadd hx hb hd (g0 _ _ he (oi (o2 hs)))
  case isub => obtain ⟨x, z, t, rfl, he⟩ := i2_some he; exact lv_isub hx hb hd (g0 _ _ he (oi (o2 hs)))
  case imul => obtain ⟨x, z, t, rfl, he⟩ := i2_some he; exact lv_imul hx hb hd (g0 _ _ he (oi (o2 hs)))
  case idiv =>
    obtain ⟨x, z, t, rfl, he⟩ := i2_some he
    obtain ⟨h1, he⟩ := gd_some he
    exact lv_idiv hx hb hd (by simpa using h1) (g0 _ _ he (oi (o2 hs)))
  case irem =>
    obtain ⟨x, z, t, rfl, he⟩ := i2_some he
    obtain ⟨h1, he⟩ := gd_some he
    refine lv_irem hx hb hd (by simpa using h1) ?_
    rw [irem_eq_mod]
    exact g0 _ _ he (oi (o2 hs))
  case ineg => obtain ⟨x, t, rfl, he⟩ := i1_some he; exact lv_ineg hx hb hd (g0 _ _ he (oi (o1 hs)))
  case ishl => obtain ⟨x, z, t, rfl, he⟩ := i2_some he; exact lv_ishl hx hb hd (g0 _ _ he (oi (o2 hs)))
  case ishr => obtain ⟨x, z, t, rfl, he⟩ := i2_some he; exact lv_ishr hx hb hd (g0 _ _ he (oi (o2 hs)))
  case iushr => obtain ⟨x, z, t, rfl, he⟩ := i2_some he; exact lv_iushr hx hb hd rfl (g0 _ _ he (oi (o2 hs)))
  case iand => obtain ⟨x, z, t, rfl, he⟩ := i2_some he; exact lv_iand hx hb hd (g0 _ _ he (oi (o2 hs)))
  case ior => obtain ⟨x, z, t, rfl, he⟩ := i2_some he; exact lv_ior hx hb hd (g0 _ _ he (oi (o2 hs)))
  case ixor => obtain ⟨x, z, t, rfl, he⟩ := i2_some he; exact lv_ixor hx hb hd (g0 _ _ he (oi (o2 hs)))
  case i2l => obtain ⟨x, t, rfl, he⟩ := i1_some he; exact lv_i2l hx hb hd rfl (g0 _ _ he (oj (o1 hs)))
  case i2b => obtain ⟨x, t, rfl, he⟩ := i1_some he; exact lv_i2b hx hb hd rfl (g0 _ _ he (oi (o1 hs)))
  case i2s => obtain ⟨x, t, rfl, he⟩ := i1_some he; exact lv_i2s hx hb hd rfl (g0 _ _ he (oi (o1 hs)))
  case ldiv =>
    obtain ⟨x, z, t, rfl, he⟩ := l2_some he
    obtain ⟨h1, he⟩ := gd_some he
    exact lv_ldiv hx hb hd (by simpa using h1) (g0 _ _ he (oj (o2 hs)))
  case lrem =>
    obtain ⟨x, z, t, rfl, he⟩ := l2_some he
    obtain ⟨h1, he⟩ := gd_some he
    refine lv_lrem hx hb hd (by simpa using h1) ?_
    rw [lrem_eq]
    exact g0 _ _ he (oj (o2 hs))
  case lcmp => obtain ⟨x, z, t, rfl, he⟩ := l2_some he; exact W.lcmp hx hb hd (g0 _ _ he (oi (o2 hs)))
  case pop =>
    obtain ⟨v, t, rfl, he⟩ := v1_some he
    obtain ⟨h1, he⟩ := gd_some he
    simp only [Bool.and_eq_true, Bool.or_eq_true] at h1
    refine lv_pop hx hb hd ?_ (g0 _ _ he (o1 hs))
    rcases h1.2 with q | q
    · obtain ⟨x, rfl⟩ := isI_some q; rfl
    · rcases isR_some q with rfl | ⟨x, rfl⟩ <;> rfl
  case dup =>
    obtain ⟨v, t, rfl, he⟩ := v1_some he
    obtain ⟨h1, he⟩ := gd_some he
    simp only [Bool.and_eq_true, Bool.or_eq_true] at h1
    obtain ⟨w1, w2⟩ := okS_cons.mp hs
    refine lv_dup hx hb hd ?_ (g0 _ _ he (okS_cons.mpr ⟨w1, okS_cons.mpr ⟨w1, w2⟩⟩))
    rcases h1.2 with q | q
    · obtain ⟨x, rfl⟩ := isI_some q; rfl
    · rcases isR_some q with rfl | ⟨x, rfl⟩ <;> rfl
  case dup2 =>
    obtain ⟨v, t, rfl, he2⟩ := v1_some he
    obtain ⟨w, t2, rfl, he3⟩ := v1_some he2
    obtain ⟨h1, he4⟩ := gd_some he3
    simp only [Bool.and_eq_true, Bool.or_eq_true] at h1
    obtain ⟨w1, w2⟩ := okS_cons.mp hs
    obtain ⟨w3, w4⟩ := okS_cons.mp w2
    refine lv_dup2_11 hx hb hd ?_ ?_ (g0 _ _ he4 (okS_cons.mpr ⟨w1, okS_cons.mpr ⟨w3, okS_cons.mpr ⟨w1, okS_cons.mpr ⟨w3, w4⟩⟩⟩⟩))
    · rcases h1.1.2 with q | q
      · obtain ⟨x, rfl⟩ := isI_some q; rfl
      · rcases isR_some q with rfl | ⟨x, rfl⟩ <;> rfl
    · rcases h1.2.2 with q | q
      · obtain ⟨x, rfl⟩ := isI_some q; rfl
      · rcases isR_some q with rfl | ⟨x, rfl⟩ <;> rfl
  case goto off => obtain ⟨t, ht, he⟩ := jmp_some he; exact lv_goto hx hb hd ht (g0 _ _ he hs)
  case ifCond cc off =>
    obtain ⟨x, t, rfl, he⟩ := i1_some he
    obtain ⟨hz, he⟩ := gd_some he
    have ht : (pc : Int) + off = (((pc : Int) + off).toNat : Int) := (Int.toNat_of_nonneg (of_decide_eq_true hz)).symm
    have hs := o1 hs
    cases cc <;> simp only [brn] at he
    case eq => exact lv_if_eq hx hb hd ht (fun q => by rw [if_pos q] at he; exact g0 _ _ he hs) (fun q => by rw [if_neg q] at he; exact g0 _ _ he hs)
    case ne => exact lv_if_ne hx hb hd ht (fun q => by rw [if_neg q] at he; exact g0 _ _ he hs) (fun q => by rw [if_pos q] at he; exact g0 _ _ he hs)
    case lt => exact lv_if_lt hx hb hd ht (fun q => by rw [if_pos q] at he; exact g0 _ _ he hs) (fun q => by rw [if_neg q] at he; exact g0 _ _ he hs)
    case ge => exact lv_if_ge hx hb hd ht (fun q => by rw [if_neg (k2_nlt q)] at he; exact g0 _ _ he hs) (fun q => by rw [if_pos (k2_lt q)] at he; exact g0 _ _ he hs)
    case gt => exact lv_if_gt hx hb hd ht (fun q => by rw [if_pos q] at he; exact g0 _ _ he hs) (fun q => by rw [if_neg q] at he; exact g0 _ _ he hs)
    case le => exact lv_if_le hx hb hd ht (fun q => by rw [if_neg (k2_nlt q)] at he; exact g0 _ _ he hs) (fun q => by rw [if_pos (k2_lt q)] at he; exact g0 _ _ he hs)
  case if_icmp cc off =>
    obtain ⟨x, z, t, rfl, he⟩ := i2_some he
    obtain ⟨hz, he⟩ := gd_some he
    have ht : (pc : Int) + off = (((pc : Int) + off).toNat : Int) := (Int.toNat_of_nonneg (of_decide_eq_true hz)).symm
    have hs := o2 hs
    cases cc <;> simp only [brn] at he
    case eq => exact lv_icmp_eq hx hb hd ht (fun q => by rw [if_pos q] at he; exact g0 _ _ he hs) (fun q => by rw [if_neg q] at he; exact g0 _ _ he hs)
    case ne => exact lv_icmp_ne hx hb hd ht (fun q => by rw [if_neg q] at he; exact g0 _ _ he hs) (fun q => by rw [if_pos q] at he; exact g0 _ _ he hs)
    case lt => exact lv_icmp_lt hx hb hd ht (fun q => by rw [if_pos q] at he; exact g0 _ _ he hs) (fun q => by rw [if_neg q] at he; exact g0 _ _ he hs)
    case ge => exact lv_icmp_ge hx hb hd ht (fun q => by rw [if_neg (k2_nlt q)] at he; exact g0 _ _ he hs) (fun q => by rw [if_pos (k2_lt q)] at he; exact g0 _ _ he hs)
    case gt => exact lv_icmp_gt hx hb hd ht (fun q => by rw [if_pos q] at he; exact g0 _ _ he hs) (fun q => by rw [if_neg q] at he; exact g0 _ _ he hs)
    case le => exact lv_icmp_le hx hb hd ht (fun q => by rw [if_neg (k2_nlt q)] at he; exact g0 _ _ he hs) (fun q => by rw [if_pos (k2_lt q)] at he; exact g0 _ _ he hs)
  case ifnull off =>
    split at he
    · obtain ⟨t, ht, he⟩ := jmp_some he
      exact lv_ifnullN hx hb hd ht (g0 _ _ he (o1 hs))
    · exact lv_ifnull hx hb hd (g0 _ _ he (o1 hs))
    · cases he
  case ifnonnull off =>
    split at he
    · exact lv_ifnonnullN hx hb hd (g0 _ _ he (o1 hs))
    · obtain ⟨t, ht, he⟩ := jmp_some he
      exact lv_ifnonnull hx hb hd ht (g0 _ _ he (o1 hs))
    · cases he
  case tableswitch d lo hi' offs =>
    obtain ⟨x, t, rfl, he2⟩ := i1_some he
    split at he2
    · rename_i hq
      obtain ⟨t', ht, he3⟩ := jmp_some he2
      exact lv_tableOut hx hb hd hq ht (g0 _ _ he3 (o1 hs))
    · rename_i hq
      split at he2
      · rename_i off ho
        obtain ⟨t', ht, he3⟩ := jmp_some he2
        exact lv_tableIn hx hb hd (fun q => hq (Or.inl q)) (fun q => hq (Or.inr q)) ho ht (g0 _ _ he3 (o1 hs))
      · cases he2
  case lookupswitch d ps =>
    obtain ⟨x, t, rfl, he⟩ := i1_some he
    obtain ⟨hz, he⟩ := gd_some he
    obtain ⟨t', ht, he⟩ := jmp_some he
    exact lv_lookup hx hb hd hz rfl ht (g0 _ _ he (o1 hs))
  case ireturn =>
    split at he
    · rename_i x
      obtain ⟨h1, he⟩ := gd_some he
      cases he
      simp only [Bool.or_eq_true, Bool.and_eq_true, beq_iff_eq] at h1
      have e1 : mR y ≠ none := by rcases h1 with h1 | h1 <;> (intro q; rw [q] at h1; simp at h1)
      have K2 := K A H locs cells slots pc arr (Pres.rf y A hf) hR trivial hloc rfl rfl (Or.inr (Or.inl ⟨x, rfl, hd, h1⟩))
      rw [rst, if_neg e1] at K2
      exact K2
    · cases he
  case lreturn =>
    split at he
    · rename_i x
      obtain ⟨h1, he⟩ := gd_some he
      cases he
      have h1 : mR y = some .long := by simpa using h1
      have e1 : mR y ≠ none := by rw [h1]; exact fun q => by cases q
      have K2 := K A H locs cells slots pc arr (Pres.rf y A hf) hR trivial hloc rfl rfl (Or.inr (Or.inr (Or.inl ⟨x, rfl, hd, h1⟩)))
      rw [rst, if_neg e1] at K2
      exact K2
    · cases he
  case areturn =>
    split at he
    · rename_i v
      obtain ⟨h1, he⟩ := gd_some he
      cases he
      rw [Bool.and_eq_true] at h1
      have h2 : (∃ n, mR y = some (.object n)) ∨ ∃ t, mR y = some (.array t) := by
        have h3 := h1.2
        split at h3
        · rename_i hq; exact Or.inl ⟨_, hq⟩
        · rename_i hq; exact Or.inr ⟨_, hq⟩
        · cases h3
      have e1 : mR y ≠ none := by rcases h2 with ⟨n, h2⟩ | ⟨n, h2⟩ <;> (rw [h2]; exact fun q => by cases q)
      have K2 := K A H locs cells slots pc arr (Pres.rf y A hf) hR (okS_cons.mp hs).1 hloc rfl rfl (Or.inr (Or.inr (Or.inr ⟨h1.1, hd, h2⟩)))
      rw [rst, if_neg e1] at K2
      exact K2
    · cases he
  case return_ =>
    split at he
    · obtain ⟨h1, he⟩ := gd_some he
      cases he
      have h1 : mR y = none := by simpa using h1
      have K2 := K A H locs cells slots pc arr (Pres.rf y A hf) hR trivial hloc rfl rfl (Or.inl ⟨h1, hd⟩)
      rw [rst, if_pos h1] at K2
      exact K2
    · cases he
end SIMA
