/-! What box and laws are, out of the texts that the law wrote. -/
section MADE
variable {d : Nat → Nat → Int} {h : Hp} {G N : Nat} {S W : Nat → Int} {K : Nat → Nat}
theorem cel00 (d : Nat → Nat → Int) : celH (up d 0 7 0) 0 0 = d 12 := by
  funext s
  show up d 0 7 0 12 (60 * 0 + 0 + s) = d 12 s
  rw [up_f (by decide)]
  congr 1
  omega
theorem box_ok (e10 : d 10 0 = 0) (e11 : d 11 0 = 60) (b : BTX S W K (d 12) N) (hK : ∀ j, K j ≤ 2) (hS : ∀ j, 1 ≤ S j ∧ S j ≤ 9) (hW : ∀ j, 1 ≤ W j ∧ W j ≤ 9) (hN : 2 ≤ N ∧ N ≤ 6) : boxV d 0 0 0 (ps K N - 1 : Nat) = (N : Nat) ∧ (∀ n, boxN n d 0 0 0 (ps K N - 1 : Nat) = N) ∧ boxD d 0 0 0 (ps K N - 1 : Nat) = bxD (up d 0 7 0) (d 12) (ps K N - 1) := by
  have pb := ps_bd hK N
  have r0 : refV d 0 0 0 (ps K N - 1 : Nat) = 0 := by
    unfold refV
    rw [if_neg (by omega), if_neg (by omega), show (0 : Int).toNat = 0 from rfl, e10, e11, if_neg (by omega), if_neg (by omega), if_neg (by omega), if_neg (by omega)]
  have r1 : boxR (up d 0 7 0) 0 0 (ps K N - 1 : Nat) = -1 := by
    unfold boxR
    rw [cel00, Int.toNat_natCast]
    exact b.bq hK hS hW hN (N - 1) 0 (by omega)
  have gt := b.gt hK hS hW hN
  have c := cgr_n gt 7 0 (by omega) (by omega)
  unfold boxV boxN boxD
  rw [r0, r1, cel00, Int.toNat_natCast, c]
  exact ⟨rfl, fun _ => rfl, rfl⟩
theorem box_ag {d' : Nat → Nat → Int} (b : BTX S W K (d 12) N) (hK : ∀ j, K j ≤ 2) (ed : d' = bxD (up d 0 7 0) (d 12) (ps K N - 1)) (a : AH N S W K N G h) : AG N d' G h := by
  obtain ⟨a1, a2, a3⟩ := a
  refine ⟨a1, a2, fun k hk => ?_⟩
  obtain ⟨b1, b2, b3, b4, b5, b6⟩ := b k hk
  obtain ⟨c1, c2, c3⟩ := a3 k hk
  rw [c1, c2, c3, ed]
  unfold bxD
  refine ⟨?_, ?_, ?_⟩
  · rw [if_neg (by omega), if_pos rfl, b.gq hK k (by omega), b2]; omega
  · rw [if_neg (by omega), if_neg (by omega), if_pos rfl, b.gq hK k (by omega), b3]; omega
  · rw [if_neg (by omega), if_neg (by omega), if_neg (by omega), if_pos rfl, b.gq hK k (by omega), b.kq hK hk]
theorem lffg_y {Q : Nat → Prop} {m : Nat} (h3 : m % 4 = 3) : ∀ (k p : Nat), (∀ q, p ≤ q → q < p + k → Q q) → lffg Q m k p = -1
  | 0, p, _ => by rw [lffg, if_pos h3]
  | k + 1, p, h => by
    rw [lffg, if_pos (h p (by omega) (by omega))]
    exact lffg_y h3 k (p + 1) fun q h1 h2 => h q (by omega) (by omega)
theorem cel10 (d : Nat → Nat → Int) (s : Nat) : celH (up d 0 7 0) 1 0 s = d 12 (60 + s) := by
  show up d 0 7 0 12 (60 * 1 + 0 + s) = d 12 (60 + s)
  rw [up_f (by decide)]
variable {C : Nat} {A B D : Nat → Int}
theorem law_ok (e10 : d 10 1 = 2) (e11 : d 11 1 = 30) (b : CTX A B D (d 12) C) (hA : ∀ j, 0 ≤ A j ∧ A j ≤ 5) (hB : ∀ j, 0 ≤ B j ∧ B j ≤ 9) (hD : ∀ j, 1 ≤ D j ∧ D j ≤ 3) (hC : 1 ≤ C ∧ C ≤ 6) (h03 : d 0 3 < 4) : lawV d 1 2 0 (4 * C - 1 : Nat) = d 0 3 ∧ lawD d 1 2 0 (4 * C - 1 : Nat) = nlD (up d 0 7 0) (d 0 3).toNat (celH (up d 0 7 0) 1 0) C := by
  have r0 : refV d 1 2 0 (4 * C - 1 : Nat) = 0 := by
    unfold refV
    rw [if_neg (by omega), if_neg (by omega), show (1 : Int).toNat = 1 from rfl, e10, e11, if_neg (by omega), if_neg (by omega), if_neg (by omega), if_neg (by omega)]
  have l1 : lffg (lwG (celH (up d 0 7 0) 1 0)) (4 * C - 1) (4 * C - 1) 0 = -1 := by
    refine lffg_y (by omega) _ _ fun q _ hq => ?_
    obtain ⟨b1, b2, b3, b4⟩ := b (q / 4) (by omega)
    have a1 := hA (q / 4)
    have a2 := hB (q / 4)
    have a3 := hD (q / 4)
    have lc := lcode_ltc a1
    unfold lwG
    rw [cel10]
    refine ⟨fun z => ?_, fun z => ?_, fun z => ?_, fun z => ?_⟩
    · rw [show 60 + q = 60 + 4 * (q / 4) by omega, b1, lc.1]; omega
    · rw [show 60 + q = 60 + (4 * (q / 4) + 1) by omega, b2]; omega
    · rw [show 60 + q = 60 + (4 * (q / 4) + 2) by omega, b3]; omega
    · rw [show 60 + q = 60 + (4 * (q / 4) + 3) by omega, b4 (by omega)]; omega
  have e3 : up d 0 7 0 0 3 = d 0 3 := up_ne (by omega)
  unfold lawV lawD lawW lawE
  have h4 : ¬ 4 ≤ d 0 3 := by omega
  rw [r0, Int.toNat_natCast, l1, e3, show (4 * C - 1 + 1) / 4 = C by omega]
  refine ⟨?_, ?_⟩
  · rw [if_neg (fun z => z rfl), if_neg (fun z => z rfl), if_neg h4]
  · rw [if_neg (fun z => z rfl), if_neg (fun z => z rfl), if_neg h4]
theorem law_al {d' : Nat → Nat → Int} {l : Nat} (b : CTX A B D (d 12) C) (hA : ∀ j, 0 ≤ A j ∧ A j ≤ 5) (ed : d' = nlD (up d 0 7 0) l (celH (up d 0 7 0) 1 0) C) (a : AC C A B D C G h) : AL d' l G h := by
  obtain ⟨a1, a2, a3⟩ := a
  rw [ed]
  refine ⟨a1, by rw [a2, nlD_4], fun c hc => ?_⟩
  rw [nlD_4] at hc
  have hc : c < C := by omega
  obtain ⟨n5, n6, n7⟩ := nlD_567 (d := up d 0 7 0) (l := l) (H := celH (up d 0 7 0) 1 0) hc
  obtain ⟨b1, b2, b3, b4⟩ := b c hc
  obtain ⟨c1, c2, c3⟩ := a3 c hc
  rw [n5, n6, n7, c1, c2, c3, cel10, cel10, cel10, b1, b2, b3, (lcode_ltc (hA c)).1]
  exact ⟨rfl, by omega, by omega⟩
theorem AL.le {d' : Nat → Nat → Int} {l L : Nat} (e : Le d d' l) (b : LB d l) (a : AL d l L h) : AL d' l L h := by
  obtain ⟨a1, a2, a3⟩ := a
  obtain ⟨-, -, -, e4, e5⟩ := e
  refine ⟨a1, by rw [e4]; exact a2, fun c hc => ?_⟩
  rw [e4] at hc
  obtain ⟨x5, x6, x7⟩ := e5 c (by have := b.1; omega)
  rw [x5, x6, x7]
  exact a3 c hc
theorem AL.cg {d' : Nat → Nat → Int} {l L : Nat} (e : ∀ f, 1 ≤ f → f ≤ 9 → d' f = d f) (a : AL d l L h) : AL d' l L h := by
  unfold AL
  rw [e 4 (by decide) (by decide), e 5 (by decide) (by decide), e 6 (by decide) (by decide), e 7 (by decide) (by decide)]
  exact a
theorem AG.cg {d' : Nat → Nat → Int} {n G : Nat} (e : ∀ f, 1 ≤ f → f ≤ 9 → d' f = d f) (a : AG n d G h) : AG n d' G h := by
  unfold AG
  rw [e 1 (by decide) (by decide), e 2 (by decide) (by decide), e 3 (by decide) (by decide)]
  exact a
end MADE
/-! What holds in the law's turns. -/
theorem rul_cg {d d' : Nat → Nat → Int} (he : ∀ f, 1 ≤ f → f ≤ 9 → d' f = d f) (l x y : Nat) (p hard lo : Int) : rul d' l x y p hard lo = rul d l x y p hard lo := by
  unfold rul
  rw [he 4 (by decide) (by decide)]
  exact rulg_cg (fun f h1 h2 => he f h1 (by omega)) _ _ _ _ _ _ _ _
theorem fh_cg {d d' : Nat → Nat → Int} (he : ∀ f, 1 ≤ f → f ≤ 9 → d' f = d f) (n l : Nat) (hd lo : Int) : fh d' n l hd lo = fh d n l hd lo := by
  unfold fh
  rw [chg_cg fun f h1 h2 => he f h1 (by omega)]
theorem goL_cg {d d' : Nat → Nat → Int} (he : ∀ f, 1 ≤ f → f ≤ 9 → d' f = d f) {n l : Nat} {H H' : Nat → Int} {x : Nat} : ∀ {k}, (∀ q, q < k → H' q = H q) → goL d' n l H' x k = goL d n l H x k ∧ goC d' n l H' x k = goC d n l H x k
  | 0, _ => ⟨rfl, rfl⟩
  | k + 1, e => by
    obtain ⟨i1, i2⟩ := goL_cg he (n := n) (l := l) (x := x) (k := k) fun q hq => e q (by omega)
    rw [goL, goL, goC, goC, i1, i2, e k (by omega), fh_cg he, chg_cg fun f h1 h2 => he f h1 (by omega)]
    exact ⟨rfl, rfl⟩
noncomputable def MS (g : Int → Int) (M kc ku N G L Mr W : Nat) (d : Nat → Nat → Int) (t fo r : Nat) (h : Hp) : Prop := ZZ g M kc ku N d t h ∧ (d 0 3 = 2 ∧ d 0 4 = (fo : Nat)) ∧ (AG N d G h ∧ AL d fo L h ∧ AL d (1 - fo) Mr h ∧ AR N r W h) ∧ okRow N r ∧ (G < 10000 + ck h ∧ L < 10000 + ck h ∧ Mr < 10000 + ck h ∧ W < 10000 + ck h)
def CS (M N G L Mr W : Nat) : Prop := (2 ≤ N ∧ N ≤ 6) ∧ M ≤ 260 ∧ (10000 ≤ G ∧ 10000 ≤ L ∧ 10000 ≤ Mr ∧ 10000 ≤ W) ∧ G ≠ L ∧ G ≠ Mr ∧ G ≠ W ∧ L ≠ Mr ∧ L ≠ W ∧ Mr ≠ W
section MSS
variable {g : Int → Int} {M kc ku N G L Mr W : Nat} {d d' : Nat → Nat → Int} {t fo r : Nat} {h h1 : Hp} {P : Value → Hp → Prop}
theorem MS.z (a : MS g M kc ku N G L Mr W d t fo r h) : ZZ g M kc ku N d t h := a.1
theorem MS.x (a : MS g M kc ku N G L Mr W d t fo r h) : RX N d h := a.1.1.1
theorem MS.gb (a : MS g M kc ku N G L Mr W d t fo r h) : GB N d := a.x.1.2.2.2.2.1
theorem MS.lb (a : MS g M kc ku N G L Mr W d t fo r h) {l : Nat} (hl : l ≤ 1) : LB d l := (a.x.1.2.2.2.2.2.2.2 l (by have := a.2.1.1; omega)).2.2.1
theorem MS.ag (a : MS g M kc ku N G L Mr W d t fo r h) : AG N d G h := a.2.2.1.1
theorem MS.al (a : MS g M kc ku N G L Mr W d t fo r h) : AL d fo L h := a.2.2.1.2.1
theorem MS.ar (a : MS g M kc ku N G L Mr W d t fo r h) : AR N r W h := a.2.2.1.2.2.2
theorem MS.fo1 (a : MS g M kc ku N G L Mr W d t fo r h) : fo ≤ 1 := by
  have q := a.x.1.2.2.2.2.2.2.1
  have := a.2.1
  omega
theorem MS.lie (c : CS M N G L Mr W) (a : MS g M kc ku N G L Mr W d t fo r h) : 0 ≤ d 0 1 ∧ d 0 1 < (fct N : Nat) ∧ fct N ≤ 720 ∧ lies N = fct N := by
  have q := a.x.ln_ c.1.1
  have e : lies N = fct N := lies_pos c.1.1
  have f5 : fct N ≤ 720 := by
    have := c.1
    have : N = 2 ∨ N = 3 ∨ N = 4 ∨ N = 5 ∨ N = 6 := by omega
    rcases this with rfl | rfl | rfl | rfl | rfl <;> decide
  rw [e] at q
  exact ⟨q.1, q.2, f5, e⟩
/-- a call of the class that leaves box and laws -/
theorem MS.k (c : CS M N G L Mr W) (a : MS g M kc ku N G L Mr W d t fo r h) (k : KX N d' h h1) (e : ∀ f, 1 ≤ f → f ≤ 9 → d' f = d f) (e3 : d' 0 3 = d 0 3) (e4 : d' 0 4 = d 0 4) : MS g M kc ku N G L Mr W d' (t + 1) fo r h1 := by
  obtain ⟨a1, ⟨a2, a3⟩, ⟨b1, b2, b3, b4⟩, a4, p1, p2, p3, p4⟩ := a
  obtain ⟨-, -, ⟨c1, c2, c3, c4⟩, -⟩ := c
  have f : ∀ r, 10000 ≤ r → Gp h h1 r := fun r hr => k.2.1.p (X4_n (by omega))
  have cm := k.c
  exact ⟨a1.k k e3, ⟨e3.trans a2, e4.trans a3⟩, ⟨(b1.gp (f G c1)).cg e, (b2.gp (f L c2)).cg e, (b3.gp (f Mr c3)).cg e, b4.gp (f W c4)⟩, a4, by omega, by omega, by omega, by omega⟩
theorem MS.k0 (c : CS M N G L Mr W) (a : MS g M kc ku N G L Mr W d t fo r h) (k : KX N d h h1) : MS g M kc ku N G L Mr W d (t + 1) fo r h1 := a.k c k (fun _ _ _ => rfl) rfl rfl
/-- the law's row changes -/
theorem MS.w (c : CS M N G L Mr W) (a : MS g M kc ku N G L Mr W d t fo r h) {r' : Nat} (f : Fr (fun q => q == W) h h1) (ar : AR N r' W h1) (hr : okRow N r') : MS g M kc ku N G L Mr W d t fo r' h1 := by
  obtain ⟨a1, a2, ⟨b1, b2, b3, b4⟩, a4, p1, p2, p3, p4⟩ := a
  obtain ⟨-, -, ⟨c1, c2, c3, c4⟩, n1, n2, n3, n4, n5, n6⟩ := c
  have cm := f.c
  exact ⟨a1.o f c4, a2, ⟨b1.gp (f.gp1 n3), b2.gp (f.gp1 n5), b3.gp (f.gp1 n6), ar⟩, hr, by omega, by omega, by omega, by omega⟩
/-- another array of the law's changes -/
theorem MS.q (a : MS g M kc ku N G L Mr W d t fo r h) {Q : Nat} (f : Fr (fun q => q == Q) h h1) (hQ : 10000 ≤ Q ∧ G ≠ Q ∧ L ≠ Q ∧ Mr ≠ Q ∧ W ≠ Q) : MS g M kc ku N G L Mr W d t fo r h1 := by
  obtain ⟨a1, a2, ⟨b1, b2, b3, b4⟩, a4, p1, p2, p3, p4⟩ := a
  obtain ⟨q0, q1, q2, q3, q4⟩ := hQ
  have cm := f.c
  exact ⟨a1.o f q0, a2, ⟨b1.gp (f.gp1 q1), b2.gp (f.gp1 q2), b3.gp (f.gp1 q3), b4.gp (f.gp1 q4)⟩, a4, by omega, by omega, by omega, by omega⟩
theorem MS.nw (a : MS g M kc ku N G L Mr W d t fo r h) {c : Nat} (f : NW h h1 c) : MS g M kc ku N G L Mr W d (t + c) fo r h1 := by
  obtain ⟨a1, a2, ⟨b1, b2, b3, b4⟩, a4, p1, p2, p3, p4⟩ := a
  have cm := f.2.2.1.1
  exact ⟨a1.nw f, a2, ⟨b1.gp (f.1 _ p1), b2.gp (f.1 _ p2), b3.gp (f.1 _ p3), b4.gp (f.1 _ p4)⟩, a4, by omega, by omega, by omega, by omega⟩
end MSS
