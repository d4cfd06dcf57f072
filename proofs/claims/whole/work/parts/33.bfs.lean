/-! The search by length, then by rows: numbers only. 0 how far, 1 from where, 2 by what, 3 the queue, 4 how many. -/
abbrev St : Type := Nat → Nat → Int
def ini (x : Nat) : St := fun f i => if f = 0 then (if i = x then 0 else -1) else if f = 3 then (x : Nat) else if f = 4 then 1 else 0
def rch (s : St) (lie fr : Nat) (act : Int) : St := if 0 ≤ s 0 lie then s else fun f i => if f = 0 then (if i = lie then s 0 fr + 1 else s 0 i) else if f = 1 then (if i = lie then (fr : Nat) else s 1 i) else if f = 2 then (if i = lie then act else s 2 i) else if f = 3 then (if i = (s 4 0).toNat then (lie : Nat) else s 3 i) else s 4 0 + 1
def xpd (mv : Nat → Nat → Nat) (lie : Nat) : Nat → Nat → St → St
  | 0, _, s => s
  | k + 1, a, s => xpd mv lie k (a + 1) (rch s (mv a lie) lie (a : Nat))
def bfs (mv : Nat → Nat → Nat) (A : Nat) (goal most : Int) : Nat → Nat → St → St
  | 0, _, s => s
  | k + 1, f, s => if ((f : Nat) : Int) < s 4 0 then (if s 3 f = goal then s else if s 0 (s 3 f).toNat < most then bfs mv A goal most k (f + 1) (xpd mv (s 3 f).toNat A 1 s) else s) else s
def WF (m : Nat) (s : St) : Prop := (1 ≤ s 4 0 ∧ s 4 0 ≤ (m : Nat)) ∧ (∀ i : Nat, (i : Int) < s 4 0 → (0 ≤ s 3 i ∧ s 3 i < (m : Nat)) ∧ 0 ≤ s 0 (s 3 i).toNat ∧ s 0 (s 3 i).toNat ≤ (i : Nat)) ∧ (∀ a b : Nat, a < b → (b : Int) < s 4 0 → s 3 a ≠ s 3 b) ∧
  ∀ i : Nat, i < m → -1 ≤ s 0 i ∧ s 0 i < (m : Nat) ∧ (1 ≤ s 0 i → (0 ≤ s 1 i ∧ s 1 i < (m : Nat)) ∧ s 0 (s 1 i).toNat = s 0 i - 1 ∧ 1 ≤ s 2 i ∧ s 2 i ≤ 5)
def Ext (s t : St) : Prop := (∀ i, 0 ≤ s 0 i → t 0 i = s 0 i ∧ t 1 i = s 1 i ∧ t 2 i = s 2 i) ∧ s 4 0 ≤ t 4 0 ∧ ∀ i : Nat, (i : Int) < s 4 0 → t 3 i = s 3 i
theorem Ext.rf (s : St) : Ext s s := ⟨fun _ _ => ⟨rfl, rfl, rfl⟩, Int.le_refl _, fun _ _ => rfl⟩
theorem Ext.tr {s t u : St} (a : Ext s t) (b : Ext t u) : Ext s u := by
  refine ⟨fun i hi => ?_, Int.le_trans a.2.1 b.2.1, fun i hi => ?_⟩
  · obtain ⟨a1, a2, a3⟩ := a.1 i hi
    obtain ⟨b1, b2, b3⟩ := b.1 i (by omega)
    exact ⟨b1.trans a1, b2.trans a2, b3.trans a3⟩
  · rw [b.2.2 i (by have := a.2.1; omega), a.2.2 i hi]
theorem ini_wf {m x : Nat} (hx : x < m) : WF m (ini x) := by
  have e4 : ini x 4 0 = 1 := rfl
  have e3 : ∀ i, ini x 3 i = (x : Nat) := fun _ => rfl
  have e0 : ∀ i, ini x 0 i = if i = x then 0 else -1 := fun _ => rfl
  refine ⟨by rw [e4]; omega, fun i hi => ?_, fun a b h1 h2 => ?_, fun i hi => ?_⟩
  · rw [e4] at hi
    have : i = 0 := by omega
    subst this
    rw [e3, e0, if_pos (by omega)]
    omega
  · rw [e4] at h2; omega
  · rw [e0]
    split <;> omega
theorem rchY {s : St} {lie fr : Nat} {act : Int} (h : 0 ≤ s 0 lie) : rch s lie fr act = s := if_pos h
theorem rchN {s : St} {lie fr : Nat} {act : Int} (h : s 0 lie < 0) : (∀ i, rch s lie fr act 0 i = if i = lie then s 0 fr + 1 else s 0 i) ∧ (∀ i, rch s lie fr act 1 i = if i = lie then ((fr : Nat) : Int) else s 1 i) ∧ (∀ i, rch s lie fr act 2 i = if i = lie then act else s 2 i) ∧ (∀ i, rch s lie fr act 3 i = if i = (s 4 0).toNat then ((lie : Nat) : Int) else s 3 i) ∧ rch s lie fr act 4 0 = s 4 0 + 1 := by
  unfold rch
  rw [if_neg (by omega)]
  exact ⟨fun _ => rfl, fun _ => rfl, fun _ => rfl, fun _ => rfl, rfl⟩
theorem rch_ext (s : St) (lie fr : Nat) (act : Int) (h4 : 1 ≤ s 4 0) : Ext s (rch s lie fr act) := by
  by_cases h : 0 ≤ s 0 lie
  · rw [rchY h]; exact Ext.rf s
  · obtain ⟨r0, r1, r2, r3, r4⟩ := rchN (fr := fr) (act := act) (show s 0 lie < 0 by omega)
    refine ⟨fun i hi => ?_, by omega, fun i hi => ?_⟩
    · have hne : i ≠ lie := fun e => h (e ▸ hi)
      rw [r0, r1, r2, if_neg hne, if_neg hne, if_neg hne]
      exact ⟨rfl, rfl, rfl⟩
    · rw [r3, if_neg (by omega)]
theorem wf_room {m : Nat} {s : St} (w : WF m s) {lie : Nat} (hl : lie < m) (h : s 0 lie < 0) : s 4 0 + 1 ≤ (m : Nat) := by
  obtain ⟨w1, w2, w3, w4⟩ := w
  apply Classical.byContradiction
  intro hc
  have e : s 4 0 = (m : Nat) := by omega
  obtain ⟨a, b, p1, p2, p3⟩ := pigeon m (fun i => if i < m then (s 3 i).toNat else lie) (fun i hi => by
    show (if i < m then (s 3 i).toNat else lie) < m
    by_cases z : i < m
    · rw [if_pos z]; have := (w2 i (by omega)).1; omega
    · rw [if_neg z]; exact hl)
  have p3 : (if a < m then (s 3 a).toNat else lie) = (if b < m then (s 3 b).toNat else lie) := p3
  rw [if_pos (show a < m by omega)] at p3
  have qa := w2 a (by omega)
  by_cases z : b < m
  · rw [if_pos z] at p3
    have qb := w2 b (by omega)
    exact w3 a b p1 (by omega) (by omega)
  · rw [if_neg z] at p3
    rw [p3] at qa
    omega
theorem rch_wf {m : Nat} {s : St} (w : WF m s) {lie fr : Nat} {act : Int} (hl : lie < m) (hf : fr < m) (h0 : 0 ≤ s 0 fr) (h1 : s 0 fr + 1 ≤ s 4 0) (ha : 1 ≤ act ∧ act ≤ 5) : WF m (rch s lie fr act) := by
  by_cases h : 0 ≤ s 0 lie
  · rw [rchY h]; exact w
  · have hlt : s 0 lie < 0 := by omega
    have room := wf_room w hl hlt
    obtain ⟨r0, r1, r2, r3, r4⟩ := rchN (fr := fr) (act := act) hlt
    obtain ⟨w1, w2, w3, w4⟩ := w
    have hfl : fr ≠ lie := fun e => h (e ▸ h0)
    refine ⟨by rw [r4]; omega, fun i hi => ?_, fun a b q1 q2 => ?_, fun i hi => ?_⟩
    · rw [r4] at hi
      rw [r3]
      by_cases e : i = (s 4 0).toNat
      · rw [if_pos e, r0, if_pos (by omega)]
        omega
      · rw [if_neg e]
        obtain ⟨v1, v2, v3⟩ := w2 i (by omega)
        rw [r0, if_neg (fun z => by rw [z] at v2; omega)]
        exact ⟨v1, v2, v3⟩
    · rw [r4] at q2
      rw [r3, r3, if_neg (show ¬ a = (s 4 0).toNat by omega)]
      by_cases e : b = (s 4 0).toNat
      · rw [if_pos e]
        obtain ⟨v1, v2, v3⟩ := w2 a (by omega)
        intro z
        rw [z, show ((lie : Nat) : Int).toNat = lie from rfl] at v2
        omega
      · rw [if_neg e]
        exact w3 a b q1 (by omega)
    · obtain ⟨v1, v2, v3⟩ := w4 i hi
      rw [r0, r1, r2]
      by_cases e : i = lie
      · rw [if_pos e, if_pos e, if_pos e]
        refine ⟨by omega, by omega, fun _ => ⟨by omega, ?_, ha⟩⟩
        rw [r0, show ((fr : Nat) : Int).toNat = fr from rfl, if_neg hfl]
        omega
      · rw [if_neg e, if_neg e, if_neg e]
        refine ⟨v1, v2, fun z => ?_⟩
        obtain ⟨u1, u2, u3⟩ := v3 z
        refine ⟨u1, ?_, u3⟩
        rw [r0, if_neg (fun z2 => by rw [z2] at u2; omega)]
        exact u2
theorem xpd_wf {m : Nat} {mv : Nat → Nat → Nat} {lie : Nat} (hl : lie < m) (hm : ∀ a, 1 ≤ a → a ≤ 5 → mv a lie < m) : ∀ (k a : Nat) (s : St), 1 ≤ a → a + k ≤ 6 → WF m s → 0 ≤ s 0 lie → s 0 lie + 1 ≤ s 4 0 → WF m (xpd mv lie k a s) ∧ Ext s (xpd mv lie k a s)
  | 0, _, s, _, _, w, _, _ => ⟨w, Ext.rf s⟩
  | k + 1, a, s, ha, hk, w, h0, h1 => by
    have e := rch_ext s (mv a lie) lie (a : Nat) w.1.1
    have w1 := rch_wf w (hm a ha (by omega)) hl h0 h1 (act := (a : Nat)) (by omega)
    have e0 := (e.1 lie h0).1
    obtain ⟨g1, g2⟩ := xpd_wf hl hm k (a + 1) _ (by omega) (by omega) w1 (by omega) (by have := e.2.1; omega)
    exact ⟨g1, e.tr g2⟩
section BFS
variable {m A : Nat} {mv : Nat → Nat → Nat}
theorem bfs_wf (hA : A ≤ 5) (hm : ∀ a y, 1 ≤ a → a ≤ 5 → y < m → mv a y < m) {goal most : Int} : ∀ (k f : Nat) (s : St), WF m s → WF m (bfs mv A goal most k f s) ∧ Ext s (bfs mv A goal most k f s)
  | 0, _, s, w => ⟨w, Ext.rf s⟩
  | k + 1, f, s, w => by
    rw [bfs]
    by_cases q1 : ((f : Nat) : Int) < s 4 0
    · rw [if_pos q1]
      by_cases q2 : s 3 f = goal
      · rw [if_pos q2]; exact ⟨w, Ext.rf s⟩
      · rw [if_neg q2]
        by_cases q3 : s 0 (s 3 f).toNat < most
        · rw [if_pos q3]
          obtain ⟨v1, v2, v3⟩ := w.2.1 f q1
          obtain ⟨g1, g2⟩ := xpd_wf (mv := mv) (lie := (s 3 f).toNat) (by omega) (fun a h1 h2 => hm a _ h1 h2 (by omega)) A 1 s (by omega) (by omega) w v2 (by omega)
          obtain ⟨g3, g4⟩ := bfs_wf hA hm k (f + 1) _ g1
          exact ⟨g3, g2.tr g4⟩
        · rw [if_neg q3]; exact ⟨w, Ext.rf s⟩
    · rw [if_neg q1]; exact ⟨w, Ext.rf s⟩
theorem bfs_goal (hA : A ≤ 5) (hm5 : m ≤ 5040) (hm : ∀ a y, 1 ≤ a → a ≤ 5 → y < m → mv a y < m) {b : Nat} : ∀ (k f : Nat) (s : St), WF m s → f + k = m → bfs mv A (b : Nat) (m : Nat) k f s = bfs mv A (-9) 5040 k f s ∨ (0 ≤ bfs mv A (b : Nat) (m : Nat) k f s 0 b ∧ Ext (bfs mv A (b : Nat) (m : Nat) k f s) (bfs mv A (-9) 5040 k f s))
  | 0, _, _, _, _ => Or.inl rfl
  | k + 1, f, s, w, hf => by
    have hext := (bfs_wf (mv := mv) hA hm (goal := -9) (most := 5040) (k + 1) f s w).2
    rw [bfs] at hext ⊢
    rw [bfs]
    by_cases q1 : ((f : Nat) : Int) < s 4 0
    · obtain ⟨v1, v2, v3⟩ := w.2.1 f q1
      rw [if_pos q1] at hext ⊢
      rw [if_pos q1]
      rw [if_neg (show ¬ s 3 f = -9 by omega), if_pos (show s 0 (s 3 f).toNat < 5040 by omega)] at hext ⊢
      by_cases q2 : s 3 f = (b : Nat)
      · rw [if_pos q2]
        right
        rw [q2, show ((b : Nat) : Int).toNat = b from rfl] at v2
        exact ⟨v2, hext⟩
      · rw [if_neg q2, if_pos (show s 0 (s 3 f).toNat < (m : Nat) by omega)]
        obtain ⟨g1, g2⟩ := xpd_wf (mv := mv) (lie := (s 3 f).toNat) (by omega) (fun a h1 h2 => hm a _ h1 h2 (by omega)) A 1 s (by omega) (by omega) w v2 (by omega)
        exact bfs_goal hA hm5 hm k (f + 1) _ g1 (by omega)
    · rw [if_neg q1, if_neg q1]; exact Or.inl rfl
end BFS
def pth (s : St) : Nat → Nat → Nat
  | 0, y => y
  | k + 1, y => pth s k (s 1 y).toNat
def stA (s : St) (lie : Nat) (q : Int) : Int := if q < s 0 lie then s 2 (pth s (s 0 lie - 1 - q).toNat lie) else -9
theorem pth_ext {m : Nat} {s t : St} (w : WF m s) (e : Ext s t) : ∀ (k y : Nat), y < m → (k : Int) ≤ s 0 y → pth t k y = pth s k y ∧ pth s k y < m ∧ s 0 (pth s k y) = s 0 y - k
  | 0, y, hy, _ => ⟨rfl, hy, by show s 0 y = s 0 y - 0; omega⟩
  | k + 1, y, hy, hk => by
    obtain ⟨u1, u2, u3⟩ := (w.2.2.2 y hy).2.2 (by omega)
    have e1 := (e.1 y (by omega)).2.1
    obtain ⟨g1, g2, g3⟩ := pth_ext w e k (s 1 y).toNat (by omega) (by omega)
    rw [pth, pth, e1]
    exact ⟨g1, g2, by rw [g3, u2]; omega⟩
theorem stA_ext {m : Nat} {s t : St} (w : WF m s) (e : Ext s t) {b : Nat} {q : Int} (hb : b < m) (h0 : 0 ≤ s 0 b) (hq : 0 ≤ q) : stA t b q = stA s b q := by
  unfold stA
  rw [(e.1 b h0).1]
  by_cases c : q < s 0 b
  · rw [if_pos c, if_pos c]
    obtain ⟨g1, g2, g3⟩ := pth_ext w e (s 0 b - 1 - q).toNat b hb (by omega)
    rw [g1, (e.1 _ (by omega)).2.2]
  · rw [if_neg c, if_neg c]
/-- the first of the greatest -/
def bst (V : Nat → Int) (Q : Nat → Nat) : Nat → Nat → Nat → Nat
  | 0, _, b => b
  | k + 1, f, b => if V b < V (Q f) then bst V Q k (f + 1) (Q f) else bst V Q k (f + 1) b
noncomputable def mvf (n : Nat) (d : Nat → Nat → Int) (l a lie : Nat) : Nat := if a = 4 then trl n lie else if a = 5 then spl n lie else fh d n l (a : Nat) (-9) lie
theorem trl_lt {n lie : Nat} (hn : 2 ≤ n ∧ n ≤ 7) (hl : lie < fct n) : trl n lie < fct n := ((show okRow n (rw_ n lie) from ⟨lie, hl, rfl⟩).step hn).2.1.cl hn |>.1
theorem spl_lt {n lie : Nat} (hn : 2 ≤ n ∧ n ≤ 7) (hl : lie < fct n) : spl n lie < fct n := ((show okRow n (rw_ n lie) from ⟨lie, hl, rfl⟩).step hn).2.2.cl hn |>.1
theorem mvf_lt {n : Nat} {d : Nat → Nat → Int} {l : Nat} (hn : 2 ≤ n ∧ n ≤ 7) : ∀ a y, 1 ≤ a → a ≤ 5 → y < fct n → mvf n d l a y < fct n := by
  intro a y _ _ hy
  unfold mvf
  split
  · exact trl_lt hn hy
  · split
    · exact spl_lt hn hy
    · exact fh_lt hn y hy
noncomputable def planS (n : Nat) (d : Nat → Nat → Int) (k : Int) : St := bfs (mvf n d (d 0 4).toNat) 3 (-9) k (fct n) 0 (ini (d 0 1).toNat)
noncomputable def planB (n : Nat) (d : Nat → Nat → Int) (aim k : Int) : Nat := bst (fun y => valA n d y aim) (fun i => (planS n d k 3 i).toNat) (planS n d k 4 0 - 1).toNat 1 (d 0 1).toNat
noncomputable def planA (n : Nat) (d : Nat → Nat → Int) (aim k q : Int) : Int := if aim < 0 ∨ 1 < aim ∨ k < 0 ∨ 9 < k then -2 else if q < -2 ∨ 9 ≤ q then -1 else if n = 0 ∨ d 0 3 = 0 then -3 else if q = -1 then valA n d (planB n d aim k) aim else if q = -2 then planS n d k 0 (planB n d aim k) else stA (planS n d k) (planB n d aim k) q
noncomputable def wayS (n : Nat) (d : Nat → Nat → Int) (a : Int) : St := bfs (mvf n d (d 0 4).toNat) 5 (-9) 5040 (fct n) 0 (ini a.toNat)
noncomputable def wayA (n : Nat) (d : Nat → Nat → Int) (a b q : Int) : Int := if a < 0 ∨ (lies n : Int) ≤ a ∨ b < 0 ∨ (lies n : Int) ≤ b ∨ q < -1 then -1 else if d 0 3 = 0 then -3 else if wayS n d a 0 b.toNat < 0 then -9 else if q = -1 then wayS n d a 0 b.toNat else stA (wayS n d a) b.toNat q
