/-! A smaller machine over roles: what the methods of the class, of the reference and of the law do, without the tables. -/
/-- tags, lengths, numbers, links, how many cells and slots were made -/
abbrev Hp : Type := (Nat → Nat) × (Nat → Nat) × (Nat → Int → Int) × (Nat → Nat → Bool) × Nat × Nat
abbrev Rs : Type := Option (Value × Hp)
def tg (h : Hp) (r : Nat) : Nat := h.1 r
def ln (h : Hp) (r : Nat) : Nat := h.2.1 r
def iv (h : Hp) (r : Nat) (k : Int) : Int := h.2.2.1 r k
def I (z : Int) : Int32 := Int32.ofInt z
def fl (h : Hp) (r k : Nat) : Bool := h.2.2.2.1 r k
def up1 {α : Type} (f : Nat → α) (r : Nat) (v : α) : Nat → α := fun q => if q = r then v else f q
def up2 {κ α : Type} [DecidableEq κ] (f : Nat → κ → α) (r : Nat) (k : κ) (v : α) : Nat → κ → α := fun q j => if q = r ∧ j = k then v else f q j
def setI (h : Hp) (r : Nat) (k v : Int) : Hp := (h.1, h.2.1, up2 h.2.2.1 r k v, h.2.2.2)
def setR (h : Hp) (r : Nat) (f : Int → Int) : Hp := (h.1, h.2.1, up1 h.2.2.1 r f, h.2.2.2)
def setF (h : Hp) (r k : Nat) : Hp := (h.1, h.2.1, h.2.2.1, up2 h.2.2.2.1 r k true, h.2.2.2.2)
/-- a new cell in the role q: its tag, its length, how many slots -/
def mk (h : Hp) (q t n u : Nat) : Hp := (up1 h.1 q t, up1 h.2.1 q n, up1 h.2.2.1 q (fun _ => 0), up1 h.2.2.2.1 q (fun _ => false), h.2.2.2.2.1 + 1, h.2.2.2.2.2 + u)
/-- what has the role q comes to the role c, the slot k of r holds it -/
def mov (h : Hp) (r k c q : Nat) : Hp := (up1 (up1 h.1 c (h.1 q)) q 0, up1 h.2.1 c (h.2.1 q), up1 h.2.2.1 c (h.2.2.1 q), up2 (up1 h.2.2.2.1 c (fun _ => false)) r k true, h.2.2.2.2)
/-- the role of what the slot k of the role r can hold -/
def child (r k : Nat) : Nat :=
  if r = 0 then (if k = 0 then 1 else if k = 1 then 4 else if k = 6 then 5 else if k = 7 then 6 else if k = 9 then 7 else if k = 10 then 16 else if k = 12 then 17 else if k = 13 then 19 else if k = 14 then 24 else if k = 15 then 25 else if k = 16 then 26 else 9999)
  else if r = 1 then (if k = 0 then 2 else if k = 4 then 3 else 9999)
  else if r = 2 then (if k < 7 then 30 + k else 9999)
  else if r = 4 then (if k < 4 then 64 * (k + 1) else 9999)
  else if r = 7 then (if k < 4 then 8 + k else 9999)
  else if 8 ≤ r ∧ r < 12 then (if k = 0 then r + 4 else 9999)
  else if r = 17 then (if k = 0 then 18 else 9999)
  else if r = 19 then (if k < 4 then 20 + k else 9999)
  else if r = 400 then (if k < 37 then 401 + k else 9999)
  else if 64 ≤ r ∧ r < 320 then
    (if r % 64 = 0 then (if k < 2 then r + 1 + k else 9999)
     else if r % 64 = 1 then (if k < 6 then r + 2 + k else 9999)
     else if r % 64 = 2 then (if k < 3 then r + 14 + 4 * k else 9999)
     else if r % 64 = 16 ∨ r % 64 = 20 ∨ r % 64 = 24 then (if k = 0 then r + 1 else if k = 1 then r + 3 else 9999)
     else if r % 64 = 17 ∨ r % 64 = 21 ∨ r % 64 = 25 then (if k = 0 then r + 1 else 9999)
     else 9999)
  else 9999
/-- roles whose cell can become another one -/
def gw (r : Nat) : Bool := r == 3 || (20 ≤ r && r ≤ 26) || (30 ≤ r && r ≤ 38) || (64 ≤ r && r < 320 && (r % 64 == 19 || r % 64 == 23 || r % 64 == 27))
def rfv : Value → Nat
  | .ref r => r
  | _ => 9999
def itv : Value → Nat
  | .int x => x.toInt.toNat
  | _ => 9999
def gt (ls : List Value) (k : Nat) : Value := (ls[k]?).getD (.retAddr 0)
/-- the role of what is made at a place of a method -/
def site (m pc : Nat) (ls : List Value) (h : Hp) : Nat :=
  if m = 0 then (match pc with | 5 => 1 | 17 => 4 | 26 => 5 | 34 => 6 | 41 => 7 | 48 => 16 | 59 => 17 | 70 => 19 | 82 => 24 | 89 => 25 | 96 => 26 | _ => 8 + itv (gt ls 1))
  else if m = 2 then (match pc with | 7 => 2 | _ => 3)
  else if m = 4 then rfv (gt ls 0) + 1
  else if m = 5 then (match pc with | 6 => 20 | 13 => 21 | 20 => 22 | _ => 23)
  else if m = 6 then rfv (gt ls 0) + 4
  else if m = 17 then 37
  else if m = 23 then 38
  else if m = 40 then 64 * ((iv h 0 2).toNat + 1)
  else if m = 44 then (match pc with | 6 => rfv (gt ls 0) + 2 | 18 => rfv (gt ls 0) + 1 | 51 => rfv (gt ls 0) + 3 + itv (gt ls 4) | _ => rfv (gt ls 0) + 16 + 4 * itv (gt ls 4))
  else if m = 46 then (match pc with | 5 => rfv (gt ls 0) + 1 | _ => rfv (gt ls 0) + 3)
  else if m = 99 then (match pc with | 0 => 0 | _ => 10000 + h.2.2.2.2.1)
  else if m = 97 ∨ m = 98 then 10000 + h.2.2.2.2.1
  else 9999
def isI : Value → Bool
  | .int _ => true
  | _ => false
def isJ : Value → Bool
  | .long _ => true
  | _ => false
def isL (v : Value) : Bool := v.category == 2
def isR : Value → Bool
  | .ref _ => true
  | .null => true
  | _ => false
/-- no reference to a role whose cell can become another one -/
def ngv : Value → Bool
  | .ref r => !gw r
  | _ => true
def ng (l : List Value) : Bool := l.all ngv
/-- no longs stand in its locals; what is laid into a local takes one place; the one ahead holds no long -/
def nol (m : Nat) : Bool := !(m == 999)
def okst (m : Nat) (ls : List Value) (k : Nat) : Bool := decide (k < ls.length) && (nol m || k == 0 || !isL (gt ls (k - 1)))
def tagok (ci t : Nat) : Bool := t == ci + 1 || (ci == 2 && (t == 5 || t == 7))
def elok (t q : Nat) : Bool := (t == 21 && (q == 3 || q == 5 || q == 7)) || ((t == 22 || t == 23 || t == 24 || t == 25) && q == aCls t + 1)
/-- a field may be written in the method -/
def pok (m ci k : Nat) : Bool := !((cT ci k).2.2.2) || (decide ((mt m).2.1 = "<init>") && decide ((cT ci k).1 = on (mO m)))
def okc (m y : Nat) : Bool := decide (mF y + 1 ≤ mF m) && decide (8 + (mL y + 11) + mLc y ≤ mLc m) && decide (y < 99) && y != 1
def bz (x : Int32) : Bool := x == 0 || x == 1
def inr (i : Int32) (n : Nat) : Bool := decide (0 ≤ i.toInt) && decide (i.toInt < n)
def lay : List Value → List Value
  | [] => []
  | v :: l => if isL v then v :: .retAddr 0 :: lay l else v :: lay l
def ent (y : Nat) (a : List Value) : List Value := lay a ++ List.replicate (mL y - (lay a).length) (.retAddr 0)
def cpy (f g : Int → Int) (sp dp n : Int) : Int → Int := fun k => if dp ≤ k ∧ k < dp + n then f (sp + (k - dp)) else g k
abbrev Go : Type := Nat → List Value → List Value → Hp → Rs
def gd (b : Bool) (r : Rs) : Rs := if b = true then r else none
def i1 (st : List Value) (f : Int32 → List Value → Rs) : Rs := match st with
  | .int x :: s => f x s
  | _ => none
def i2 (st : List Value) (f : Int32 → Int32 → List Value → Rs) : Rs := match st with
  | .int y :: .int x :: s => f x y s
  | _ => none
def l1 (st : List Value) (f : Int64 → List Value → Rs) : Rs := match st with
  | .long x :: s => f x s
  | _ => none
def l2 (st : List Value) (f : Int64 → Int64 → List Value → Rs) : Rs := match st with
  | .long y :: .long x :: s => f x y s
  | _ => none
def r1 (st : List Value) (f : Nat → List Value → Rs) : Rs := match st with
  | .ref r :: s => f r s
  | _ => none
def ri (st : List Value) (f : Nat → Int32 → List Value → Rs) : Rs := match st with
  | .int i :: .ref r :: s => f r i s
  | _ => none
def rii (st : List Value) (f : Nat → Int32 → Int32 → List Value → Rs) : Rs := match st with
  | .int x :: .int i :: .ref r :: s => f r i x s
  | _ => none
def rir (st : List Value) (f : Nat → Int32 → Nat → List Value → Rs) : Rs := match st with
  | .ref q :: .int i :: .ref r :: s => f r i q s
  | _ => none
def v1 (st : List Value) (f : Value → List Value → Rs) : Rs := match st with
  | v :: s => f v s
  | _ => none
def jmp (pc : Nat) (off : Int) (go : Nat → Rs) : Rs := gd (decide (0 ≤ (pc : Int) + off)) (go ((pc : Int) + off).toNat)
def cnd (c : Jvm.ClassFile.Cond) (x y : Int32) : Prop := match c with
  | .eq => x = y
  | .ne => ¬ x = y
  | .lt => x < y
  | .ge => y ≤ x
  | .gt => y < x
  | .le => x ≤ y
def brn (c : Jvm.ClassFile.Cond) (x y : Int32) (a b : Rs) : Rs := match c with
  | .eq => if x = y then a else b
  | .ne => if x = y then b else a
  | .lt => if x < y then a else b
  | .ge => if x < y then b else a
  | .gt => if y < x then a else b
  | .le => if y < x then b else a
/-- the first n of a stack, as arguments -/
def takeA (n : Nat) (st : List Value) : List Value := (st.take n).reverse
def okT (h : Hp) : Value → Bool
  | .ref r => h.1 r != 0
  | _ => true
/-- behind a call -/
def back (y : Nat) (v : Value) (st : List Value) : List Value := if mR y = none then st else v :: st
def cll (m pc y : Nat) (ls st : List Value) (h : Hp) (go : Go) (call : Nat → List Value → Hp → Rs) (a : List Value) : Rs :=
  gd (okc m y && decide (st.length ≤ 4) && (!nol y || a.all (fun v => !isL v)) && decide ((lay a).length ≤ mL y) && (!mv y || (mv m && ng ls && ng st))) (match call y a h with
    | some (v, h') => go (pc + 3) ls (back y v st) h'
    | none => none)
def onobj (y : Nat) (st : List Value) (f : Nat → List Value → List Value → Rs) : Rs := r1 (st.drop (mA y)) (fun r s => gd (decide (mA y ≤ st.length)) (f r (takeA (mA y) st) s))
def stp (m pc len : Nat) (ls st : List Value) (h : Hp) (go : Go) (call : Nat → List Value → Hp → Rs) (i : Instr) : Rs :=
  match i with
  | .iconst n => go (pc + len) ls (.int (Int32.ofInt n) :: st) h
  | .bipush n => go (pc + len) ls (.int ((Int8.ofInt n).toInt32) :: st) h
  | .sipush n => go (pc + len) ls (.int ((Int16.ofInt n).toInt32) :: st) h
  | .lconst n => go (pc + len) ls (.long (Int64.ofNat (n : Nat)) :: st) h
  | .aconst_null => go (pc + len) ls (.null :: st) h
  | .ldc i => (match ldct (mO m) i with
    | some v => go (pc + len) ls (.int v :: st) h
    | none => none)
  | .ldc_w i => (match ldct (mO m) i with
    | some v => go (pc + len) ls (.int v :: st) h
    | none => none)
  | .ldc2_w i => (match ld2t (mO m) i with
    | some v => go (pc + len) ls (.long v :: st) h
    | none => none)
  | .iload k => gd (isI (gt ls k)) (go (pc + len) ls (gt ls k :: st) h)
  | .iload_n k => gd (isI (gt ls (k : Nat))) (go (pc + len) ls (gt ls (k : Nat) :: st) h)
  | .lload k => gd (isJ (gt ls k)) (go (pc + len) ls (gt ls k :: st) h)
  | .lload_n k => gd (isJ (gt ls (k : Nat))) (go (pc + len) ls (gt ls (k : Nat) :: st) h)
  | .aload k => gd (isR (gt ls k)) (go (pc + len) ls (gt ls k :: st) h)
  | .aload_n k => gd (isR (gt ls (k : Nat))) (go (pc + len) ls (gt ls (k : Nat) :: st) h)
  | .istore k => i1 st fun x s => gd (okst m ls k) (go (pc + len) (ls.set k (.int x)) s h)
  | .istore_n k => i1 st fun x s => gd (okst m ls k) (go (pc + len) (ls.set k (.int x)) s h)
  | .astore k => v1 st fun v s => gd (isR v && okst m ls k) (go (pc + len) (ls.set k v) s h)
  | .astore_n k => v1 st fun v s => gd (isR v && okst m ls k) (go (pc + len) (ls.set k v) s h)
  | .lstore k => l1 st fun x s => gd (!nol m && okst m ls k && decide (k + 1 < ls.length)) (go (pc + len) ((ls.set k (.long x)).set (k + 1) (.retAddr 0)) s h)
  | .lstore_n k => l1 st fun x s => gd (!nol m && okst m ls k && decide ((k : Nat) + 1 < ls.length)) (go (pc + len) ((ls.set k (.long x)).set (k + 1) (.retAddr 0)) s h)
  | .iinc k c => (match gt ls k with
    | .int x => gd (okst m ls k) (go (pc + len) (ls.set k (.int (x + Int32.ofInt c))) st h)
    | _ => none)
  | .iadd => i2 st fun x y s => go (pc + len) ls (.int (x + y) :: s) h
  | .isub => i2 st fun x y s => go (pc + len) ls (.int (x - y) :: s) h
  | .imul => i2 st fun x y s => go (pc + len) ls (.int (x * y) :: s) h
  | .idiv => i2 st fun x y s => gd (y != 0) (go (pc + len) ls (.int (x / y) :: s) h)
  | .irem => i2 st fun x y s => gd (y != 0) (go (pc + len) ls (.int (x % y) :: s) h)
  | .ineg => i1 st fun x s => go (pc + len) ls (.int (-x) :: s) h
  | .ishl => i2 st fun x y s => go (pc + len) ls (.int (x <<< (y &&& 31)) :: s) h
  | .ishr => i2 st fun x y s => go (pc + len) ls (.int (x >>> (y &&& 31)) :: s) h
  | .iushr => i2 st fun x y s => go (pc + len) ls (.int ((x.toUInt32 >>> (y.toUInt32 &&& Int32.toUInt32 31)).toInt32) :: s) h
  | .iand => i2 st fun x y s => go (pc + len) ls (.int (x &&& y) :: s) h
  | .ior => i2 st fun x y s => go (pc + len) ls (.int (x ||| y) :: s) h
  | .ixor => i2 st fun x y s => go (pc + len) ls (.int (x ^^^ y) :: s) h
  | .i2l => i1 st fun x s => go (pc + len) ls (.long x.toInt64 :: s) h
  | .i2b => i1 st fun x s => go (pc + len) ls (.int x.toInt8.toInt32 :: s) h
  | .i2s => i1 st fun x s => go (pc + len) ls (.int x.toInt16.toInt32 :: s) h
  | .ldiv => l2 st fun x y s => gd (y != 0) (go (pc + len) ls (.long (x / y) :: s) h)
  | .lrem => l2 st fun x y s => gd (y != 0) (go (pc + len) ls (.long (x % y) :: s) h)
  | .lcmp => l2 st fun x y s => go (pc + len) ls (.int (lg_cmp x y) :: s) h
  | .pop => v1 st fun v s => gd (!isL v && (isI v || isR v)) (go (pc + len) ls s h)
  | .dup => v1 st fun v s => gd (!isL v && (isI v || isR v)) (go (pc + len) ls (v :: v :: s) h)
  | .dup2 => v1 st fun v s => v1 s fun w s => gd (!isL v && (isI v || isR v) && (!isL w && (isI w || isR w))) (go (pc + len) ls (v :: w :: v :: w :: s) h)
  | .goto off => jmp pc off fun t => go t ls st h
  | .ifCond c off => i1 st fun x s => gd (decide (0 ≤ (pc : Int) + off)) (brn c x 0 (go ((pc : Int) + off).toNat ls s h) (go (pc + len) ls s h))
  | .if_icmp c off => i2 st fun x y s => gd (decide (0 ≤ (pc : Int) + off)) (brn c x y (go ((pc : Int) + off).toNat ls s h) (go (pc + len) ls s h))
  | .ifnull off => (match st with
    | .null :: s => jmp pc off fun t => go t ls s h
    | .ref _ :: s => go (pc + len) ls s h
    | _ => none)
  | .ifnonnull off => (match st with
    | .null :: s => go (pc + len) ls s h
    | .ref _ :: s => jmp pc off fun t => go t ls s h
    | _ => none)
  | .tableswitch d lo hi offs => i1 st fun x s => if x.toInt < lo ∨ hi < x.toInt then jmp pc d fun t => go t ls s h else (match offs[(x.toInt - lo).toNat]? with
    | some off => jmp pc off fun t => go t ls s h
    | none => none)
  | .lookupswitch d ps => i1 st fun x s => gd ((ps.toList.zip (ps.toList.drop 1)).all (fun (a, next) => a.1 < next.1)) (jmp pc (Op.lookupswitch.offset ps.toList d x.toInt) fun t => go t ls s h)
  | .getfield j => (match fld (mO m) j with
    | some (ci, k) => r1 st fun r s => gd (tagok ci (tg h r)) (if rfs ci k = true then gd (fl h r k && tg h (child r k) != 0) (go (pc + len) ls (.ref (child r k) :: s) h) else go (pc + len) ls (.int (I (iv h r (k : Nat))) :: s) h)
    | none => none)
  | .putfield j => (match fld (mO m) j with
    | some (ci, k) => gd (pok m ci k) (match st with
      | .int x :: .ref r :: s => gd (tagok ci (tg h r) && !rfs ci k && (cTy ci k == .int || bz x)) (go (pc + len) ls s (setI h r (k : Nat) x.toInt))
      | .ref q :: .ref r :: s => gd (tagok ci (tg h r) && rfs ci k) (if q = child r k then go (pc + len) ls s (setF h r k) else gd (mv m && q == 38 && gw (child r k) && !gw r && decide (child r k < 37 ∨ 38 < child r k) && tg h 38 == 20 && ng ls && ng s) (go (pc + len) ls s (mov h r k (child r k) q)))
      | _ => none)
    | none => none)
  | .getstatic j => (match stf (mO m) j with
    | some r => gd (tg h r == 30) (go (pc + len) ls (.ref r :: st) h)
    | none => none)
  | .iaload => ri st fun r i s => gd ((tg h r == 20 || tg h r == 30) && inr i (ln h r)) (go (pc + len) ls (.int (I (iv h r i.toInt)) :: s) h)
  | .iastore => rii st fun r i x s => gd (tg h r == 20 && inr i (ln h r)) (go (pc + len) ls s (setI h r i.toInt x.toInt))
  | .aaload => ri st fun r i s => gd (decide (21 ≤ tg h r) && decide (tg h r ≤ 25) && inr i (ln h r) && fl h r i.toInt.toNat && tg h (child r i.toInt.toNat) != 0) (go (pc + len) ls (.ref (child r i.toInt.toNat) :: s) h)
  | .aastore => rir st fun r i q s => gd (elok (tg h r) (tg h q) && inr i (ln h r)) (if q = child r i.toInt.toNat then go (pc + len) ls s (setF h r i.toInt.toNat) else gd (tg h r == 21 && mv m && q == 37 && gw (child r i.toInt.toNat) && !gw r && decide (child r i.toInt.toNat < 37) && ng ls && ng s) (go (pc + len) ls s (mov h r i.toInt.toNat (child r i.toInt.toNat) q)))
  | .arraylength => r1 st fun r s => gd (decide (20 ≤ tg h r) && decide (tg h r ≤ 25) || tg h r == 30) (go (pc + len) ls (.int (Int32.ofNat (ln h r)) :: s) h)
  | .new j => (match newt (mO m) j with
    | some ci => gd (mv m && tg h (site m pc ls h) == 0 && decide (site m pc ls h < 500 ∨ 10000 ≤ site m pc ls h)) (go (pc + len) ls (.ref (site m pc ls h) :: st) (mk h (site m pc ls h) (ci + 1) 0 (cSz ci)))
    | none => none)
  | .newarray t => i1 st fun x s => gd (mv m && t == .int && decide (0 ≤ x.toInt) && decide (x.toInt < 1000000) && tg h (site m pc ls h) == 0 && decide (site m pc ls h < 500 ∨ 10000 ≤ site m pc ls h)) (go (pc + len) ls (.ref (site m pc ls h) :: s) (mk h (site m pc ls h) 20 x.toInt.toNat x.toInt.toNat))
  | .anewarray j => (match anwt (mO m) j with
    | some t => i1 st fun x s => gd (mv m && decide (0 ≤ x.toInt) && decide (x.toInt < 1000000) && tg h (site m pc ls h) == 0 && decide (site m pc ls h < 500 ∨ 10000 ≤ site m pc ls h)) (go (pc + len) ls (.ref (site m pc ls h) :: s) (mk h (site m pc ls h) t x.toInt.toNat x.toInt.toNat))
    | none => none)
  | .invokestatic j => (match cal (mO m) j with
    | some (0, y) => gd (decide (mA y ≤ st.length)) (cll m pc y ls (st.drop (mA y)) h go call (takeA (mA y) st))
    | some (3, y) => gd (decide (mA y ≤ st.length)) (cll m pc y ls (st.drop (mA y)) h go call (takeA (mA y) st))
    | _ => none)
  | .invokespecial j => (match cal (mO m) j with
    | some (8, _) => r1 st fun _ s => gd (decide (1 ≤ mF m) && decide (20 ≤ mLc m) && decide (s.length ≤ 4)) (go (pc + 3) ls s h)
    | some (2, y) => onobj y st fun r a s => cll m pc y ls s h go call (.ref r :: a)
    | some (4, y) => onobj y st fun r a s => cll m pc y ls s h go call (.ref r :: a)
    | some (6, y) => onobj y st fun r a s => gd (tg h r == mO m + 1) (cll m pc y ls s h go call (.ref r :: a))
    | _ => none)
  | .invokevirtual j => (match cal (mO m) j with
    | some (1, y) => onobj y st fun r a s => gd (tg h r == mO y + 1) (cll m pc y ls s h go call (.ref r :: a))
    | some (5, y) => onobj y st fun r a s => (match vir (mO m) j (tg h r) with
      | some z => cll m pc z ls s h go call (.ref r :: a)
      | none => none)
    | _ => none)
  | .ireturn => (match st with
    | [.int x] => gd (mR m == some .int || (mR m == some .boolean && bz x)) (some (.int x, h))
    | _ => none)
  | .lreturn => (match st with
    | [.long x] => gd (mR m == some .long) (some (.long x, h))
    | _ => none)
  | .areturn => (match st with
    | [v] => gd (isR v && (match mR m with
      | some (.object _) => true
      | some (.array _) => true
      | _ => false)) (some (v, h))
    | _ => none)
  | .return_ => (match st with
    | [] => gd (mR m == none) (some (.null, h))
    | _ => none)
  | _ => none
def okl (i : Instr) (len : Nat) : Bool := match i with
  | .tableswitch .. => true
  | .lookupswitch .. => true
  | .bipush _ => len == 2
  | .ldc _ => len == 2
  | .iload _ => len == 2
  | .lload _ => len == 2
  | .aload _ => len == 2
  | .istore _ => len == 2
  | .lstore _ => len == 2
  | .astore _ => len == 2
  | .newarray _ => len == 2
  | .sipush _ => len == 3
  | .ldc_w _ => len == 3
  | .ldc2_w _ => len == 3
  | .iinc _ _ => len == 3
  | .ifCond _ _ => len == 3
  | .if_icmp _ _ => len == 3
  | .goto _ => len == 3
  | .ifnull _ => len == 3
  | .ifnonnull _ => len == 3
  | .getfield _ => len == 3
  | .putfield _ => len == 3
  | .getstatic _ => len == 3
  | .new _ => len == 3
  | .anewarray _ => len == 3
  | .invokestatic _ => len == 3
  | .invokespecial _ => len == 3
  | .invokevirtual _ => len == 3
  | _ => len == 1
def exec : Nat → Nat → Nat → List Value → List Value → Hp → Rs
  | 0, _, _, _, _, _ => none
  | n + 1, m, pc, ls, st, h => match decode (mB m) pc with
    | .ok (i, len) => gd (okl i len) (stp m pc len ls st h (exec n m) (fun y a h' => exec n y 0 (ent y a) [] h') i)
    | .error _ => none
