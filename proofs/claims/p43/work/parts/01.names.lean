-- ===== PART A: goes FIRST, ahead of the names: the tables' words, and 'selects' of the private methods out of them =====
/-- a private method of a class that the tables say can be made, by its rows of tables_1 -/
def lw_okq (q : MethodName × Nat) : Prop := (q.1.cls ≠ "java/lang/invoke/MethodHandle" ∧ q.1.cls ≠ "java/lang/invoke/VarHandle") ∧ Cond.instantiable q.1.cls q.2 ∈ tables_1 ∧ Cond.privateMethod q.1 ∈ tables_1 ∧ Cond.instanceMethod q.1 ∈ tables_1
theorem lw_p0 : lw_okq (⟨"NutsUp", "refusalOfCells", "(IIII)I"⟩, 17) := ⟨⟨by decide +kernel, by decide +kernel⟩, List.mem_of_getElem? (i := 17) (by decide +kernel), List.mem_of_getElem? (i := 183) (by decide +kernel), List.mem_of_getElem? (i := 184) (by decide +kernel)⟩
theorem lw_p1 : lw_okq (⟨"NutsUp", "faulted", "(I)I"⟩, 17) := ⟨⟨by decide +kernel, by decide +kernel⟩, List.mem_of_getElem? (i := 17) (by decide +kernel), List.mem_of_getElem? (i := 193) (by decide +kernel), List.mem_of_getElem? (i := 194) (by decide +kernel)⟩
theorem lw_p2 : lw_okq (⟨"NutsUp", "widenRows", "()V"⟩, 17) := ⟨⟨by decide +kernel, by decide +kernel⟩, List.mem_of_getElem? (i := 17) (by decide +kernel), List.mem_of_getElem? (i := 288) (by decide +kernel), List.mem_of_getElem? (i := 289) (by decide +kernel)⟩
theorem lw_p3 : lw_okq (⟨"NutsUp", "noGrain", "(I)Z"⟩, 17) := ⟨⟨by decide +kernel, by decide +kernel⟩, List.mem_of_getElem? (i := 17) (by decide +kernel), List.mem_of_getElem? (i := 302) (by decide +kernel), List.mem_of_getElem? (i := 303) (by decide +kernel)⟩
theorem lw_p4 : lw_okq (⟨"NutsUp$Box", "madeRow", "(I)I"⟩, 5) := ⟨⟨by decide +kernel, by decide +kernel⟩, List.mem_of_getElem? (i := 25) (by decide +kernel), List.mem_of_getElem? (i := 310) (by decide +kernel), List.mem_of_getElem? (i := 311) (by decide +kernel)⟩
theorem lw_p5 : lw_okq (⟨"NutsUp", "noPlace", "(I)Z"⟩, 17) := ⟨⟨by decide +kernel, by decide +kernel⟩, List.mem_of_getElem? (i := 17) (by decide +kernel), List.mem_of_getElem? (i := 326) (by decide +kernel), List.mem_of_getElem? (i := 327) (by decide +kernel)⟩
theorem lw_p6 : lw_okq (⟨"NutsUp", "noBox", "()Z"⟩, 17) := ⟨⟨by decide +kernel, by decide +kernel⟩, List.mem_of_getElem? (i := 17) (by decide +kernel), List.mem_of_getElem? (i := 335) (by decide +kernel), List.mem_of_getElem? (i := 336) (by decide +kernel)⟩
theorem lw_p7 : lw_okq (⟨"NutsUp", "noLie", "(I)Z"⟩, 17) := ⟨⟨by decide +kernel, by decide +kernel⟩, List.mem_of_getElem? (i := 17) (by decide +kernel), List.mem_of_getElem? (i := 343) (by decide +kernel), List.mem_of_getElem? (i := 344) (by decide +kernel)⟩
theorem lw_p8 : lw_okq (⟨"NutsUp", "lawInForce", "()LNutsUp$Law;"⟩, 17) := ⟨⟨by decide +kernel, by decide +kernel⟩, List.mem_of_getElem? (i := 17) (by decide +kernel), List.mem_of_getElem? (i := 430) (by decide +kernel), List.mem_of_getElem? (i := 431) (by decide +kernel)⟩
theorem lw_p9 : lw_okq (⟨"NutsUp", "shakeOnce", "(LNutsUp$Law;I)I"⟩, 17) := ⟨⟨by decide +kernel, by decide +kernel⟩, List.mem_of_getElem? (i := 17) (by decide +kernel), List.mem_of_getElem? (i := 446) (by decide +kernel), List.mem_of_getElem? (i := 447) (by decide +kernel)⟩
theorem lw_p10 : lw_okq (⟨"NutsUp", "motionOf", "(LNutsUp$Law;I)LNutsUp$Motion;"⟩, 17) := ⟨⟨by decide +kernel, by decide +kernel⟩, List.mem_of_getElem? (i := 17) (by decide +kernel), List.mem_of_getElem? (i := 450) (by decide +kernel), List.mem_of_getElem? (i := 451) (by decide +kernel)⟩
theorem lw_p11 : lw_okq (⟨"NutsUp$Rule", "pairsShaken", "(III)I"⟩, 2) := ⟨⟨by decide +kernel, by decide +kernel⟩, List.mem_of_getElem? (i := 70) (by decide +kernel), List.mem_of_getElem? (i := 478) (by decide +kernel), List.mem_of_getElem? (i := 479) (by decide +kernel)⟩
theorem lw_p12 : lw_okq (⟨"NutsUp", "turned", "(I)I"⟩, 17) := ⟨⟨by decide +kernel, by decide +kernel⟩, List.mem_of_getElem? (i := 17) (by decide +kernel), List.mem_of_getElem? (i := 504) (by decide +kernel), List.mem_of_getElem? (i := 505) (by decide +kernel)⟩
theorem lw_p13 : lw_okq (⟨"NutsUp", "spooned", "(I)I"⟩, 17) := ⟨⟨by decide +kernel, by decide +kernel⟩, List.mem_of_getElem? (i := 17) (by decide +kernel), List.mem_of_getElem? (i := 516) (by decide +kernel), List.mem_of_getElem? (i := 517) (by decide +kernel)⟩
theorem lw_p14 : lw_okq (⟨"NutsUp", "soonBy", "(LNutsUp$Rule;II)I"⟩, 17) := ⟨⟨by decide +kernel, by decide +kernel⟩, List.mem_of_getElem? (i := 17) (by decide +kernel), List.mem_of_getElem? (i := 544) (by decide +kernel), List.mem_of_getElem? (i := 545) (by decide +kernel)⟩
def lw_privs_1 : List (MethodName × Nat) := [(⟨"NutsUp", "refusalOfCells", "(IIII)I"⟩, 17), (⟨"NutsUp", "faulted", "(I)I"⟩, 17), (⟨"NutsUp", "widenRows", "()V"⟩, 17), (⟨"NutsUp", "noGrain", "(I)Z"⟩, 17), (⟨"NutsUp$Box", "madeRow", "(I)I"⟩, 5), (⟨"NutsUp", "noPlace", "(I)Z"⟩, 17), (⟨"NutsUp", "noBox", "()Z"⟩, 17), (⟨"NutsUp", "noLie", "(I)Z"⟩, 17), (⟨"NutsUp", "lawInForce", "()LNutsUp$Law;"⟩, 17), (⟨"NutsUp", "shakeOnce", "(LNutsUp$Law;I)I"⟩, 17), (⟨"NutsUp", "motionOf", "(LNutsUp$Law;I)LNutsUp$Motion;"⟩, 17), (⟨"NutsUp$Rule", "pairsShaken", "(III)I"⟩, 2), (⟨"NutsUp", "turned", "(I)I"⟩, 17), (⟨"NutsUp", "spooned", "(I)I"⟩, 17), (⟨"NutsUp", "soonBy", "(LNutsUp$Rule;II)I"⟩, 17)]
theorem lw_r1 : ∀ q ∈ lw_privs_1, lw_okq q := List.forall_mem_cons.mpr ⟨lw_p0, List.forall_mem_cons.mpr ⟨lw_p1, List.forall_mem_cons.mpr ⟨lw_p2, List.forall_mem_cons.mpr ⟨lw_p3, List.forall_mem_cons.mpr ⟨lw_p4, List.forall_mem_cons.mpr ⟨lw_p5, List.forall_mem_cons.mpr ⟨lw_p6, List.forall_mem_cons.mpr ⟨lw_p7, List.forall_mem_cons.mpr ⟨lw_p8, List.forall_mem_cons.mpr ⟨lw_p9, List.forall_mem_cons.mpr ⟨lw_p10, List.forall_mem_cons.mpr ⟨lw_p11, List.forall_mem_cons.mpr ⟨lw_p12, List.forall_mem_cons.mpr ⟨lw_p13, List.forall_mem_cons.mpr ⟨lw_p14, fun _ h => absurd h List.not_mem_nil⟩⟩⟩⟩⟩⟩⟩⟩⟩⟩⟩⟩⟩⟩⟩
def lw_privs : List (MethodName × Nat) := lw_privs_1
def lw_tbl : List Cond := k2_sels lw_privs ++ tables_1
theorem lw_privs_ok : ∀ q ∈ lw_privs, lw_okq q := lw_r1
-- ===== end of PART A; what follows is written by wip/p43/mk01.py
/-- classes: name, fields (declaring one, name, descriptor, final), types, which are references -/
def clsL : List (String × List (String × String × String × Bool) × List FieldType × List Bool) := [
  ("NutsUp$Box", [("NutsUp$Box", "grains", "[LNutsUp$Grain;", true), ("NutsUp$Box", "count", "I", false), ("NutsUp$Box", "lies", "I", false), ("NutsUp$Box", "number", "I", false), ("NutsUp$Box", "rows", "[I", false)], [(.array (.object "NutsUp$Grain")), .int, .int, .int, (.array .int)], [true, false, false, false, true]),
  ("NutsUp$Cause", [("NutsUp$Cause", "letter", "I", true), ("NutsUp$Cause", "digit", "I", true), ("NutsUp$Cause", "hard", "I", true)], [.int, .int, .int], [false, false, false]),
  ("NutsUp$Grain", [("NutsUp$Grain", "number", "I", true), ("NutsUp$Grain", "kind", "I", true), ("NutsUp$Grain", "size", "I", true), ("NutsUp$Grain", "weight", "I", true), ("NutsUp$Grain", "bulk", "I", true), ("NutsUp$Grain", "heft", "I", true)], [.int, .int, .int, .int, .int, .int], [false, false, false, false, false, false]),
  ("NutsUp$Law", [("NutsUp$Law", "causes", "[LNutsUp$Cause;", true), ("NutsUp$Law", "motions", "[LNutsUp$Motion;", true)], [(.array (.object "NutsUp$Cause")), (.array (.object "NutsUp$Motion"))], [true, true]),
  ("NutsUp$LongGrain", [("NutsUp$Grain", "number", "I", true), ("NutsUp$Grain", "kind", "I", true), ("NutsUp$Grain", "size", "I", true), ("NutsUp$Grain", "weight", "I", true), ("NutsUp$Grain", "bulk", "I", true), ("NutsUp$Grain", "heft", "I", true)], [.int, .int, .int, .int, .int, .int], [false, false, false, false, false, false]),
  ("NutsUp$Motion", [("NutsUp$Motion", "rule", "LNutsUp$Rule;", true), ("NutsUp$Motion", "nexts", "[I", false), ("NutsUp$Motion", "boxNumber", "I", false)], [(.object "NutsUp$Rule"), (.array .int), .int], [true, true, false]),
  ("NutsUp$OilyGrain", [("NutsUp$Grain", "number", "I", true), ("NutsUp$Grain", "kind", "I", true), ("NutsUp$Grain", "size", "I", true), ("NutsUp$Grain", "weight", "I", true), ("NutsUp$Grain", "bulk", "I", true), ("NutsUp$Grain", "heft", "I", true)], [.int, .int, .int, .int, .int, .int], [false, false, false, false, false, false]),
  ("NutsUp$Rule", [("NutsUp$Rule", "changing", "[I", true), ("NutsUp$Rule", "changes", "I", false)], [(.array .int), .int], [true, false]),
  ("NutsUp$Search", [("NutsUp$Search", "queue", "[I", false), ("NutsUp$Search", "depth", "[I", false), ("NutsUp$Search", "cameFrom", "[I", false), ("NutsUp$Search", "cameBy", "[I", false), ("NutsUp$Search", "found", "I", false)], [(.array .int), (.array .int), (.array .int), (.array .int), .int], [true, true, true, true, false]),
  ("NutsUp$Sheet", [("NutsUp$Sheet", "cells", "[I", true), ("NutsUp$Sheet", "held", "Z", false), ("NutsUp$Sheet", "sort", "I", false), ("NutsUp$Sheet", "length", "I", false)], [(.array .int), .boolean, .int, .int], [true, false, false, false]),
  ("NutsUp$Trail", [("NutsUp$Trail", "sum", "I", false)], [.int], [false]),
  ("NutsUp", [("NutsUp", "box", "LNutsUp$Box;", true), ("NutsUp", "laws", "[LNutsUp$Law;", true), ("NutsUp", "lawCount", "I", false), ("NutsUp", "inForce", "I", false), ("NutsUp", "lieNow", "I", false), ("NutsUp", "shakes", "I", false), ("NutsUp", "readGrains", "[I", true), ("NutsUp", "readPlaces", "[I", true), ("NutsUp", "readings", "I", false), ("NutsUp", "sheets", "[LNutsUp$Sheet;", true), ("NutsUp", "trail", "LNutsUp$Trail;", true), ("NutsUp", "latestFault", "I", false), ("NutsUp", "spareRule", "LNutsUp$Rule;", true), ("NutsUp", "search", "LNutsUp$Search;", true), ("NutsUp", "far", "[I", false), ("NutsUp", "leap", "[I", false), ("NutsUp", "marks", "[I", false)], [(.object "NutsUp$Box"), (.array (.object "NutsUp$Law")), .int, .int, .int, .int, (.array .int), (.array .int), .int, (.array (.object "NutsUp$Sheet")), (.object "NutsUp$Trail"), .int, (.object "NutsUp$Rule"), (.object "NutsUp$Search"), (.array .int), (.array .int), (.array .int)], [true, true, false, false, false, false, true, true, false, true, true, false, true, true, true, true, true])]
def cR (ci : Nat) : String × List (String × String × String × Bool) × List FieldType × List Bool := (clsL[ci]?).getD ("", [], [], [])
def cn (ci : Nat) : String := (cR ci).1
def cT (ci : Nat) : u_T := fun k => ((cR ci).2.1[k]?).getD ("", "", "", false)
def cSz (ci : Nat) : Nat := (cR ci).2.1.length
def cTy (ci k : Nat) : FieldType := ((cR ci).2.2.1[k]?).getD .int
def rfs (ci k : Nat) : Bool := ((cR ci).2.2.2[k]?).getD false
abbrev classes : List vw_C := (List.range 12).map (fun ci => (cn ci, cT ci, cSz ci))
def onL : List String := ["NutsUp$Box", "NutsUp$Cause", "NutsUp$Grain", "NutsUp$Law", "NutsUp$LongGrain", "NutsUp$Motion", "NutsUp$OilyGrain", "NutsUp$Rule", "NutsUp$Search", "NutsUp$Sheet", "NutsUp$Trail", "NutsUp", "NutsUpModel", "NutsUpLaw", "java/lang/Object", "java/lang/Integer", "java/lang/Math", "java/lang/System", "java/util/Arrays"]
def on (o : Nat) : String := (onL[o]?).getD ""
def mtab0 : List (Nat × String × String × ByteArray × Nat × Option FieldType × Nat × Nat × Nat × Nat × Bool) := [
  (11, "<init>", "()V", prog_1_method_1_code, 2, none, 0, 2, 40, 35, true),
  (14, "<init>", "()V", object_method_1_code, 1, none, 0, 0, 0, 38, false),
  (0, "<init>", "()V", prog_2_method_1_code, 1, none, 0, 1, 20, 43, true),
  (10, "<init>", "()V", prog_12_method_1_code, 1, none, 0, 1, 20, 79, false),
  (7, "<init>", "()V", prog_9_method_1_code, 1, none, 0, 1, 20, 88, true),
  (8, "<init>", "()V", prog_10_method_1_code, 1, none, 0, 1, 20, 102, true),
  (9, "<init>", "()V", prog_11_method_1_code, 1, none, 0, 1, 20, 122, true),
  (11, "box", "(IIII)I", prog_1_method_2_code, 8, some Jvm.ClassFile.FieldType.int, 4, 6, 143, 196, true),
  (11, "refusalOfCells", "(IIII)I", prog_1_method_49_code, 6, some Jvm.ClassFile.FieldType.int, 4, 1, 22, 200, false),
  (11, "noSheet", "(I)Z", prog_1_method_47_code, 1, some Jvm.ClassFile.FieldType.boolean, 1, 0, 0, 203, false),
  (11, "noSort", "(I)Z", prog_1_method_48_code, 1, some Jvm.ClassFile.FieldType.boolean, 1, 0, 0, 206, false),
  (11, "faulted", "(I)I", prog_1_method_50_code, 2, some Jvm.ClassFile.FieldType.int, 1, 0, 0, 210, false),
  (9, "hasNot", "(II)Z", prog_11_method_4_code, 3, some Jvm.ClassFile.FieldType.boolean, 2, 0, 0, 214, false),
  (0, "firstFault", "([III)I", prog_2_method_2_code, 6, some Jvm.ClassFile.FieldType.int, 3, 1, 22, 217, false),
  (0, "stateBehind", "(III)I", prog_2_method_3_code, 3, some Jvm.ClassFile.FieldType.int, 3, 0, 0, 220, false),
  (0, "fill", "([III)V", prog_2_method_4_code, 7, none, 3, 5, 117, 224, true),
  (0, "kindAt", "([III)I", prog_2_method_5_code, 3, some Jvm.ClassFile.FieldType.int, 3, 0, 0, 227, false),
  (0, "grainOf", "(IIII)LNutsUp$Grain;", prog_2_method_6_code, 4, some (Jvm.ClassFile.FieldType.object "NutsUp$Grain"), 4, 4, 94, 230, true),
  (2, "<init>", "(III)V", prog_4_method_1_code, 4, none, 3, 2, 46, 234, false),
  (2, "<init>", "(IIIIII)V", prog_4_method_2_code, 7, none, 6, 1, 20, 237, false),
  (4, "<init>", "(III)V", prog_6_method_1_code, 4, none, 3, 2, 46, 270, false),
  (6, "<init>", "(III)V", prog_8_method_1_code, 4, none, 3, 3, 71, 283, false),
  (4, "<init>", "(IIIII)V", prog_6_method_2_code, 6, none, 5, 2, 46, 286, false),
  (11, "wideEnough", "([II)[I", prog_1_method_54_code, 2, some (Jvm.ClassFile.FieldType.array Jvm.ClassFile.FieldType.int), 2, 0, 0, 298, true),
  (18, "fill", "([II)V", prog_17_method_103_code, 4, none, 2, 0, 0, 301, false),
  (11, "widenRows", "()V", prog_1_method_53_code, 1, none, 0, 2, 42, 305, true),
  (8, "widen", "(I)V", prog_10_method_2_code, 2, none, 1, 1, 21, 310, true),
  (11, "ofGrain", "(II)I", prog_1_method_3_code, 4, some Jvm.ClassFile.FieldType.int, 2, 2, 48, 315, false),
  (11, "noGrain", "(I)Z", prog_1_method_43_code, 2, some Jvm.ClassFile.FieldType.boolean, 1, 0, 0, 319, false),
  (0, "rowOf", "(I)I", prog_2_method_8_code, 2, some Jvm.ClassFile.FieldType.int, 1, 1, 27, 323, false),
  (0, "madeRow", "(I)I", prog_2_method_9_code, 8, some Jvm.ClassFile.FieldType.int, 1, 0, 0, 327, false),
  (0, "placeOf", "(II)I", prog_2_method_11_code, 4, some Jvm.ClassFile.FieldType.int, 2, 1, 21, 332, false),
  (0, "grainIn", "(II)I", prog_2_method_7_code, 2, some Jvm.ClassFile.FieldType.int, 2, 0, 0, 335, false),
  (11, "at", "(I)I", prog_1_method_4_code, 2, some Jvm.ClassFile.FieldType.int, 1, 2, 48, 339, false),
  (11, "noPlace", "(I)Z", prog_1_method_44_code, 2, some Jvm.ClassFile.FieldType.boolean, 1, 0, 0, 343, false)]
def mtab1 : List (Nat × String × String × ByteArray × Nat × Option FieldType × Nat × Nat × Nat × Nat × Bool) := [
  (11, "lie", "()I", prog_1_method_5_code, 1, some Jvm.ClassFile.FieldType.int, 0, 1, 20, 348, false),
  (11, "noBox", "()Z", prog_1_method_42_code, 1, some Jvm.ClassFile.FieldType.boolean, 0, 0, 0, 352, false),
  (11, "lay", "(I)I", prog_1_method_6_code, 3, some Jvm.ClassFile.FieldType.int, 1, 1, 21, 356, false),
  (11, "noLie", "(I)Z", prog_1_method_45_code, 2, some Jvm.ClassFile.FieldType.boolean, 1, 0, 0, 360, false),
  (11, "of", "(II)I", prog_1_method_7_code, 3, some Jvm.ClassFile.FieldType.int, 2, 2, 48, 364, false),
  (11, "law", "(IIII)I", prog_1_method_8_code, 8, some Jvm.ClassFile.FieldType.int, 4, 4, 85, 368, true),
  (3, "firstFault", "([III)I", prog_5_method_2_code, 4, some Jvm.ClassFile.FieldType.int, 3, 2, 42, 371, false),
  (3, "goesOn", "(II)Z", prog_5_method_3_code, 2, some Jvm.ClassFile.FieldType.boolean, 2, 1, 21, 374, false),
  (1, "letterOf", "(I)I", prog_3_method_2_code, 2, some Jvm.ClassFile.FieldType.int, 1, 0, 0, 377, false),
  (3, "<init>", "([III)V", prog_5_method_1_code, 6, none, 3, 3, 60, 383, true),
  (1, "<init>", "(III)V", prog_3_method_1_code, 4, none, 3, 1, 20, 392, false),
  (5, "<init>", "()V", prog_7_method_1_code, 1, none, 0, 2, 40, 408, true),
  (11, "use", "(I)I", prog_1_method_10_code, 3, some Jvm.ClassFile.FieldType.int, 1, 0, 0, 436, false),
  (11, "cause", "(IIII)I", prog_1_method_11_code, 6, some Jvm.ClassFile.FieldType.int, 4, 2, 49, 440, false),
  (11, "noHard", "(I)Z", prog_1_method_46_code, 1, some Jvm.ClassFile.FieldType.boolean, 1, 0, 0, 443, false),
  (11, "lawInForce", "()LNutsUp$Law;", prog_1_method_52_code, 1, some (Jvm.ClassFile.FieldType.object "NutsUp$Law"), 0, 0, 0, 447, false),
  (3, "ruling", "(LNutsUp$Grain;LNutsUp$Grain;III)I", prog_5_method_4_code, 7, some Jvm.ClassFile.FieldType.int, 5, 1, 23, 451, false),
  (1, "isSo", "(LNutsUp$Grain;LNutsUp$Grain;I)Z", prog_3_method_3_code, 4, some Jvm.ClassFile.FieldType.boolean, 3, 0, 0, 455, false),
  (11, "shake", "(II)I", prog_1_method_12_code, 6, some Jvm.ClassFile.FieldType.int, 2, 5, 123, 459, true),
  (11, "shakeOnce", "(LNutsUp$Law;I)I", prog_1_method_56_code, 4, some Jvm.ClassFile.FieldType.int, 2, 4, 100, 463, true),
  (11, "motionOf", "(LNutsUp$Law;I)LNutsUp$Motion;", prog_1_method_55_code, 4, some (Jvm.ClassFile.FieldType.object "NutsUp$Motion"), 2, 3, 77, 467, true),
  (7, "learn", "(LNutsUp$Box;LNutsUp$Law;II)V", prog_9_method_2_code, 9, none, 4, 2, 49, 471, false),
  (1, "makesChange", "()Z", prog_3_method_4_code, 1, some Jvm.ClassFile.FieldType.boolean, 0, 0, 0, 476, false),
  (5, "forget", "(I)V", prog_7_method_2_code, 2, none, 1, 2, 46, 480, true),
  (18, "fill", "([IIII)V", prog_17_method_104_code, 5, none, 4, 1, 22, 484, false),
  (18, "rangeCheck", "(III)V", prog_17_method_30_code, 3, none, 3, 0, 0, 487, false),
  (7, "shaken", "(II)I", prog_9_method_3_code, 3, some Jvm.ClassFile.FieldType.int, 2, 2, 48, 491, false),
  (7, "pairsShaken", "(III)I", prog_9_method_4_code, 8, some Jvm.ClassFile.FieldType.int, 3, 1, 21, 495, false),
  (0, "lieOf", "(I)I", prog_2_method_10_code, 6, some Jvm.ClassFile.FieldType.int, 1, 1, 21, 500, false),
  (15, "bitCount", "(I)I", prog_15_method_49_code, 1, some Jvm.ClassFile.FieldType.int, 1, 0, 0, 503, false),
  (11, "doing", "(IIII)I", prog_1_method_13_code, 10, some Jvm.ClassFile.FieldType.int, 4, 5, 123, 510, true),
  (11, "allHard", "([III)Z", prog_1_method_51_code, 4, some Jvm.ClassFile.FieldType.boolean, 3, 1, 20, 513, false),
  (11, "turn", "()I", prog_1_method_14_code, 1, some Jvm.ClassFile.FieldType.int, 0, 3, 69, 517, false),
  (11, "turned", "(I)I", prog_1_method_57_code, 2, some Jvm.ClassFile.FieldType.int, 1, 2, 48, 521, false),
  (0, "turnedRow", "(I)I", prog_2_method_12_code, 4, some Jvm.ClassFile.FieldType.int, 1, 1, 21, 525, false)]
def mtab2 : List (Nat × String × String × ByteArray × Nat × Option FieldType × Nat × Nat × Nat × Nat × Bool) := [
  (11, "spoon", "()I", prog_1_method_15_code, 2, some Jvm.ClassFile.FieldType.int, 0, 3, 69, 529, false),
  (11, "spooned", "(I)I", prog_1_method_58_code, 2, some Jvm.ClassFile.FieldType.int, 1, 2, 48, 533, false),
  (0, "spoonedRow", "(I)I", prog_2_method_13_code, 2, some Jvm.ClassFile.FieldType.int, 1, 1, 21, 537, false),
  (11, "next", "(II)I", prog_1_method_16_code, 4, some Jvm.ClassFile.FieldType.int, 2, 4, 100, 541, true),
  (5, "after", "(LNutsUp$Box;I)I", prog_7_method_3_code, 3, some Jvm.ClassFile.FieldType.int, 2, 3, 70, 545, false),
  (11, "still", "(III)I", prog_1_method_17_code, 8, some Jvm.ClassFile.FieldType.int, 3, 4, 100, 552, true),
  (11, "soon", "(III)I", prog_1_method_18_code, 5, some Jvm.ClassFile.FieldType.int, 3, 4, 100, 557, true),
  (11, "soonBy", "(LNutsUp$Rule;II)I", prog_1_method_60_code, 7, some Jvm.ClassFile.FieldType.int, 3, 3, 70, 561, false),
  (11, "isTimeToMark", "(I)Z", prog_1_method_61_code, 1, some Jvm.ClassFile.FieldType.boolean, 1, 0, 0, 564, false),
  (11, "boss", "(III)I", prog_1_method_19_code, 11, some Jvm.ClassFile.FieldType.int, 3, 5, 124, 568, true),
  (11, "counted", "(I)I", prog_1_method_62_code, 1, some Jvm.ClassFile.FieldType.int, 1, 0, 0, 572, false),
  (16, "abs", "(I)I", prog_16_method_59_code, 1, some Jvm.ClassFile.FieldType.int, 1, 0, 0, 575, false),
  (11, "sheet", "(III)I", prog_1_method_31_code, 4, some Jvm.ClassFile.FieldType.int, 3, 2, 45, 579, false),
  (9, "renew", "(II)V", prog_11_method_2_code, 3, none, 2, 1, 23, 583, false),
  (11, "put", "(III)I", prog_1_method_33_code, 5, some Jvm.ClassFile.FieldType.int, 3, 1, 21, 588, false),
  (9, "cut", "(I)I", prog_11_method_3_code, 2, some Jvm.ClassFile.FieldType.int, 1, 0, 0, 592, false),
  (11, "many", "(I)I", prog_1_method_41_code, 2, some Jvm.ClassFile.FieldType.int, 1, 0, 0, 596, false),
  (13, "cell", "([II)I", method_2_code, 2, some Jvm.ClassFile.FieldType.int, 2, 0, 0, 599, false),
  (13, "some", "(II)I", method_3_code, 2, some Jvm.ClassFile.FieldType.int, 2, 0, 0, 603, false),
  (13, "put", "(LNutsUp;[III[I)I", method_4_code, 9, some Jvm.ClassFile.FieldType.int, 5, 3, 68, 607, false),
  (13, "causes", "(LNutsUp;[II[I)I", method_5_code, 9, some Jvm.ClassFile.FieldType.int, 4, 3, 68, 610, false),
  (13, "ruling", "([I[IIIIII)I", method_8_code, 12, some Jvm.ClassFile.FieldType.int, 7, 1, 21, 613, false),
  (13, "bulk", "([II)I", method_6_code, 2, some Jvm.ClassFile.FieldType.int, 2, 0, 0, 616, false),
  (13, "heft", "([II)I", method_7_code, 2, some Jvm.ClassFile.FieldType.int, 2, 0, 0, 619, false),
  (13, "shake", "([I[II[II)I", method_9_code, 10, some Jvm.ClassFile.FieldType.int, 5, 2, 52, 622, false),
  (13, "number", "([I[I)I", method_10_code, 7, some Jvm.ClassFile.FieldType.int, 2, 0, 0, 625, false),
  (13, "open", "([II[I)V", method_11_code, 8, none, 3, 0, 0, 628, false),
  (13, "soon", "([I[IIIII)I", method_14_code, 9, some Jvm.ClassFile.FieldType.int, 6, 4, 108, 631, true),
  (13, "isRound", "([I[II[III)Z", method_15_code, 8, some Jvm.ClassFile.FieldType.boolean, 6, 3, 81, 634, true),
  (13, "law", "([I)Z", code, 28, some Jvm.ClassFile.FieldType.boolean, 1, 7, 170, 0, true)]
def mt (m : Nat) : Nat × String × String × ByteArray × Nat × Option FieldType × Nat × Nat × Nat × Nat × Bool := ((if m < 35 then mtab0[m]? else if m < 70 then mtab1[m - 35]? else mtab2[m - 70]?)).getD (0, "", "", ⟨#[]⟩, 0, none, 0, 0, 0, 0, false)
def mO (m : Nat) : Nat := (mt m).1
def mY (m : Nat) : MethodName := ⟨on (mt m).1, (mt m).2.1, (mt m).2.2.1⟩
def mB (m : Nat) : ByteArray := (mt m).2.2.2.1
def mL (m : Nat) : Nat := (mt m).2.2.2.2.1
def mR (m : Nat) : Option FieldType := (mt m).2.2.2.2.2.1
def mA (m : Nat) : Nat := (mt m).2.2.2.2.2.2.1
def mF (m : Nat) : Nat := (mt m).2.2.2.2.2.2.2.1
def mLc (m : Nat) : Nat := (mt m).2.2.2.2.2.2.2.2.1
def mW (m : Nat) : Nat := (mt m).2.2.2.2.2.2.2.2.2.1
def mv (m : Nat) : Bool := (mt m).2.2.2.2.2.2.2.2.2.2
/-- fields by owner and index: the holder, the place, the word -/
def fldTab : List (Nat × Nat × Nat × Nat × Nat) := [(0, 11, 0, 0, 47), (7, 21, 0, 0, 48), (11, 103, 0, 0, 49), (7, 15, 0, 1, 50), (11, 96, 0, 1, 51), (5, 38, 0, 1, 52), (0, 25, 0, 1, 53), (0, 40, 0, 2, 54), (11, 204, 0, 2, 55), (0, 43, 0, 3, 56), (11, 339, 0, 3, 57), (0, 17, 0, 4, 58), (7, 9, 7, 0, 90), (7, 49, 7, 1, 91), (11, 345, 7, 1, 92), (8, 9, 8, 0, 104), (8, 15, 8, 1, 105), (8, 18, 8, 2, 106), (8, 21, 8, 3, 107), (9, 9, 9, 0, 124), (11, 72, 9, 0, 125), (9, 15, 9, 1, 126), (11, 291, 9, 1, 127), (9, 19, 9, 2, 128), (11, 301, 9, 2, 129), (9, 23, 9, 3, 130), (11, 295, 9, 3, 131), (11, 12, 11, 0, 141), (11, 20, 11, 1, 142), (11, 146, 11, 2, 143), (11, 166, 11, 3, 144), (11, 86, 11, 4, 145), (11, 93, 11, 5, 146), (11, 24, 11, 6, 147), (11, 28, 11, 7, 148), (11, 90, 11, 8, 149), (11, 33, 11, 9, 150), (11, 40, 11, 10, 151), (11, 266, 11, 11, 152), (11, 47, 11, 12, 153), (11, 54, 11, 13, 154), (11, 58, 11, 14, 155), (11, 61, 11, 15, 156), (11, 64, 11, 16, 157), (2, 12, 2, 0, 239), (2, 16, 2, 1, 240), (11, 107, 2, 1, 241), (1, 33, 2, 1, 242), (2, 19, 2, 2, 243), (11, 112, 2, 2, 244), (2, 22, 2, 3, 245), (11, 115, 2, 3, 246), (2, 25, 2, 4, 247), (1, 25, 2, 4, 248), (11, 118, 2, 4, 249), (2, 28, 2, 5, 250), (1, 30, 2, 5, 251), (11, 121, 2, 5, 252), (1, 9, 1, 0, 394), (1, 15, 1, 1, 395), (1, 18, 1, 2, 396), (3, 35, 1, 2, 397), (5, 10, 5, 0, 412), (11, 212, 5, 0, 413), (5, 16, 5, 1, 414), (11, 336, 5, 2, 415), (3, 19, 3, 0, 423), (7, 31, 3, 0, 424), (11, 151, 3, 0, 425), (3, 11, 3, 1, 426), (11, 332, 3, 1, 427)]
def fld (o i : Nat) : Option (Nat × Nat) := (fldTab.find? (fun q => q.1 == o && q.2.1 == i)).map (fun q => (q.2.2.1, q.2.2.2.1))
/-- constant rows: owner, index, role, name -/
def stfTab : List (Nat × Nat × Nat × String) := [(0, 37, 500, "FACTORIALS"), (1, 21, 501, "LETTERS")]
def stf (o i : Nat) : Option Nat := (stfTab.find? (fun q => q.1 == o && q.2.1 == i)).map (fun q => q.2.2.1)
/-- new: owner, index, class, words of link, making, readiness -/
def newTab : List (Nat × Nat × Nat × Nat × Nat × Nat) := [(13, 20, 11, 31, 32, 16), (11, 9, 0, 39, 40, 17), (0, 9, 2, 45, 231, 23), (11, 18, 3, 71, 380, 27), (11, 31, 9, 73, 119, 21), (11, 37, 10, 75, 76, 18), (11, 44, 7, 84, 85, 19), (11, 51, 8, 98, 99, 20), (0, 59, 4, 266, 267, 24), (0, 62, 6, 279, 280, 25), (3, 9, 5, 385, 405, 29), (3, 17, 1, 387, 389, 28), (5, 7, 7, 410, 85, 19)]
def newt (o i : Nat) : Option Nat := (newTab.find? (fun q => q.1 == o && q.2.1 == i)).map (fun q => q.2.2.1)
/-- arrays of references: owner, index, tag, words of link and of the array -/
def anwTab : List (Nat × Nat × Nat × Nat × Nat) := [(0, 9, 21, 45, 46), (11, 18, 22, 71, 72), (11, 31, 23, 73, 74), (3, 9, 25, 385, 386), (3, 17, 24, 387, 388)]
def anwt (o i : Nat) : Option Nat := (anwTab.find? (fun q => q.1 == o && q.2.1 == i)).map (fun q => q.2.2.1)
def aName (t : Nat) : String := if t = 21 then "NutsUp$Grain" else if t = 22 then "NutsUp$Law" else if t = 23 then "NutsUp$Sheet" else if t = 24 then "NutsUp$Cause" else if t = 25 then "NutsUp$Motion" else ""
def aCls (t : Nat) : Nat := if t = 21 then 2 else if t = 22 then 3 else if t = 23 then 9 else if t = 24 then 1 else if t = 25 then 5 else 0
def ldcTab : List (Nat × Nat × Int × Nat) := [(0, 69, 1754760, 328), (15, 265, 1431655765, 504), (15, 266, 858993459, 505), (15, 267, 252645135, 506), (13, 7, 747796405, 600), (13, 8, 2147483647, 604)]
def ldct (o i : Nat) : Option Int32 := (ldcTab.find? (fun q => q.1 == o && q.2.1 == i)).map (fun q => Int32.ofInt q.2.2.1)
def ld2Tab : List (Nat × Nat × Int × Nat) := []
def ld2t (o i : Nat) : Option Int64 := (ld2Tab.find? (fun q => q.1 == o && q.2.1 == i)).map (fun q => Int64.ofInt q.2.2.1)
/-- calls: owner, index, kind (0 static, 1 on an object, 2 a making, 3 static of a nest mate, 4 a making of one, 5 by the kind of the object, 6 of the class above, 7 copying), method, word -/
def calTab : List (Nat × Nat × Nat × Nat × Nat) := [(0, 3, 8, 1, 44), (0, 21, 0, 14, 218), (0, 29, 0, 16, 225), (0, 33, 0, 17, 228), (0, 46, 3, 23, 296), (0, 50, 0, 24, 299), (0, 56, 2, 18, 232), (0, 61, 2, 20, 268), (0, 64, 2, 21, 281), (0, 65, 1, 30, 324), (0, 70, 0, 32, 333), (0, 74, 0, 64, 501), (1, 3, 8, 1, 393), (2, 1, 2, 19, 235), (2, 7, 8, 1, 238), (3, 3, 8, 1, 384), (3, 23, 0, 43, 375), (3, 27, 2, 45, 390), (3, 30, 4, 46, 406), (3, 31, 0, 42, 372), (3, 39, 1, 52, 452), (4, 1, 2, 19, 271), (5, 1, 8, 1, 409), (5, 9, 4, 4, 411), (5, 20, 3, 23, 481), (5, 26, 0, 59, 482), (5, 32, 1, 29, 546), (5, 42, 1, 61, 547), (5, 46, 1, 63, 548), (6, 1, 2, 22, 284), (7, 3, 8, 1, 89), (7, 25, 1, 51, 472), (7, 35, 1, 57, 473), (7, 41, 1, 62, 492), (7, 45, 0, 32, 496), (8, 3, 8, 1, 103), (8, 24, 3, 23, 311), (9, 3, 8, 1, 123), (9, 26, 0, 24, 584), (10, 1, 8, 1, 80), (11, 3, 8, 1, 36), (11, 11, 4, 2, 41), (11, 39, 4, 3, 77), (11, 46, 4, 4, 86), (11, 53, 4, 5, 100), (11, 67, 4, 6, 120), (11, 68, 1, 8, 197), (11, 75, 0, 13, 215), (11, 79, 1, 15, 221), (11, 83, 1, 25, 302), (11, 99, 1, 28, 316), (11, 124, 1, 29, 320), (11, 128, 1, 31, 329), (11, 132, 1, 34, 340), (11, 135, 0, 32, 344), (11, 138, 1, 36, 349), (11, 142, 1, 38, 357), (11, 145, 0, 41, 369), (11, 149, 2, 44, 381), (11, 169, 0, 49, 441), (11, 172, 1, 50, 444), (11, 176, 1, 51, 448), (11, 180, 1, 54, 460), (11, 184, 0, 66, 511), (11, 188, 1, 68, 518), (11, 191, 1, 71, 530), (11, 194, 1, 55, 464), (11, 198, 1, 74, 542), (11, 207, 0, 59, 553), (11, 215, 1, 77, 558), (11, 219, 1, 76, 569), (11, 223, 1, 56, 468), (11, 227, 0, 80, 570), (11, 230, 0, 81, 573), (11, 272, 0, 78, 562), (11, 275, 1, 61, 488), (11, 278, 0, 9, 201), (11, 281, 0, 10, 204), (11, 284, 1, 11, 207), (11, 287, 1, 83, 580), (11, 298, 1, 85, 589), (11, 304, 1, 12, 211), (11, 324, 0, 23, 306), (11, 328, 1, 26, 307), (11, 342, 1, 58, 477), (11, 348, 1, 63, 497), (11, 351, 1, 69, 522), (11, 354, 1, 72, 534), (13, 9, 0, 87, 597), (13, 15, 0, 88, 601), (13, 19, 1, 82, 576), (13, 25, 1, 84, 585), (13, 28, 0, 92, 614), (13, 31, 0, 93, 617), (13, 34, 0, 91, 611), (13, 38, 0, 96, 626), (13, 42, 0, 98, 632), (13, 46, 0, 94, 620), (13, 50, 0, 95, 623), (13, 54, 2, 0, 33), (13, 55, 0, 89, 605), (13, 58, 1, 7, 193), (13, 62, 1, 53, 456), (13, 64, 0, 90, 608), (13, 68, 1, 40, 365), (13, 71, 1, 86, 593), (13, 75, 1, 67, 514), (13, 79, 1, 70, 526), (13, 82, 1, 37, 353), (13, 85, 1, 65, 507), (13, 88, 1, 35, 345), (13, 91, 1, 33, 336), (13, 94, 1, 39, 361), (13, 97, 1, 27, 312), (13, 100, 1, 48, 437), (13, 103, 1, 73, 538), (13, 106, 1, 75, 549), (13, 109, 0, 97, 629), (13, 113, 1, 76, 554), (13, 115, 1, 79, 565), (13, 118, 1, 47, 433), (18, 13, 0, 60, 485)]
def cal (o i : Nat) : Option (Nat × Nat) := (calTab.find? (fun q => q.1 == o && q.2.1 == i)).map (fun q => (q.2.2.1, q.2.2.2.1))
def virTab : List (Nat × Nat × Nat × Nat) := []
def vir (o i t : Nat) : Option Nat := (virTab.find? (fun q => q.1 == o && q.2.1 == i && q.2.2.1 == t)).map (fun q => q.2.2.2)
