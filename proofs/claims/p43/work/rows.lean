section
-- ===== PART A: goes FIRST, ahead of the names: the tables' words, and 'selects' of the private methods out of them =====
/-- a private method of a class that the tables say can be made, by its rows of tables_1 -/
def lw_okq (q : MethodName × Nat) : Prop := (q.1.cls ≠ "java/lang/invoke/MethodHandle" ∧ q.1.cls ≠ "java/lang/invoke/VarHandle") ∧ Cond.instantiable q.1.cls q.2 ∈ tables_1 ∧ Cond.privateMethod q.1 ∈ tables_1 ∧ Cond.instanceMethod q.1 ∈ tables_1
theorem lw_p0 : lw_okq (⟨"NutsUp", "refusalOfCells", "(IIII)I"⟩, 17) := ⟨⟨by decide +kernel, by decide +kernel⟩, List.mem_of_getElem? (i := 17) (by decide +kernel), List.mem_of_getElem? (i := 183) (by decide +kernel), List.mem_of_getElem? (i := 184) (by decide +kernel)⟩
theorem lw_p1 : lw_okq (⟨"NutsUp", "faulted", "(I)I"⟩, 17) := ⟨⟨by decide +kernel, by decide +kernel⟩, List.mem_of_getElem? (i := 17) (by decide +kernel), List.mem_of_getElem? (i := 193) (by decide +kernel), List.mem_of_getElem? (i := 194) (by decide +kernel)⟩
theorem lw_p2 : lw_okq (⟨"NutsUp", "widenRows", "()V"⟩, 17) := ⟨⟨by decide +kernel, by decide +kernel⟩, List.mem_of_getElem? (i := 17) (by decide +kernel), List.mem_of_getElem? (i := 288) (by decide +kernel), List.mem_of_getElem? (i := 289) (by decide +kernel)⟩
theorem lw_p3 : lw_okq (⟨"NutsUp", "noGrain", "(I)Z"⟩, 17) := ⟨⟨by decide +kernel, by decide +kernel⟩, List.mem_of_getElem? (i := 17) (by decide +kernel), List.mem_of_getElem? (i := 302) (by decide +kernel), List.mem_of_getElem? (i := 303) (by decide +kernel)⟩
theorem lw_p4 : lw_okq (⟨"NutsUp$Box", "madeRow", "(I)I"⟩, 5) := ⟨⟨by decide +kernel, by decide +kernel⟩, List.mem_of_getElem? (i := 25) (by decide +kernel), List.mem_of_getElem? (i := 310) (by decide +kernel), List.mem_of_getElem? (i := 311) (by decide +kernel)⟩
theorem lw_p5 : lw_okq (⟨"NutsUp", "noPlace", "(I)Z"⟩, 17) := ⟨⟨by decide +kernel, by decide +kernel⟩, List.mem_of_getElem? (i := 17) (by decide +kernel), List.mem_of_getElem? (i := 326) (by decide +kernel), List.mem_of_getElem? (i := 327) (by decide +kernel)⟩
theorem lw_p6 : lw_okq (⟨"NutsUp", "noBox", "()Z"⟩, 17) := ⟨⟨by decide +kernel, by decide +kernel⟩, List.mem_of_getElem? (i := 17) (by decide +kernel), List.mem_of_getElem? (i := 335) (by decide +kernel), List.mem_of_getElem? (i := 336) (by decide +kernel)⟩
theorem lw_p7 : lw_okq (⟨"NutsUp", "noLie", "(I)Z"⟩, 17) := ⟨⟨by decide +kernel, by decide +kernel⟩, List.mem_of_getElem? (i := 17) (by decide +kernel), List.mem_of_getElem? (i := 343) (by decide +kernel), List.mem_of_getElem? (i := 344) (by decide +kernel)⟩
theorem lw_p8 : lw_okq (⟨"NutsUp", "lawInForce", "()LNutsUp$Law;"⟩, 17) := ⟨⟨by decide +kernel, by decide +kernel⟩, List.mem_of_getElem? (i := 17) (by decide +kernel), List.mem_of_getElem? (i := 430) (by decide +kernel), List.mem_of_getElem? (i := 431) (by decide +kernel)⟩
theorem lw_p9 : lw_okq (⟨"NutsUp", "shakeOnce", "(LNutsUp$Law;I)I"⟩, 17) := ⟨⟨by decide +kernel, by decide +kernel⟩, List.mem_of_getElem? (i := 17) (by decide +kernel), List.mem_of_getElem? (i := 446) (by decide +kernel), List.mem_of_getElem? (i := 447) (by decide +kernel)⟩
theorem lw_p10 : lw_okq (⟨"NutsUp", "motionOf", "(LNutsUp$Law;I)LNutsUp$Motion;"⟩, 17) := ⟨⟨by decide +kernel, by decide +kernel⟩, List.mem_of_getElem? (i := 17) (by decide +kernel), List.mem_of_getElem? (i := 450) (by decide +kernel), List.mem_of_getElem? (i := 451) (by decide +kernel)⟩
theorem lw_p11 : lw_okq (⟨"NutsUp$Rule", "pairsShaken", "(III)I"⟩, 2) := ⟨⟨by decide +kernel, by decide +kernel⟩, List.mem_of_getElem? (i := 70) (by decide +kernel), List.mem_of_getElem? (i := 478) (by decide +kernel), List.mem_of_getElem? (i := 479) (by decide +kernel)⟩
theorem lw_p12 : lw_okq (⟨"NutsUp", "turned", "(I)I"⟩, 17) := ⟨⟨by decide +kernel, by decide +kernel⟩, List.mem_of_getElem? (i := 17) (by decide +kernel), List.mem_of_getElem? (i := 504) (by decide +kernel), List.mem_of_getElem? (i := 505) (by decide +kernel)⟩
theorem lw_p13 : lw_okq (⟨"NutsUp", "spooned", "(I)I"⟩, 17) := ⟨⟨by decide +kernel, by decide +kernel⟩, List.mem_of_getElem? (i := 17) (by decide +kernel), List.mem_of_getElem? (i := 516) (by decide +kernel), List.mem_of_getElem? (i := 517) (by decide +kernel)⟩
theorem lw_p14 : lw_okq (⟨"NutsUp", "soonBy", "(LNutsUp$Rule;II)I"⟩, 17) := ⟨⟨by decide +kernel, by decide +kernel⟩, List.mem_of_getElem? (i := 17) (by decide +kernel), List.mem_of_getElem? (i := 544) (by decide +kernel), List.mem_of_getElem? (i := 545) (by decide +kernel)⟩
def lw_privs_1 : List (MethodName × Nat) := [(⟨"NutsUp", "refusalOfCells", "(IIII)I"⟩, 17), (⟨"NutsUp", "faulted", "(I)I"⟩, 17), (⟨"NutsUp", "widenRows", "()V"⟩, 17), (⟨"NutsUp", "noGrain", "(I)Z"⟩, 17), (⟨"NutsUp$Box", "madeRow", "(I)I"⟩, 5), (⟨"NutsUp", "noPlace", "(I)Z"⟩, 17), (⟨"NutsUp", "noBox", "()Z"⟩, 17), (⟨"NutsUp", "noLie", "(I)Z"⟩, 17), (⟨"NutsUp", "lawInForce", "()LNutsUp$Law;"⟩, 17), (⟨"NutsUp", "shakeOnce", "(LNutsUp$Law;I)I"⟩, 17), (⟨"NutsUp", "motionOf", "(LNutsUp$Law;I)LNutsUp$Motion;"⟩, 17), (⟨"NutsUp$Rule", "pairsShaken", "(III)I"⟩, 2), (⟨"NutsUp", "turned", "(I)I"⟩, 17), (⟨"NutsUp", "spooned", "(I)I"⟩, 17), (⟨"NutsUp", "soonBy", "(LNutsUp$Rule;II)I"⟩, 17)]
theorem lw_r1 : ∀ q ∈ lw_privs_1, lw_okq q := List.forall_mem_cons.mpr ⟨lw_p0, List.forall_mem_cons.mpr ⟨lw_p1, List.forall_mem_cons.mpr ⟨lw_p2, List.forall_mem_cons.mpr ⟨lw_p3, List.forall_mem_cons.mpr ⟨lw_p4, List.forall_mem_cons.mpr ⟨lw_p5, List.forall_mem_cons.mpr ⟨lw_p6, List.forall_mem_cons.mpr ⟨lw_p7, List.forall_mem_cons.mpr ⟨lw_p8, List.forall_mem_cons.mpr ⟨lw_p9, List.forall_mem_cons.mpr ⟨lw_p10, List.forall_mem_cons.mpr ⟨lw_p11, List.forall_mem_cons.mpr ⟨lw_p12, List.forall_mem_cons.mpr ⟨lw_p13, List.forall_mem_cons.mpr ⟨lw_p14, fun _ h => absurd h List.not_mem_nil⟩⟩⟩⟩⟩⟩⟩⟩⟩⟩⟩⟩⟩⟩⟩
def lw_privs : List (MethodName × Nat) := lw_privs_1
def lw_tbl : List Cond := k2_sels lw_privs ++ tables_1
theorem lw_privs_ok : ∀ q ∈ lw_privs, lw_okq q := lw_r1
-- ===== end of PART A; what follows is written by wip/p43/mk01.py
/-- classes: name, fields (declaring one, name, descriptor, final), types, which are references -/
def clsL : List (String × List (String × String × String × Bool) × List FieldType × List Bool) := [
  ("NutsUp$Box", [("NutsUp$Box", "grains", "[LNutsUp$Grain;", true), ("NutsUp$Box", "count", "I", false), ("NutsUp$Box", "lies", "I", false), ("NutsUp$Box", "number", "I", false), ("NutsUp$Box", "rows", "[I", false)], [(.array (.object "NutsUp$Grain")), .int, .int, .int, (.array .int)], [true, false, false, false, true]),
  ("NutsUp$Cause", [("NutsUp$Cause", "letter", "I", true), ("NutsUp$Cause", "digit", "I", true), ("NutsUp$Cause", "hard", "I", true)], [.int, .int, .int], [false, false, false]),
  ("NutsUp$Grain", [("NutsUp$Grain", "number", "I", true), ("NutsUp$Grain", "kind", "I", true), ("NutsUp$Grain", "size", "I", true), ("NutsUp$Grain", "weight", "I", true), ("NutsUp$Grain", "bulk", "I", true), ("NutsUp$Grain", "heft", "I", true)], [.int, .int, .int, .int, .int, .int], [false, false, false, false, false, false]),
  ("NutsUp$Law", [("NutsUp$Law", "causes", "[LNutsUp$Cause;", true), ("NutsUp$Law", "motions", "[LNutsUp$Motion;", true)], [(.array (.object "NutsUp$Cause")), (.array (.object "NutsUp$Motion"))], [true, true]),
  ("NutsUp$LongGrain", [("NutsUp$Grain", "number", "I", true), ("NutsUp$Grain", "kind", "I", true), ("NutsUp$Grain", "size", "I", true), ("NutsUp$Grain", "weight", "I", true), ("NutsUp$Grain", "bulk", "I", true), ("NutsUp$Grain", "heft", "I", true)], [.int, .int, .int, .int, .int, .int], [false, false, false, false, false, false]),
  ("NutsUp$Motion", [("NutsUp$Motion", "rule", "LNutsUp$Rule;", true), ("NutsUp$Motion", "nexts", "[I", false), ("NutsUp$Motion", "boxNumber", "I", false)], [(.object "NutsUp$Rule"), (.array .int), .int], [true, true, false]),
  ("NutsUp$OilyGrain", [("NutsUp$Grain", "number", "I", true), ("NutsUp$Grain", "kind", "I", true), ("NutsUp$Grain", "size", "I", true), ("NutsUp$Grain", "weight", "I", true), ("NutsUp$Grain", "bulk", "I", true), ("NutsUp$Grain", "heft", "I", true)], [.int, .int, .int, .int, .int, .int], [false, false, false, false, false, false]),
  ("NutsUp$Rule", [("NutsUp$Rule", "changing", "[I", true), ("NutsUp$Rule", "changes", "I", false)], [(.array .int), .int], [true, false]),
  ("NutsUp$Search", [("NutsUp$Search", "queue", "[I", false), ("NutsUp$Search", "depth", "[I", false), ("NutsUp$Search", "cameFrom", "[I", false), ("NutsUp$Search", "cameBy", "[I", false), ("NutsUp$Search", "found", "I", false)], [(.array .int), (.array .int), (.array .int), (.array .int), .int], [true, true, true, true, false]),
  ("NutsUp$Sheet", [("NutsUp$Sheet", "cells", "[I", true), ("NutsUp$Sheet", "held", "Z", false), ("NutsUp$Sheet", "sort", "I", false), ("NutsUp$Sheet", "length", "I", false)], [(.array .int), .boolean, .int, .int], [true, false, false, false]),
  ("NutsUp$Trail", [("NutsUp$Trail", "sum", "I", false)], [.int], [false]),
  ("NutsUp", [("NutsUp", "box", "LNutsUp$Box;", true), ("NutsUp", "laws", "[LNutsUp$Law;", true), ("NutsUp", "lawCount", "I", false), ("NutsUp", "inForce", "I", false), ("NutsUp", "lieNow", "I", false), ("NutsUp", "shakes", "I", false), ("NutsUp", "readGrains", "[I", true), ("NutsUp", "readPlaces", "[I", true), ("NutsUp", "readings", "I", false), ("NutsUp", "sheets", "[LNutsUp$Sheet;", true), ("NutsUp", "trail", "LNutsUp$Trail;", true), ("NutsUp", "latestFault", "I", false), ("NutsUp", "spareRule", "LNutsUp$Rule;", true), ("NutsUp", "search", "LNutsUp$Search;", true), ("NutsUp", "far", "[I", false), ("NutsUp", "leap", "[I", false), ("NutsUp", "marks", "[I", false)], [(.object "NutsUp$Box"), (.array (.object "NutsUp$Law")), .int, .int, .int, .int, (.array .int), (.array .int), .int, (.array (.object "NutsUp$Sheet")), (.object "NutsUp$Trail"), .int, (.object "NutsUp$Rule"), (.object "NutsUp$Search"), (.array .int), (.array .int), (.array .int)], [true, true, false, false, false, false, true, true, false, true, true, false, true, true, true, true, true])]
def cR (ci : Nat) : String × List (String × String × String × Bool) × List FieldType × List Bool := (clsL[ci]?).getD ("", [], [], [])
def cn (ci : Nat) : String := (cR ci).1
def cT (ci : Nat) : u_T := fun k => ((cR ci).2.1[k]?).getD ("", "", "", false)
def cSz (ci : Nat) : Nat := (cR ci).2.1.length
def cTy (ci k : Nat) : FieldType := ((cR ci).2.2.1[k]?).getD .int
def rfs (ci k : Nat) : Bool := ((cR ci).2.2.2[k]?).getD false
abbrev classes : List vw_C := (List.range 12).map (fun ci => (cn ci, cT ci, cSz ci))
def onL : List String := ["NutsUp$Box", "NutsUp$Cause", "NutsUp$Grain", "NutsUp$Law", "NutsUp$LongGrain", "NutsUp$Motion", "NutsUp$OilyGrain", "NutsUp$Rule", "NutsUp$Search", "NutsUp$Sheet", "NutsUp$Trail", "NutsUp", "NutsUpModel", "NutsUpLaw", "java/lang/Object", "java/lang/Integer", "java/lang/Math", "java/lang/System", "java/util/Arrays"]
def on (o : Nat) : String := (onL[o]?).getD ""
def mtab0 : List (Nat × String × String × ByteArray × Nat × Option FieldType × Nat × Nat × Nat × Nat × Bool) := [
  (11, "<init>", "()V", prog_1_method_1_code, 2, none, 0, 2, 40, 35, true),
  (14, "<init>", "()V", object_method_1_code, 1, none, 0, 0, 0, 38, false),
  (0, "<init>", "()V", prog_2_method_1_code, 1, none, 0, 1, 20, 43, true),
  (10, "<init>", "()V", prog_12_method_1_code, 1, none, 0, 1, 20, 79, false),
  (7, "<init>", "()V", prog_9_method_1_code, 1, none, 0, 1, 20, 88, true),
  (8, "<init>", "()V", prog_10_method_1_code, 1, none, 0, 1, 20, 102, true),
  (9, "<init>", "()V", prog_11_method_1_code, 1, none, 0, 1, 20, 122, true),
  (11, "box", "(IIII)I", prog_1_method_2_code, 8, some Jvm.ClassFile.FieldType.int, 4, 6, 143, 196, true),
  (11, "refusalOfCells", "(IIII)I", prog_1_method_49_code, 6, some Jvm.ClassFile.FieldType.int, 4, 1, 22, 200, false),
  (11, "noSheet", "(I)Z", prog_1_method_47_code, 1, some Jvm.ClassFile.FieldType.boolean, 1, 0, 0, 203, false),
  (11, "noSort", "(I)Z", prog_1_method_48_code, 1, some Jvm.ClassFile.FieldType.boolean, 1, 0, 0, 206, false),
  (11, "faulted", "(I)I", prog_1_method_50_code, 2, some Jvm.ClassFile.FieldType.int, 1, 0, 0, 210, false),
  (9, "hasNot", "(II)Z", prog_11_method_4_code, 3, some Jvm.ClassFile.FieldType.boolean, 2, 0, 0, 214, false),
  (0, "firstFault", "([III)I", prog_2_method_2_code, 6, some Jvm.ClassFile.FieldType.int, 3, 1, 22, 217, false),
  (0, "stateBehind", "(III)I", prog_2_method_3_code, 3, some Jvm.ClassFile.FieldType.int, 3, 0, 0, 220, false),
  (0, "fill", "([III)V", prog_2_method_4_code, 7, none, 3, 5, 117, 224, true),
  (0, "kindAt", "([III)I", prog_2_method_5_code, 3, some Jvm.ClassFile.FieldType.int, 3, 0, 0, 227, false),
  (0, "grainOf", "(IIII)LNutsUp$Grain;", prog_2_method_6_code, 4, some (Jvm.ClassFile.FieldType.object "NutsUp$Grain"), 4, 4, 94, 230, true),
  (2, "<init>", "(III)V", prog_4_method_1_code, 4, none, 3, 2, 46, 234, false),
  (2, "<init>", "(IIIIII)V", prog_4_method_2_code, 7, none, 6, 1, 20, 237, false),
  (4, "<init>", "(III)V", prog_6_method_1_code, 4, none, 3, 2, 46, 270, false),
  (6, "<init>", "(III)V", prog_8_method_1_code, 4, none, 3, 3, 71, 283, false),
  (4, "<init>", "(IIIII)V", prog_6_method_2_code, 6, none, 5, 2, 46, 286, false),
  (11, "wideEnough", "([II)[I", prog_1_method_54_code, 2, some (Jvm.ClassFile.FieldType.array Jvm.ClassFile.FieldType.int), 2, 0, 0, 298, true),
  (18, "fill", "([II)V", prog_17_method_103_code, 4, none, 2, 0, 0, 301, false),
  (11, "widenRows", "()V", prog_1_method_53_code, 1, none, 0, 2, 42, 305, true),
  (8, "widen", "(I)V", prog_10_method_2_code, 2, none, 1, 1, 21, 310, true),
  (11, "ofGrain", "(II)I", prog_1_method_3_code, 4, some Jvm.ClassFile.FieldType.int, 2, 2, 48, 315, false),
  (11, "noGrain", "(I)Z", prog_1_method_43_code, 2, some Jvm.ClassFile.FieldType.boolean, 1, 0, 0, 319, false),
  (0, "rowOf", "(I)I", prog_2_method_8_code, 2, some Jvm.ClassFile.FieldType.int, 1, 1, 27, 323, false),
  (0, "madeRow", "(I)I", prog_2_method_9_code, 8, some Jvm.ClassFile.FieldType.int, 1, 0, 0, 327, false),
  (0, "placeOf", "(II)I", prog_2_method_11_code, 4, some Jvm.ClassFile.FieldType.int, 2, 1, 21, 332, false),
  (0, "grainIn", "(II)I", prog_2_method_7_code, 2, some Jvm.ClassFile.FieldType.int, 2, 0, 0, 335, false),
  (11, "at", "(I)I", prog_1_method_4_code, 2, some Jvm.ClassFile.FieldType.int, 1, 2, 48, 339, false),
  (11, "noPlace", "(I)Z", prog_1_method_44_code, 2, some Jvm.ClassFile.FieldType.boolean, 1, 0, 0, 343, false)]
def mtab1 : List (Nat × String × String × ByteArray × Nat × Option FieldType × Nat × Nat × Nat × Nat × Bool) := [
  (11, "lie", "()I", prog_1_method_5_code, 1, some Jvm.ClassFile.FieldType.int, 0, 1, 20, 348, false),
  (11, "noBox", "()Z", prog_1_method_42_code, 1, some Jvm.ClassFile.FieldType.boolean, 0, 0, 0, 352, false),
  (11, "lay", "(I)I", prog_1_method_6_code, 3, some Jvm.ClassFile.FieldType.int, 1, 1, 21, 356, false),
  (11, "noLie", "(I)Z", prog_1_method_45_code, 2, some Jvm.ClassFile.FieldType.boolean, 1, 0, 0, 360, false),
  (11, "of", "(II)I", prog_1_method_7_code, 3, some Jvm.ClassFile.FieldType.int, 2, 2, 48, 364, false),
  (11, "law", "(IIII)I", prog_1_method_8_code, 8, some Jvm.ClassFile.FieldType.int, 4, 4, 85, 368, true),
  (3, "firstFault", "([III)I", prog_5_method_2_code, 4, some Jvm.ClassFile.FieldType.int, 3, 2, 42, 371, false),
  (3, "goesOn", "(II)Z", prog_5_method_3_code, 2, some Jvm.ClassFile.FieldType.boolean, 2, 1, 21, 374, false),
  (1, "letterOf", "(I)I", prog_3_method_2_code, 2, some Jvm.ClassFile.FieldType.int, 1, 0, 0, 377, false),
  (3, "<init>", "([III)V", prog_5_method_1_code, 6, none, 3, 3, 60, 383, true),
  (1, "<init>", "(III)V", prog_3_method_1_code, 4, none, 3, 1, 20, 392, false),
  (5, "<init>", "()V", prog_7_method_1_code, 1, none, 0, 2, 40, 408, true),
  (11, "use", "(I)I", prog_1_method_10_code, 3, some Jvm.ClassFile.FieldType.int, 1, 0, 0, 436, false),
  (11, "cause", "(IIII)I", prog_1_method_11_code, 6, some Jvm.ClassFile.FieldType.int, 4, 2, 49, 440, false),
  (11, "noHard", "(I)Z", prog_1_method_46_code, 1, some Jvm.ClassFile.FieldType.boolean, 1, 0, 0, 443, false),
  (11, "lawInForce", "()LNutsUp$Law;", prog_1_method_52_code, 1, some (Jvm.ClassFile.FieldType.object "NutsUp$Law"), 0, 0, 0, 447, false),
  (3, "ruling", "(LNutsUp$Grain;LNutsUp$Grain;III)I", prog_5_method_4_code, 7, some Jvm.ClassFile.FieldType.int, 5, 1, 23, 451, false),
  (1, "isSo", "(LNutsUp$Grain;LNutsUp$Grain;I)Z", prog_3_method_3_code, 4, some Jvm.ClassFile.FieldType.boolean, 3, 0, 0, 455, false),
  (11, "shake", "(II)I", prog_1_method_12_code, 6, some Jvm.ClassFile.FieldType.int, 2, 5, 123, 459, true),
  (11, "shakeOnce", "(LNutsUp$Law;I)I", prog_1_method_56_code, 4, some Jvm.ClassFile.FieldType.int, 2, 4, 100, 463, true),
  (11, "motionOf", "(LNutsUp$Law;I)LNutsUp$Motion;", prog_1_method_55_code, 4, some (Jvm.ClassFile.FieldType.object "NutsUp$Motion"), 2, 3, 77, 467, true),
  (7, "learn", "(LNutsUp$Box;LNutsUp$Law;II)V", prog_9_method_2_code, 9, none, 4, 2, 49, 471, false),
  (1, "makesChange", "()Z", prog_3_method_4_code, 1, some Jvm.ClassFile.FieldType.boolean, 0, 0, 0, 476, false),
  (5, "forget", "(I)V", prog_7_method_2_code, 2, none, 1, 2, 46, 480, true),
  (18, "fill", "([IIII)V", prog_17_method_104_code, 5, none, 4, 1, 22, 484, false),
  (18, "rangeCheck", "(III)V", prog_17_method_30_code, 3, none, 3, 0, 0, 487, false),
  (7, "shaken", "(II)I", prog_9_method_3_code, 3, some Jvm.ClassFile.FieldType.int, 2, 2, 48, 491, false),
  (7, "pairsShaken", "(III)I", prog_9_method_4_code, 8, some Jvm.ClassFile.FieldType.int, 3, 1, 21, 495, false),
  (0, "lieOf", "(I)I", prog_2_method_10_code, 6, some Jvm.ClassFile.FieldType.int, 1, 1, 21, 500, false),
  (15, "bitCount", "(I)I", prog_15_method_49_code, 1, some Jvm.ClassFile.FieldType.int, 1, 0, 0, 503, false),
  (11, "doing", "(IIII)I", prog_1_method_13_code, 10, some Jvm.ClassFile.FieldType.int, 4, 5, 123, 510, true),
  (11, "allHard", "([III)Z", prog_1_method_51_code, 4, some Jvm.ClassFile.FieldType.boolean, 3, 1, 20, 513, false),
  (11, "turn", "()I", prog_1_method_14_code, 1, some Jvm.ClassFile.FieldType.int, 0, 3, 69, 517, false),
  (11, "turned", "(I)I", prog_1_method_57_code, 2, some Jvm.ClassFile.FieldType.int, 1, 2, 48, 521, false),
  (0, "turnedRow", "(I)I", prog_2_method_12_code, 4, some Jvm.ClassFile.FieldType.int, 1, 1, 21, 525, false)]
def mtab2 : List (Nat × String × String × ByteArray × Nat × Option FieldType × Nat × Nat × Nat × Nat × Bool) := [
  (11, "spoon", "()I", prog_1_method_15_code, 2, some Jvm.ClassFile.FieldType.int, 0, 3, 69, 529, false),
  (11, "spooned", "(I)I", prog_1_method_58_code, 2, some Jvm.ClassFile.FieldType.int, 1, 2, 48, 533, false),
  (0, "spoonedRow", "(I)I", prog_2_method_13_code, 2, some Jvm.ClassFile.FieldType.int, 1, 1, 21, 537, false),
  (11, "next", "(II)I", prog_1_method_16_code, 4, some Jvm.ClassFile.FieldType.int, 2, 4, 100, 541, true),
  (5, "after", "(LNutsUp$Box;I)I", prog_7_method_3_code, 3, some Jvm.ClassFile.FieldType.int, 2, 3, 70, 545, false),
  (11, "still", "(III)I", prog_1_method_17_code, 8, some Jvm.ClassFile.FieldType.int, 3, 4, 100, 552, true),
  (11, "soon", "(III)I", prog_1_method_18_code, 5, some Jvm.ClassFile.FieldType.int, 3, 4, 100, 557, true),
  (11, "soonBy", "(LNutsUp$Rule;II)I", prog_1_method_60_code, 7, some Jvm.ClassFile.FieldType.int, 3, 3, 70, 561, false),
  (11, "isTimeToMark", "(I)Z", prog_1_method_61_code, 1, some Jvm.ClassFile.FieldType.boolean, 1, 0, 0, 564, false),
  (11, "boss", "(III)I", prog_1_method_19_code, 11, some Jvm.ClassFile.FieldType.int, 3, 5, 124, 568, true),
  (11, "counted", "(I)I", prog_1_method_62_code, 1, some Jvm.ClassFile.FieldType.int, 1, 0, 0, 572, false),
  (16, "abs", "(I)I", prog_16_method_59_code, 1, some Jvm.ClassFile.FieldType.int, 1, 0, 0, 575, false),
  (11, "sheet", "(III)I", prog_1_method_31_code, 4, some Jvm.ClassFile.FieldType.int, 3, 2, 45, 579, false),
  (9, "renew", "(II)V", prog_11_method_2_code, 3, none, 2, 1, 23, 583, false),
  (11, "put", "(III)I", prog_1_method_33_code, 5, some Jvm.ClassFile.FieldType.int, 3, 1, 21, 588, false),
  (9, "cut", "(I)I", prog_11_method_3_code, 2, some Jvm.ClassFile.FieldType.int, 1, 0, 0, 592, false),
  (11, "many", "(I)I", prog_1_method_41_code, 2, some Jvm.ClassFile.FieldType.int, 1, 0, 0, 596, false),
  (13, "cell", "([II)I", method_2_code, 2, some Jvm.ClassFile.FieldType.int, 2, 0, 0, 599, false),
  (13, "some", "(II)I", method_3_code, 2, some Jvm.ClassFile.FieldType.int, 2, 0, 0, 603, false),
  (13, "put", "(LNutsUp;[III[I)I", method_4_code, 9, some Jvm.ClassFile.FieldType.int, 5, 3, 68, 607, false),
  (13, "causes", "(LNutsUp;[II[I)I", method_5_code, 9, some Jvm.ClassFile.FieldType.int, 4, 3, 68, 610, false),
  (13, "ruling", "([I[IIIIII)I", method_8_code, 12, some Jvm.ClassFile.FieldType.int, 7, 1, 21, 613, false),
  (13, "bulk", "([II)I", method_6_code, 2, some Jvm.ClassFile.FieldType.int, 2, 0, 0, 616, false),
  (13, "heft", "([II)I", method_7_code, 2, some Jvm.ClassFile.FieldType.int, 2, 0, 0, 619, false),
  (13, "shake", "([I[II[II)I", method_9_code, 10, some Jvm.ClassFile.FieldType.int, 5, 2, 52, 622, false),
  (13, "number", "([I[I)I", method_10_code, 7, some Jvm.ClassFile.FieldType.int, 2, 0, 0, 625, false),
  (13, "open", "([II[I)V", method_11_code, 8, none, 3, 0, 0, 628, false),
  (13, "soon", "([I[IIIII)I", method_14_code, 9, some Jvm.ClassFile.FieldType.int, 6, 4, 108, 631, true),
  (13, "isRound", "([I[II[III)Z", method_15_code, 8, some Jvm.ClassFile.FieldType.boolean, 6, 3, 81, 634, true),
  (13, "law", "([I)Z", code, 28, some Jvm.ClassFile.FieldType.boolean, 1, 7, 170, 0, true)]
def mt (m : Nat) : Nat × String × String × ByteArray × Nat × Option FieldType × Nat × Nat × Nat × Nat × Bool := ((if m < 35 then mtab0[m]? else if m < 70 then mtab1[m - 35]? else mtab2[m - 70]?)).getD (0, "", "", ⟨#[]⟩, 0, none, 0, 0, 0, 0, false)
def mO (m : Nat) : Nat := (mt m).1
def mY (m : Nat) : MethodName := ⟨on (mt m).1, (mt m).2.1, (mt m).2.2.1⟩
def mB (m : Nat) : ByteArray := (mt m).2.2.2.1
def mL (m : Nat) : Nat := (mt m).2.2.2.2.1
def mR (m : Nat) : Option FieldType := (mt m).2.2.2.2.2.1
def mA (m : Nat) : Nat := (mt m).2.2.2.2.2.2.1
def mF (m : Nat) : Nat := (mt m).2.2.2.2.2.2.2.1
def mLc (m : Nat) : Nat := (mt m).2.2.2.2.2.2.2.2.1
def mW (m : Nat) : Nat := (mt m).2.2.2.2.2.2.2.2.2.1
def mv (m : Nat) : Bool := (mt m).2.2.2.2.2.2.2.2.2.2
/-- fields by owner and index: the holder, the place, the word -/
def fldTab : List (Nat × Nat × Nat × Nat × Nat) := [(0, 11, 0, 0, 47), (7, 21, 0, 0, 48), (11, 103, 0, 0, 49), (7, 15, 0, 1, 50), (11, 96, 0, 1, 51), (5, 38, 0, 1, 52), (0, 25, 0, 1, 53), (0, 40, 0, 2, 54), (11, 204, 0, 2, 55), (0, 43, 0, 3, 56), (11, 339, 0, 3, 57), (0, 17, 0, 4, 58), (7, 9, 7, 0, 90), (7, 49, 7, 1, 91), (11, 345, 7, 1, 92), (8, 9, 8, 0, 104), (8, 15, 8, 1, 105), (8, 18, 8, 2, 106), (8, 21, 8, 3, 107), (9, 9, 9, 0, 124), (11, 72, 9, 0, 125), (9, 15, 9, 1, 126), (11, 291, 9, 1, 127), (9, 19, 9, 2, 128), (11, 301, 9, 2, 129), (9, 23, 9, 3, 130), (11, 295, 9, 3, 131), (11, 12, 11, 0, 141), (11, 20, 11, 1, 142), (11, 146, 11, 2, 143), (11, 166, 11, 3, 144), (11, 86, 11, 4, 145), (11, 93, 11, 5, 146), (11, 24, 11, 6, 147), (11, 28, 11, 7, 148), (11, 90, 11, 8, 149), (11, 33, 11, 9, 150), (11, 40, 11, 10, 151), (11, 266, 11, 11, 152), (11, 47, 11, 12, 153), (11, 54, 11, 13, 154), (11, 58, 11, 14, 155), (11, 61, 11, 15, 156), (11, 64, 11, 16, 157), (2, 12, 2, 0, 239), (2, 16, 2, 1, 240), (11, 107, 2, 1, 241), (1, 33, 2, 1, 242), (2, 19, 2, 2, 243), (11, 112, 2, 2, 244), (2, 22, 2, 3, 245), (11, 115, 2, 3, 246), (2, 25, 2, 4, 247), (1, 25, 2, 4, 248), (11, 118, 2, 4, 249), (2, 28, 2, 5, 250), (1, 30, 2, 5, 251), (11, 121, 2, 5, 252), (1, 9, 1, 0, 394), (1, 15, 1, 1, 395), (1, 18, 1, 2, 396), (3, 35, 1, 2, 397), (5, 10, 5, 0, 412), (11, 212, 5, 0, 413), (5, 16, 5, 1, 414), (11, 336, 5, 2, 415), (3, 19, 3, 0, 423), (7, 31, 3, 0, 424), (11, 151, 3, 0, 425), (3, 11, 3, 1, 426), (11, 332, 3, 1, 427)]
def fld (o i : Nat) : Option (Nat × Nat) := (fldTab.find? (fun q => q.1 == o && q.2.1 == i)).map (fun q => (q.2.2.1, q.2.2.2.1))
/-- constant rows: owner, index, role, name -/
def stfTab : List (Nat × Nat × Nat × String) := [(0, 37, 500, "FACTORIALS"), (1, 21, 501, "LETTERS")]
def stf (o i : Nat) : Option Nat := (stfTab.find? (fun q => q.1 == o && q.2.1 == i)).map (fun q => q.2.2.1)
/-- new: owner, index, class, words of link, making, readiness -/
def newTab : List (Nat × Nat × Nat × Nat × Nat × Nat) := [(13, 20, 11, 31, 32, 16), (11, 9, 0, 39, 40, 17), (0, 9, 2, 45, 231, 23), (11, 18, 3, 71, 380, 27), (11, 31, 9, 73, 119, 21), (11, 37, 10, 75, 76, 18), (11, 44, 7, 84, 85, 19), (11, 51, 8, 98, 99, 20), (0, 59, 4, 266, 267, 24), (0, 62, 6, 279, 280, 25), (3, 9, 5, 385, 405, 29), (3, 17, 1, 387, 389, 28), (5, 7, 7, 410, 85, 19)]
def newt (o i : Nat) : Option Nat := (newTab.find? (fun q => q.1 == o && q.2.1 == i)).map (fun q => q.2.2.1)
/-- arrays of references: owner, index, tag, words of link and of the array -/
def anwTab : List (Nat × Nat × Nat × Nat × Nat) := [(0, 9, 21, 45, 46), (11, 18, 22, 71, 72), (11, 31, 23, 73, 74), (3, 9, 25, 385, 386), (3, 17, 24, 387, 388)]
def anwt (o i : Nat) : Option Nat := (anwTab.find? (fun q => q.1 == o && q.2.1 == i)).map (fun q => q.2.2.1)
def aName (t : Nat) : String := if t = 21 then "NutsUp$Grain" else if t = 22 then "NutsUp$Law" else if t = 23 then "NutsUp$Sheet" else if t = 24 then "NutsUp$Cause" else if t = 25 then "NutsUp$Motion" else ""
def aCls (t : Nat) : Nat := if t = 21 then 2 else if t = 22 then 3 else if t = 23 then 9 else if t = 24 then 1 else if t = 25 then 5 else 0
def ldcTab : List (Nat × Nat × Int × Nat) := [(0, 69, 1754760, 328), (15, 265, 1431655765, 504), (15, 266, 858993459, 505), (15, 267, 252645135, 506), (13, 7, 747796405, 600), (13, 8, 2147483647, 604)]
def ldct (o i : Nat) : Option Int32 := (ldcTab.find? (fun q => q.1 == o && q.2.1 == i)).map (fun q => Int32.ofInt q.2.2.1)
def ld2Tab : List (Nat × Nat × Int × Nat) := []
def ld2t (o i : Nat) : Option Int64 := (ld2Tab.find? (fun q => q.1 == o && q.2.1 == i)).map (fun q => Int64.ofInt q.2.2.1)
/-- calls: owner, index, kind (0 static, 1 on an object, 2 a making, 3 static of a nest mate, 4 a making of one, 5 by the kind of the object, 6 of the class above, 7 copying), method, word -/
def calTab : List (Nat × Nat × Nat × Nat × Nat) := [(0, 3, 8, 1, 44), (0, 21, 0, 14, 218), (0, 29, 0, 16, 225), (0, 33, 0, 17, 228), (0, 46, 3, 23, 296), (0, 50, 0, 24, 299), (0, 56, 2, 18, 232), (0, 61, 2, 20, 268), (0, 64, 2, 21, 281), (0, 65, 1, 30, 324), (0, 70, 0, 32, 333), (0, 74, 0, 64, 501), (1, 3, 8, 1, 393), (2, 1, 2, 19, 235), (2, 7, 8, 1, 238), (3, 3, 8, 1, 384), (3, 23, 0, 43, 375), (3, 27, 2, 45, 390), (3, 30, 4, 46, 406), (3, 31, 0, 42, 372), (3, 39, 1, 52, 452), (4, 1, 2, 19, 271), (5, 1, 8, 1, 409), (5, 9, 4, 4, 411), (5, 20, 3, 23, 481), (5, 26, 0, 59, 482), (5, 32, 1, 29, 546), (5, 42, 1, 61, 547), (5, 46, 1, 63, 548), (6, 1, 2, 22, 284), (7, 3, 8, 1, 89), (7, 25, 1, 51, 472), (7, 35, 1, 57, 473), (7, 41, 1, 62, 492), (7, 45, 0, 32, 496), (8, 3, 8, 1, 103), (8, 24, 3, 23, 311), (9, 3, 8, 1, 123), (9, 26, 0, 24, 584), (10, 1, 8, 1, 80), (11, 3, 8, 1, 36), (11, 11, 4, 2, 41), (11, 39, 4, 3, 77), (11, 46, 4, 4, 86), (11, 53, 4, 5, 100), (11, 67, 4, 6, 120), (11, 68, 1, 8, 197), (11, 75, 0, 13, 215), (11, 79, 1, 15, 221), (11, 83, 1, 25, 302), (11, 99, 1, 28, 316), (11, 124, 1, 29, 320), (11, 128, 1, 31, 329), (11, 132, 1, 34, 340), (11, 135, 0, 32, 344), (11, 138, 1, 36, 349), (11, 142, 1, 38, 357), (11, 145, 0, 41, 369), (11, 149, 2, 44, 381), (11, 169, 0, 49, 441), (11, 172, 1, 50, 444), (11, 176, 1, 51, 448), (11, 180, 1, 54, 460), (11, 184, 0, 66, 511), (11, 188, 1, 68, 518), (11, 191, 1, 71, 530), (11, 194, 1, 55, 464), (11, 198, 1, 74, 542), (11, 207, 0, 59, 553), (11, 215, 1, 77, 558), (11, 219, 1, 76, 569), (11, 223, 1, 56, 468), (11, 227, 0, 80, 570), (11, 230, 0, 81, 573), (11, 272, 0, 78, 562), (11, 275, 1, 61, 488), (11, 278, 0, 9, 201), (11, 281, 0, 10, 204), (11, 284, 1, 11, 207), (11, 287, 1, 83, 580), (11, 298, 1, 85, 589), (11, 304, 1, 12, 211), (11, 324, 0, 23, 306), (11, 328, 1, 26, 307), (11, 342, 1, 58, 477), (11, 348, 1, 63, 497), (11, 351, 1, 69, 522), (11, 354, 1, 72, 534), (13, 9, 0, 87, 597), (13, 15, 0, 88, 601), (13, 19, 1, 82, 576), (13, 25, 1, 84, 585), (13, 28, 0, 92, 614), (13, 31, 0, 93, 617), (13, 34, 0, 91, 611), (13, 38, 0, 96, 626), (13, 42, 0, 98, 632), (13, 46, 0, 94, 620), (13, 50, 0, 95, 623), (13, 54, 2, 0, 33), (13, 55, 0, 89, 605), (13, 58, 1, 7, 193), (13, 62, 1, 53, 456), (13, 64, 0, 90, 608), (13, 68, 1, 40, 365), (13, 71, 1, 86, 593), (13, 75, 1, 67, 514), (13, 79, 1, 70, 526), (13, 82, 1, 37, 353), (13, 85, 1, 65, 507), (13, 88, 1, 35, 345), (13, 91, 1, 33, 336), (13, 94, 1, 39, 361), (13, 97, 1, 27, 312), (13, 100, 1, 48, 437), (13, 103, 1, 73, 538), (13, 106, 1, 75, 549), (13, 109, 0, 97, 629), (13, 113, 1, 76, 554), (13, 115, 1, 79, 565), (13, 118, 1, 47, 433), (18, 13, 0, 60, 485)]
def cal (o i : Nat) : Option (Nat × Nat) := (calTab.find? (fun q => q.1 == o && q.2.1 == i)).map (fun q => (q.2.2.1, q.2.2.2.1))
def virTab : List (Nat × Nat × Nat × Nat) := []
def vir (o i t : Nat) : Option Nat := (virTab.find? (fun q => q.1 == o && q.2.1 == i && q.2.2.1 == t)).map (fun q => q.2.2.2)
end
section
/-! A smaller machine over roles: what the methods of the class, of the reference and of the law do, without the tables. -/
/-- tags, lengths, numbers, links, how many cells and slots were made -/
abbrev Hp : Type := (Nat → Nat) × (Nat → Nat) × (Nat → Int → Int) × (Nat → Nat → Bool) × Nat × Nat
abbrev Rs : Type := Option (Value × Hp)
def tg (h : Hp) (r : Nat) : Nat := h.1 r
def ln (h : Hp) (r : Nat) : Nat := h.2.1 r
def iv (h : Hp) (r : Nat) (k : Int) : Int := h.2.2.1 r k
def I (z : Int) : Int32 := Int32.ofInt z
def fl (h : Hp) (r k : Nat) : Bool := h.2.2.2.1 r k
def up1 {α : Type} (f : Nat → α) (r : Nat) (v : α) : Nat → α := fun q => if q = r then v else f q
def up2 {κ α : Type} [DecidableEq κ] (f : Nat → κ → α) (r : Nat) (k : κ) (v : α) : Nat → κ → α := fun q j => if q = r ∧ j = k then v else f q j
def setI (h : Hp) (r : Nat) (k v : Int) : Hp := (h.1, h.2.1, up2 h.2.2.1 r k v, h.2.2.2)
def setR (h : Hp) (r : Nat) (f : Int → Int) : Hp := (h.1, h.2.1, up1 h.2.2.1 r f, h.2.2.2)
def setF (h : Hp) (r k : Nat) : Hp := (h.1, h.2.1, h.2.2.1, up2 h.2.2.2.1 r k true, h.2.2.2.2)
/-- a new cell in the role q: its tag, its length, how many slots -/
def mk (h : Hp) (q t n u : Nat) : Hp := (up1 h.1 q t, up1 h.2.1 q n, up1 h.2.2.1 q (fun _ => 0), up1 h.2.2.2.1 q (fun _ => false), h.2.2.2.2.1 + 1, h.2.2.2.2.2 + u)
/-- what has the role q comes to the role c, the slot k of r holds it -/
def mov (h : Hp) (r k c q : Nat) : Hp := (up1 (up1 h.1 c (h.1 q)) q 0, up1 h.2.1 c (h.2.1 q), up1 h.2.2.1 c (h.2.2.1 q), up2 (up1 h.2.2.2.1 c (fun _ => false)) r k true, h.2.2.2.2)
/-- the role of what the slot k of the role r can hold -/
def child (r k : Nat) : Nat :=
  if r = 0 then (if k = 0 then 1 else if k = 1 then 4 else if k = 6 then 5 else if k = 7 then 6 else if k = 9 then 7 else if k = 10 then 16 else if k = 12 then 17 else if k = 13 then 19 else if k = 14 then 24 else if k = 15 then 25 else if k = 16 then 26 else 9999)
  else if r = 1 then (if k = 0 then 2 else if k = 4 then 3 else 9999)
  else if r = 2 then (if k < 7 then 30 + k else 9999)
  else if r = 4 then (if k < 4 then 64 * (k + 1) else 9999)
  else if r = 7 then (if k < 4 then 8 + k else 9999)
  else if 8 ≤ r ∧ r < 12 then (if k = 0 then r + 4 else 9999)
  else if r = 17 then (if k = 0 then 18 else 9999)
  else if r = 19 then (if k < 4 then 20 + k else 9999)
  else if r = 400 then (if k < 37 then 401 + k else 9999)
  else if 64 ≤ r ∧ r < 320 then
    (if r % 64 = 0 then (if k < 2 then r + 1 + k else 9999)
     else if r % 64 = 1 then (if k < 6 then r + 2 + k else 9999)
     else if r % 64 = 2 then (if k < 3 then r + 14 + 4 * k else 9999)
     else if r % 64 = 16 ∨ r % 64 = 20 ∨ r % 64 = 24 then (if k = 0 then r + 1 else if k = 1 then r + 3 else 9999)
     else if r % 64 = 17 ∨ r % 64 = 21 ∨ r % 64 = 25 then (if k = 0 then r + 1 else 9999)
     else 9999)
  else 9999
/-- roles whose cell can become another one -/
def gw (r : Nat) : Bool := r == 3 || (20 ≤ r && r ≤ 26) || (30 ≤ r && r ≤ 38) || (64 ≤ r && r < 320 && (r % 64 == 19 || r % 64 == 23 || r % 64 == 27))
def rfv : Value → Nat
  | .ref r => r
  | _ => 9999
def itv : Value → Nat
  | .int x => x.toInt.toNat
  | _ => 9999
def gt (ls : List Value) (k : Nat) : Value := (ls[k]?).getD (.retAddr 0)
/-- the role of what is made at a place of a method -/
def site (m pc : Nat) (ls : List Value) (h : Hp) : Nat :=
  if m = 0 then (match pc with | 5 => 1 | 17 => 4 | 26 => 5 | 34 => 6 | 41 => 7 | 48 => 16 | 59 => 17 | 70 => 19 | 82 => 24 | 89 => 25 | 96 => 26 | _ => 8 + itv (gt ls 1))
  else if m = 2 then (match pc with | 7 => 2 | _ => 3)
  else if m = 4 then rfv (gt ls 0) + 1
  else if m = 5 then (match pc with | 6 => 20 | 13 => 21 | 20 => 22 | _ => 23)
  else if m = 6 then rfv (gt ls 0) + 4
  else if m = 17 then 37
  else if m = 23 then 38
  else if m = 40 then 64 * ((iv h 0 2).toNat + 1)
  else if m = 44 then (match pc with | 6 => rfv (gt ls 0) + 2 | 18 => rfv (gt ls 0) + 1 | 51 => rfv (gt ls 0) + 3 + itv (gt ls 4) | _ => rfv (gt ls 0) + 16 + 4 * itv (gt ls 4))
  else if m = 46 then (match pc with | 5 => rfv (gt ls 0) + 1 | _ => rfv (gt ls 0) + 3)
  else if m = 99 then (match pc with | 0 => 0 | _ => 10000 + h.2.2.2.2.1)
  else if m = 97 ∨ m = 98 then 10000 + h.2.2.2.2.1
  else 9999
def isI : Value → Bool
  | .int _ => true
  | _ => false
def isJ : Value → Bool
  | .long _ => true
  | _ => false
def isL (v : Value) : Bool := v.category == 2
def isR : Value → Bool
  | .ref _ => true
  | .null => true
  | _ => false
/-- no reference to a role whose cell can become another one -/
def ngv : Value → Bool
  | .ref r => !gw r
  | _ => true
def ng (l : List Value) : Bool := l.all ngv
/-- no longs stand in its locals; what is laid into a local takes one place; the one ahead holds no long -/
def nol (m : Nat) : Bool := !(m == 999)
def okst (m : Nat) (ls : List Value) (k : Nat) : Bool := decide (k < ls.length) && (nol m || k == 0 || !isL (gt ls (k - 1)))
def tagok (ci t : Nat) : Bool := t == ci + 1 || (ci == 2 && (t == 5 || t == 7))
def elok (t q : Nat) : Bool := (t == 21 && (q == 3 || q == 5 || q == 7)) || ((t == 22 || t == 23 || t == 24 || t == 25) && q == aCls t + 1)
/-- a field may be written in the method -/
def pok (m ci k : Nat) : Bool := !((cT ci k).2.2.2) || (decide ((mt m).2.1 = "<init>") && decide ((cT ci k).1 = on (mO m)))
def okc (m y : Nat) : Bool := decide (mF y + 1 ≤ mF m) && decide (8 + (mL y + 11) + mLc y ≤ mLc m) && decide (y < 99) && y != 1
def bz (x : Int32) : Bool := x == 0 || x == 1
def inr (i : Int32) (n : Nat) : Bool := decide (0 ≤ i.toInt) && decide (i.toInt < n)
def lay : List Value → List Value
  | [] => []
  | v :: l => if isL v then v :: .retAddr 0 :: lay l else v :: lay l
def ent (y : Nat) (a : List Value) : List Value := lay a ++ List.replicate (mL y - (lay a).length) (.retAddr 0)
def cpy (f g : Int → Int) (sp dp n : Int) : Int → Int := fun k => if dp ≤ k ∧ k < dp + n then f (sp + (k - dp)) else g k
abbrev Go : Type := Nat → List Value → List Value → Hp → Rs
def gd (b : Bool) (r : Rs) : Rs := if b = true then r else none
def i1 (st : List Value) (f : Int32 → List Value → Rs) : Rs := match st with
  | .int x :: s => f x s
  | _ => none
def i2 (st : List Value) (f : Int32 → Int32 → List Value → Rs) : Rs := match st with
  | .int y :: .int x :: s => f x y s
  | _ => none
def l1 (st : List Value) (f : Int64 → List Value → Rs) : Rs := match st with
  | .long x :: s => f x s
  | _ => none
def l2 (st : List Value) (f : Int64 → Int64 → List Value → Rs) : Rs := match st with
  | .long y :: .long x :: s => f x y s
  | _ => none
def r1 (st : List Value) (f : Nat → List Value → Rs) : Rs := match st with
  | .ref r :: s => f r s
  | _ => none
def ri (st : List Value) (f : Nat → Int32 → List Value → Rs) : Rs := match st with
  | .int i :: .ref r :: s => f r i s
  | _ => none
def rii (st : List Value) (f : Nat → Int32 → Int32 → List Value → Rs) : Rs := match st with
  | .int x :: .int i :: .ref r :: s => f r i x s
  | _ => none
def rir (st : List Value) (f : Nat → Int32 → Nat → List Value → Rs) : Rs := match st with
  | .ref q :: .int i :: .ref r :: s => f r i q s
  | _ => none
def v1 (st : List Value) (f : Value → List Value → Rs) : Rs := match st with
  | v :: s => f v s
  | _ => none
def jmp (pc : Nat) (off : Int) (go : Nat → Rs) : Rs := gd (decide (0 ≤ (pc : Int) + off)) (go ((pc : Int) + off).toNat)
def cnd (c : Jvm.ClassFile.Cond) (x y : Int32) : Prop := match c with
  | .eq => x = y
  | .ne => ¬ x = y
  | .lt => x < y
  | .ge => y ≤ x
  | .gt => y < x
  | .le => x ≤ y
def brn (c : Jvm.ClassFile.Cond) (x y : Int32) (a b : Rs) : Rs := match c with
  | .eq => if x = y then a else b
  | .ne => if x = y then b else a
  | .lt => if x < y then a else b
  | .ge => if x < y then b else a
  | .gt => if y < x then a else b
  | .le => if y < x then b else a
/-- the first n of a stack, as arguments -/
def takeA (n : Nat) (st : List Value) : List Value := (st.take n).reverse
def okT (h : Hp) : Value → Bool
  | .ref r => h.1 r != 0
  | _ => true
/-- behind a call -/
def back (y : Nat) (v : Value) (st : List Value) : List Value := if mR y = none then st else v :: st
def cll (m pc y : Nat) (ls st : List Value) (h : Hp) (go : Go) (call : Nat → List Value → Hp → Rs) (a : List Value) : Rs :=
  gd (okc m y && decide (st.length ≤ 4) && (!nol y || a.all (fun v => !isL v)) && decide ((lay a).length ≤ mL y) && (!mv y || (mv m && ng ls && ng st))) (match call y a h with
    | some (v, h') => go (pc + 3) ls (back y v st) h'
    | none => none)
def onobj (y : Nat) (st : List Value) (f : Nat → List Value → List Value → Rs) : Rs := r1 (st.drop (mA y)) (fun r s => gd (decide (mA y ≤ st.length)) (f r (takeA (mA y) st) s))
def stp (m pc len : Nat) (ls st : List Value) (h : Hp) (go : Go) (call : Nat → List Value → Hp → Rs) (i : Instr) : Rs :=
  match i with
  | .iconst n => go (pc + len) ls (.int (Int32.ofInt n) :: st) h
  | .bipush n => go (pc + len) ls (.int ((Int8.ofInt n).toInt32) :: st) h
  | .sipush n => go (pc + len) ls (.int ((Int16.ofInt n).toInt32) :: st) h
  | .lconst n => go (pc + len) ls (.long (Int64.ofNat (n : Nat)) :: st) h
  | .aconst_null => go (pc + len) ls (.null :: st) h
  | .ldc i => (match ldct (mO m) i with
    | some v => go (pc + len) ls (.int v :: st) h
    | none => none)
  | .ldc_w i => (match ldct (mO m) i with
    | some v => go (pc + len) ls (.int v :: st) h
    | none => none)
  | .ldc2_w i => (match ld2t (mO m) i with
    | some v => go (pc + len) ls (.long v :: st) h
    | none => none)
  | .iload k => gd (isI (gt ls k)) (go (pc + len) ls (gt ls k :: st) h)
  | .iload_n k => gd (isI (gt ls (k : Nat))) (go (pc + len) ls (gt ls (k : Nat) :: st) h)
  | .lload k => gd (isJ (gt ls k)) (go (pc + len) ls (gt ls k :: st) h)
  | .lload_n k => gd (isJ (gt ls (k : Nat))) (go (pc + len) ls (gt ls (k : Nat) :: st) h)
  | .aload k => gd (isR (gt ls k)) (go (pc + len) ls (gt ls k :: st) h)
  | .aload_n k => gd (isR (gt ls (k : Nat))) (go (pc + len) ls (gt ls (k : Nat) :: st) h)
  | .istore k => i1 st fun x s => gd (okst m ls k) (go (pc + len) (ls.set k (.int x)) s h)
  | .istore_n k => i1 st fun x s => gd (okst m ls k) (go (pc + len) (ls.set k (.int x)) s h)
  | .astore k => v1 st fun v s => gd (isR v && okst m ls k) (go (pc + len) (ls.set k v) s h)
  | .astore_n k => v1 st fun v s => gd (isR v && okst m ls k) (go (pc + len) (ls.set k v) s h)
  | .lstore k => l1 st fun x s => gd (!nol m && okst m ls k && decide (k + 1 < ls.length)) (go (pc + len) ((ls.set k (.long x)).set (k + 1) (.retAddr 0)) s h)
  | .lstore_n k => l1 st fun x s => gd (!nol m && okst m ls k && decide ((k : Nat) + 1 < ls.length)) (go (pc + len) ((ls.set k (.long x)).set (k + 1) (.retAddr 0)) s h)
  | .iinc k c => (match gt ls k with
    | .int x => gd (okst m ls k) (go (pc + len) (ls.set k (.int (x + Int32.ofInt c))) st h)
    | _ => none)
  | .iadd => i2 st fun x y s => go (pc + len) ls (.int (x + y) :: s) h
  | .isub => i2 st fun x y s => go (pc + len) ls (.int (x - y) :: s) h
  | .imul => i2 st fun x y s => go (pc + len) ls (.int (x * y) :: s) h
  | .idiv => i2 st fun x y s => gd (y != 0) (go (pc + len) ls (.int (x / y) :: s) h)
  | .irem => i2 st fun x y s => gd (y != 0) (go (pc + len) ls (.int (x % y) :: s) h)
  | .ineg => i1 st fun x s => go (pc + len) ls (.int (-x) :: s) h
  | .ishl => i2 st fun x y s => go (pc + len) ls (.int (x <<< (y &&& 31)) :: s) h
  | .ishr => i2 st fun x y s => go (pc + len) ls (.int (x >>> (y &&& 31)) :: s) h
  | .iushr => i2 st fun x y s => go (pc + len) ls (.int ((x.toUInt32 >>> (y.toUInt32 &&& Int32.toUInt32 31)).toInt32) :: s) h
  | .iand => i2 st fun x y s => go (pc + len) ls (.int (x &&& y) :: s) h
  | .ior => i2 st fun x y s => go (pc + len) ls (.int (x ||| y) :: s) h
  | .ixor => i2 st fun x y s => go (pc + len) ls (.int (x ^^^ y) :: s) h
  | .i2l => i1 st fun x s => go (pc + len) ls (.long x.toInt64 :: s) h
  | .i2b => i1 st fun x s => go (pc + len) ls (.int x.toInt8.toInt32 :: s) h
  | .i2s => i1 st fun x s => go (pc + len) ls (.int x.toInt16.toInt32 :: s) h
  | .ldiv => l2 st fun x y s => gd (y != 0) (go (pc + len) ls (.long (x / y) :: s) h)
  | .lrem => l2 st fun x y s => gd (y != 0) (go (pc + len) ls (.long (x % y) :: s) h)
  | .lcmp => l2 st fun x y s => go (pc + len) ls (.int (lg_cmp x y) :: s) h
  | .pop => v1 st fun v s => gd (!isL v && (isI v || isR v)) (go (pc + len) ls s h)
  | .dup => v1 st fun v s => gd (!isL v && (isI v || isR v)) (go (pc + len) ls (v :: v :: s) h)
  | .dup2 => v1 st fun v s => v1 s fun w s => gd (!isL v && (isI v || isR v) && (!isL w && (isI w || isR w))) (go (pc + len) ls (v :: w :: v :: w :: s) h)
  | .goto off => jmp pc off fun t => go t ls st h
  | .ifCond c off => i1 st fun x s => gd (decide (0 ≤ (pc : Int) + off)) (brn c x 0 (go ((pc : Int) + off).toNat ls s h) (go (pc + len) ls s h))
  | .if_icmp c off => i2 st fun x y s => gd (decide (0 ≤ (pc : Int) + off)) (brn c x y (go ((pc : Int) + off).toNat ls s h) (go (pc + len) ls s h))
  | .ifnull off => (match st with
    | .null :: s => jmp pc off fun t => go t ls s h
    | .ref _ :: s => go (pc + len) ls s h
    | _ => none)
  | .ifnonnull off => (match st with
    | .null :: s => go (pc + len) ls s h
    | .ref _ :: s => jmp pc off fun t => go t ls s h
    | _ => none)
  | .tableswitch d lo hi offs => i1 st fun x s => if x.toInt < lo ∨ hi < x.toInt then jmp pc d fun t => go t ls s h else (match offs[(x.toInt - lo).toNat]? with
    | some off => jmp pc off fun t => go t ls s h
    | none => none)
  | .lookupswitch d ps => i1 st fun x s => gd ((ps.toList.zip (ps.toList.drop 1)).all (fun (a, next) => a.1 < next.1)) (jmp pc (Op.lookupswitch.offset ps.toList d x.toInt) fun t => go t ls s h)
  | .getfield j => (match fld (mO m) j with
    | some (ci, k) => r1 st fun r s => gd (tagok ci (tg h r)) (if rfs ci k = true then gd (fl h r k && tg h (child r k) != 0) (go (pc + len) ls (.ref (child r k) :: s) h) else go (pc + len) ls (.int (I (iv h r (k : Nat))) :: s) h)
    | none => none)
  | .putfield j => (match fld (mO m) j with
    | some (ci, k) => gd (pok m ci k) (match st with
      | .int x :: .ref r :: s => gd (tagok ci (tg h r) && !rfs ci k && (cTy ci k == .int || bz x)) (go (pc + len) ls s (setI h r (k : Nat) x.toInt))
      | .ref q :: .ref r :: s => gd (tagok ci (tg h r) && rfs ci k) (if q = child r k then go (pc + len) ls s (setF h r k) else gd (mv m && q == 38 && gw (child r k) && !gw r && decide (child r k < 37 ∨ 38 < child r k) && tg h 38 == 20 && ng ls && ng s) (go (pc + len) ls s (mov h r k (child r k) q)))
      | _ => none)
    | none => none)
  | .getstatic j => (match stf (mO m) j with
    | some r => gd (tg h r == 30) (go (pc + len) ls (.ref r :: st) h)
    | none => none)
  | .iaload => ri st fun r i s => gd ((tg h r == 20 || tg h r == 30) && inr i (ln h r)) (go (pc + len) ls (.int (I (iv h r i.toInt)) :: s) h)
  | .iastore => rii st fun r i x s => gd (tg h r == 20 && inr i (ln h r)) (go (pc + len) ls s (setI h r i.toInt x.toInt))
  | .aaload => ri st fun r i s => gd (decide (21 ≤ tg h r) && decide (tg h r ≤ 25) && inr i (ln h r) && fl h r i.toInt.toNat && tg h (child r i.toInt.toNat) != 0) (go (pc + len) ls (.ref (child r i.toInt.toNat) :: s) h)
  | .aastore => rir st fun r i q s => gd (elok (tg h r) (tg h q) && inr i (ln h r)) (if q = child r i.toInt.toNat then go (pc + len) ls s (setF h r i.toInt.toNat) else gd (tg h r == 21 && mv m && q == 37 && gw (child r i.toInt.toNat) && !gw r && decide (child r i.toInt.toNat < 37) && ng ls && ng s) (go (pc + len) ls s (mov h r i.toInt.toNat (child r i.toInt.toNat) q)))
  | .arraylength => r1 st fun r s => gd (decide (20 ≤ tg h r) && decide (tg h r ≤ 25) || tg h r == 30) (go (pc + len) ls (.int (Int32.ofNat (ln h r)) :: s) h)
  | .new j => (match newt (mO m) j with
    | some ci => gd (mv m && tg h (site m pc ls h) == 0 && decide (site m pc ls h < 500 ∨ 10000 ≤ site m pc ls h)) (go (pc + len) ls (.ref (site m pc ls h) :: st) (mk h (site m pc ls h) (ci + 1) 0 (cSz ci)))
    | none => none)
  | .newarray t => i1 st fun x s => gd (mv m && t == .int && decide (0 ≤ x.toInt) && decide (x.toInt < 1000000) && tg h (site m pc ls h) == 0 && decide (site m pc ls h < 500 ∨ 10000 ≤ site m pc ls h)) (go (pc + len) ls (.ref (site m pc ls h) :: s) (mk h (site m pc ls h) 20 x.toInt.toNat x.toInt.toNat))
  | .anewarray j => (match anwt (mO m) j with
    | some t => i1 st fun x s => gd (mv m && decide (0 ≤ x.toInt) && decide (x.toInt < 1000000) && tg h (site m pc ls h) == 0 && decide (site m pc ls h < 500 ∨ 10000 ≤ site m pc ls h)) (go (pc + len) ls (.ref (site m pc ls h) :: s) (mk h (site m pc ls h) t x.toInt.toNat x.toInt.toNat))
    | none => none)
  | .invokestatic j => (match cal (mO m) j with
    | some (0, y) => gd (decide (mA y ≤ st.length)) (cll m pc y ls (st.drop (mA y)) h go call (takeA (mA y) st))
    | some (3, y) => gd (decide (mA y ≤ st.length)) (cll m pc y ls (st.drop (mA y)) h go call (takeA (mA y) st))
    | _ => none)
  | .invokespecial j => (match cal (mO m) j with
    | some (8, _) => r1 st fun _ s => gd (decide (1 ≤ mF m) && decide (20 ≤ mLc m) && decide (s.length ≤ 4)) (go (pc + 3) ls s h)
    | some (2, y) => onobj y st fun r a s => cll m pc y ls s h go call (.ref r :: a)
    | some (4, y) => onobj y st fun r a s => cll m pc y ls s h go call (.ref r :: a)
    | some (6, y) => onobj y st fun r a s => gd (tg h r == mO m + 1) (cll m pc y ls s h go call (.ref r :: a))
    | _ => none)
  | .invokevirtual j => (match cal (mO m) j with
    | some (1, y) => onobj y st fun r a s => gd (tg h r == mO y + 1) (cll m pc y ls s h go call (.ref r :: a))
    | some (5, y) => onobj y st fun r a s => (match vir (mO m) j (tg h r) with
      | some z => cll m pc z ls s h go call (.ref r :: a)
      | none => none)
    | _ => none)
  | .ireturn => (match st with
    | [.int x] => gd (mR m == some .int || (mR m == some .boolean && bz x)) (some (.int x, h))
    | _ => none)
  | .lreturn => (match st with
    | [.long x] => gd (mR m == some .long) (some (.long x, h))
    | _ => none)
  | .areturn => (match st with
    | [v] => gd (isR v && (match mR m with
      | some (.object _) => true
      | some (.array _) => true
      | _ => false)) (some (v, h))
    | _ => none)
  | .return_ => (match st with
    | [] => gd (mR m == none) (some (.null, h))
    | _ => none)
  | _ => none
def okl (i : Instr) (len : Nat) : Bool := match i with
  | .tableswitch .. => true
  | .lookupswitch .. => true
  | .bipush _ => len == 2
  | .ldc _ => len == 2
  | .iload _ => len == 2
  | .lload _ => len == 2
  | .aload _ => len == 2
  | .istore _ => len == 2
  | .lstore _ => len == 2
  | .astore _ => len == 2
  | .newarray _ => len == 2
  | .sipush _ => len == 3
  | .ldc_w _ => len == 3
  | .ldc2_w _ => len == 3
  | .iinc _ _ => len == 3
  | .ifCond _ _ => len == 3
  | .if_icmp _ _ => len == 3
  | .goto _ => len == 3
  | .ifnull _ => len == 3
  | .ifnonnull _ => len == 3
  | .getfield _ => len == 3
  | .putfield _ => len == 3
  | .getstatic _ => len == 3
  | .new _ => len == 3
  | .anewarray _ => len == 3
  | .invokestatic _ => len == 3
  | .invokespecial _ => len == 3
  | .invokevirtual _ => len == 3
  | _ => len == 1
def exec : Nat → Nat → Nat → List Value → List Value → Hp → Rs
  | 0, _, _, _, _, _ => none
  | n + 1, m, pc, ls, st, h => match decode (mB m) pc with
    | .ok (i, len) => gd (okl i len) (stp m pc len ls st h (exec n m) (fun y a h' => exec n y 0 (ent y a) [] h') i)
    | .error _ => none
end
section
/-! The tables of part 01 stand in the words of the claim. -/
def layTab : List (List Nat) := [[59, 61, 63, 65, 67], [398, 400, 402], [253, 255, 257, 259, 261, 263], [428, 430], [272, 273, 274, 275, 276, 277], [416, 418, 420], [287, 288, 289, 290, 291, 292], [93, 95], [108, 110, 112, 114, 116], [132, 134, 136, 138], [81], [158, 160, 162, 164, 166, 168, 170, 172, 174, 176, 178, 180, 182, 184, 186, 188, 190]]
/-- of each method the word that says whether it is static -/
def staTab : List Nat := [34, 37, 42, 78, 87, 101, 121, 194, 199, 202, 205, 209, 212, 216, 219, 222, 226, 229, 233, 236, 269, 282, 285, 297, 300, 304, 308, 313, 318, 321, 326, 330, 334, 337, 342, 346, 351, 354, 359, 362, 366, 370, 373, 376, 382, 391, 407, 434, 438, 442, 446, 449, 453, 457, 462, 466, 469, 474, 478, 483, 486, 489, 494, 498, 502, 508, 512, 515, 520, 523, 527, 532, 535, 539, 543, 550, 555, 560, 563, 566, 571, 574, 577, 581, 586, 590, 594, 598, 602, 606, 609, 612, 615, 618, 621, 624, 627, 630, 633]
def selTab : List Nat := [999999, 999999, 999999, 999999, 999999, 999999, 999999, 195, 0, 999999, 999999, 1, 213, 999999, 999999, 223, 999999, 999999, 999999, 999999, 999999, 999999, 999999, 999999, 999999, 2, 309, 314, 3, 322, 4, 331, 999999, 338, 5, 347, 6, 355, 7, 363, 367, 999999, 999999, 999999, 999999, 999999, 999999, 435, 439, 999999, 8, 450, 454, 458, 9, 10, 470, 475, 479, 999999, 999999, 490, 11, 499, 999999, 509, 999999, 516, 12, 524, 528, 13, 536, 540, 544, 551, 556, 14, 999999, 567, 999999, 999999, 578, 582, 587, 591, 595, 999999, 999999, 999999, 999999, 999999, 999999, 999999, 999999, 999999, 999999, 999999, 999999]
def iniTab : List Nat := [17, 28, 23, 27, 24, 29, 25, 19, 20, 21, 18, 16, 999999, 15, 999999, 26, 30, 999999, 22]
/-- by the kind of the object: owner, index, tag, what is run, what is named first, the class that is named, its word, the word of the choice -/
def virX : List (Nat × Nat × Nat × Nat × Nat × Nat × Nat × Nat × Nat) := []
def supX : List (Nat × Nat × Nat × Nat × Nat) := []
def goodWs : List Jvm.Cond := lw_tbl.filter goodWord
def nestW : Jvm.Cond → Bool
  | .methodLinkNest .. => true
  | .fieldLinkNest .. => true
  | .castable .. => true
  | .arrayOver (.object _) => true
  | _ => false
def nestWs : List Jvm.Cond := lw_tbl.filter nestW
theorem good_at {i : Nat} {w : Jvm.Cond} (h : lw_tbl[i]? = some w) (hg : goodWord w = true) : w ∈ goodWs := List.mem_filter.mpr ⟨List.mem_of_getElem? h, hg⟩
theorem nest_at {i : Nat} {w : Jvm.Cond} (h : lw_tbl[i]? = some w) (hg : nestW w = true) : w ∈ nestWs := List.mem_filter.mpr ⟨List.mem_of_getElem? h, hg⟩
def wAt (i : Nat) (w : Jvm.Cond) : Bool := decide (lw_tbl[i]? = some w)
theorem wAt_eq {i : Nat} {w : Jvm.Cond} (h : wAt i w = true) : lw_tbl[i]? = some w := of_decide_eq_true h
def at0 (l : List Nat) (i : Nat) : Nat := (l[i]?).getD 999999
def okLay (ci k : Nat) : Bool := wAt (at0 ((layTab[ci]?).getD []) k) (u_lay (cn ci) (cT ci) k)
theorem okLay_all : (List.range 12).all (fun ci => (List.range (cSz ci)).all (fun k => okLay ci k)) = true := by decide +kernel
def okFld (q : Nat × Nat × Nat × Nat × Nat) : Bool := wAt q.2.2.2.2 (.fieldLink (on q.1) q.2.1 (cT q.2.2.1 q.2.2.2.1).1 (cT q.2.2.1 q.2.2.2.1).2.1 (cT q.2.2.1 q.2.2.2.1).2.2.1) && decide (q.2.2.1 < 12) && decide (q.2.2.2.1 < cSz q.2.2.1)
theorem okFld_all : fldTab.all okFld = true := by decide +kernel
def okCode (y : Nat) : Bool := wAt (at0 iniTab (mO y)) (.initialized (mY y).cls) && decide ((mY y).cls ≠ "java/lang/invoke/MethodHandle" ∧ (mY y).cls ≠ "java/lang/invoke/VarHandle") && decide ((parseMethodDescriptor (mY y).desc).map (fun d => d.parameters.length) = some (mA y)) && plainFor (mY y)
theorem okCode_all : (List.range 99).all (fun y => y == 1 || okCode y) = true := by decide +kernel
theorem okCode_t2 : (List.range 99).filter (fun y => !plainFor (mY y)) = [1] := by decide +kernel
set_option maxRecDepth 100000 in
theorem cod_0 : lw_tbl[35]? = some (Jvm.Cond.code (mY 0) (mB 0) (mL 0) (mR 0)) := rfl
set_option maxRecDepth 100000 in
theorem cod_1 : lw_tbl[38]? = some (Jvm.Cond.code (mY 1) (mB 1) (mL 1) (mR 1)) := rfl
set_option maxRecDepth 100000 in
theorem cod_2 : lw_tbl[43]? = some (Jvm.Cond.code (mY 2) (mB 2) (mL 2) (mR 2)) := rfl
set_option maxRecDepth 100000 in
theorem cod_3 : lw_tbl[79]? = some (Jvm.Cond.code (mY 3) (mB 3) (mL 3) (mR 3)) := rfl
set_option maxRecDepth 100000 in
theorem cod_4 : lw_tbl[88]? = some (Jvm.Cond.code (mY 4) (mB 4) (mL 4) (mR 4)) := rfl
set_option maxRecDepth 100000 in
theorem cod_5 : lw_tbl[102]? = some (Jvm.Cond.code (mY 5) (mB 5) (mL 5) (mR 5)) := rfl
set_option maxRecDepth 100000 in
theorem cod_6 : lw_tbl[122]? = some (Jvm.Cond.code (mY 6) (mB 6) (mL 6) (mR 6)) := rfl
set_option maxRecDepth 100000 in
theorem cod_7 : lw_tbl[196]? = some (Jvm.Cond.code (mY 7) (mB 7) (mL 7) (mR 7)) := rfl
set_option maxRecDepth 100000 in
theorem cod_8 : lw_tbl[200]? = some (Jvm.Cond.code (mY 8) (mB 8) (mL 8) (mR 8)) := rfl
set_option maxRecDepth 100000 in
theorem cod_9 : lw_tbl[203]? = some (Jvm.Cond.code (mY 9) (mB 9) (mL 9) (mR 9)) := rfl
set_option maxRecDepth 100000 in
theorem cod_10 : lw_tbl[206]? = some (Jvm.Cond.code (mY 10) (mB 10) (mL 10) (mR 10)) := rfl
set_option maxRecDepth 100000 in
theorem cod_11 : lw_tbl[210]? = some (Jvm.Cond.code (mY 11) (mB 11) (mL 11) (mR 11)) := rfl
set_option maxRecDepth 100000 in
theorem cod_12 : lw_tbl[214]? = some (Jvm.Cond.code (mY 12) (mB 12) (mL 12) (mR 12)) := rfl
set_option maxRecDepth 100000 in
theorem cod_13 : lw_tbl[217]? = some (Jvm.Cond.code (mY 13) (mB 13) (mL 13) (mR 13)) := rfl
set_option maxRecDepth 100000 in
theorem cod_14 : lw_tbl[220]? = some (Jvm.Cond.code (mY 14) (mB 14) (mL 14) (mR 14)) := rfl
set_option maxRecDepth 100000 in
theorem cod_15 : lw_tbl[224]? = some (Jvm.Cond.code (mY 15) (mB 15) (mL 15) (mR 15)) := rfl
set_option maxRecDepth 100000 in
theorem cod_16 : lw_tbl[227]? = some (Jvm.Cond.code (mY 16) (mB 16) (mL 16) (mR 16)) := rfl
set_option maxRecDepth 100000 in
theorem cod_17 : lw_tbl[230]? = some (Jvm.Cond.code (mY 17) (mB 17) (mL 17) (mR 17)) := rfl
set_option maxRecDepth 100000 in
theorem cod_18 : lw_tbl[234]? = some (Jvm.Cond.code (mY 18) (mB 18) (mL 18) (mR 18)) := rfl
set_option maxRecDepth 100000 in
theorem cod_19 : lw_tbl[237]? = some (Jvm.Cond.code (mY 19) (mB 19) (mL 19) (mR 19)) := rfl
set_option maxRecDepth 100000 in
theorem cod_20 : lw_tbl[270]? = some (Jvm.Cond.code (mY 20) (mB 20) (mL 20) (mR 20)) := rfl
set_option maxRecDepth 100000 in
theorem cod_21 : lw_tbl[283]? = some (Jvm.Cond.code (mY 21) (mB 21) (mL 21) (mR 21)) := rfl
set_option maxRecDepth 100000 in
theorem cod_22 : lw_tbl[286]? = some (Jvm.Cond.code (mY 22) (mB 22) (mL 22) (mR 22)) := rfl
set_option maxRecDepth 100000 in
theorem cod_23 : lw_tbl[298]? = some (Jvm.Cond.code (mY 23) (mB 23) (mL 23) (mR 23)) := rfl
set_option maxRecDepth 100000 in
theorem cod_24 : lw_tbl[301]? = some (Jvm.Cond.code (mY 24) (mB 24) (mL 24) (mR 24)) := rfl
set_option maxRecDepth 100000 in
theorem cod_25 : lw_tbl[305]? = some (Jvm.Cond.code (mY 25) (mB 25) (mL 25) (mR 25)) := rfl
set_option maxRecDepth 100000 in
theorem cod_26 : lw_tbl[310]? = some (Jvm.Cond.code (mY 26) (mB 26) (mL 26) (mR 26)) := rfl
set_option maxRecDepth 100000 in
theorem cod_27 : lw_tbl[315]? = some (Jvm.Cond.code (mY 27) (mB 27) (mL 27) (mR 27)) := rfl
set_option maxRecDepth 100000 in
theorem cod_28 : lw_tbl[319]? = some (Jvm.Cond.code (mY 28) (mB 28) (mL 28) (mR 28)) := rfl
set_option maxRecDepth 100000 in
theorem cod_29 : lw_tbl[323]? = some (Jvm.Cond.code (mY 29) (mB 29) (mL 29) (mR 29)) := rfl
set_option maxRecDepth 100000 in
theorem cod_30 : lw_tbl[327]? = some (Jvm.Cond.code (mY 30) (mB 30) (mL 30) (mR 30)) := rfl
set_option maxRecDepth 100000 in
theorem cod_31 : lw_tbl[332]? = some (Jvm.Cond.code (mY 31) (mB 31) (mL 31) (mR 31)) := rfl
set_option maxRecDepth 100000 in
theorem cod_32 : lw_tbl[335]? = some (Jvm.Cond.code (mY 32) (mB 32) (mL 32) (mR 32)) := rfl
set_option maxRecDepth 100000 in
theorem cod_33 : lw_tbl[339]? = some (Jvm.Cond.code (mY 33) (mB 33) (mL 33) (mR 33)) := rfl
set_option maxRecDepth 100000 in
theorem cod_34 : lw_tbl[343]? = some (Jvm.Cond.code (mY 34) (mB 34) (mL 34) (mR 34)) := rfl
set_option maxRecDepth 100000 in
theorem cod_35 : lw_tbl[348]? = some (Jvm.Cond.code (mY 35) (mB 35) (mL 35) (mR 35)) := rfl
set_option maxRecDepth 100000 in
theorem cod_36 : lw_tbl[352]? = some (Jvm.Cond.code (mY 36) (mB 36) (mL 36) (mR 36)) := rfl
set_option maxRecDepth 100000 in
theorem cod_37 : lw_tbl[356]? = some (Jvm.Cond.code (mY 37) (mB 37) (mL 37) (mR 37)) := rfl
set_option maxRecDepth 100000 in
theorem cod_38 : lw_tbl[360]? = some (Jvm.Cond.code (mY 38) (mB 38) (mL 38) (mR 38)) := rfl
set_option maxRecDepth 100000 in
theorem cod_39 : lw_tbl[364]? = some (Jvm.Cond.code (mY 39) (mB 39) (mL 39) (mR 39)) := rfl
set_option maxRecDepth 100000 in
theorem cod_40 : lw_tbl[368]? = some (Jvm.Cond.code (mY 40) (mB 40) (mL 40) (mR 40)) := rfl
set_option maxRecDepth 100000 in
theorem cod_41 : lw_tbl[371]? = some (Jvm.Cond.code (mY 41) (mB 41) (mL 41) (mR 41)) := rfl
set_option maxRecDepth 100000 in
theorem cod_42 : lw_tbl[374]? = some (Jvm.Cond.code (mY 42) (mB 42) (mL 42) (mR 42)) := rfl
set_option maxRecDepth 100000 in
theorem cod_43 : lw_tbl[377]? = some (Jvm.Cond.code (mY 43) (mB 43) (mL 43) (mR 43)) := rfl
set_option maxRecDepth 100000 in
theorem cod_44 : lw_tbl[383]? = some (Jvm.Cond.code (mY 44) (mB 44) (mL 44) (mR 44)) := rfl
set_option maxRecDepth 100000 in
theorem cod_45 : lw_tbl[392]? = some (Jvm.Cond.code (mY 45) (mB 45) (mL 45) (mR 45)) := rfl
set_option maxRecDepth 100000 in
theorem cod_46 : lw_tbl[408]? = some (Jvm.Cond.code (mY 46) (mB 46) (mL 46) (mR 46)) := rfl
set_option maxRecDepth 100000 in
theorem cod_47 : lw_tbl[436]? = some (Jvm.Cond.code (mY 47) (mB 47) (mL 47) (mR 47)) := rfl
set_option maxRecDepth 100000 in
theorem cod_48 : lw_tbl[440]? = some (Jvm.Cond.code (mY 48) (mB 48) (mL 48) (mR 48)) := rfl
set_option maxRecDepth 100000 in
theorem cod_49 : lw_tbl[443]? = some (Jvm.Cond.code (mY 49) (mB 49) (mL 49) (mR 49)) := rfl
set_option maxRecDepth 100000 in
theorem cod_50 : lw_tbl[447]? = some (Jvm.Cond.code (mY 50) (mB 50) (mL 50) (mR 50)) := rfl
set_option maxRecDepth 100000 in
theorem cod_51 : lw_tbl[451]? = some (Jvm.Cond.code (mY 51) (mB 51) (mL 51) (mR 51)) := rfl
set_option maxRecDepth 100000 in
theorem cod_52 : lw_tbl[455]? = some (Jvm.Cond.code (mY 52) (mB 52) (mL 52) (mR 52)) := rfl
set_option maxRecDepth 100000 in
theorem cod_53 : lw_tbl[459]? = some (Jvm.Cond.code (mY 53) (mB 53) (mL 53) (mR 53)) := rfl
set_option maxRecDepth 100000 in
theorem cod_54 : lw_tbl[463]? = some (Jvm.Cond.code (mY 54) (mB 54) (mL 54) (mR 54)) := rfl
set_option maxRecDepth 100000 in
theorem cod_55 : lw_tbl[467]? = some (Jvm.Cond.code (mY 55) (mB 55) (mL 55) (mR 55)) := rfl
set_option maxRecDepth 100000 in
theorem cod_56 : lw_tbl[471]? = some (Jvm.Cond.code (mY 56) (mB 56) (mL 56) (mR 56)) := rfl
set_option maxRecDepth 100000 in
theorem cod_57 : lw_tbl[476]? = some (Jvm.Cond.code (mY 57) (mB 57) (mL 57) (mR 57)) := rfl
set_option maxRecDepth 100000 in
theorem cod_58 : lw_tbl[480]? = some (Jvm.Cond.code (mY 58) (mB 58) (mL 58) (mR 58)) := rfl
set_option maxRecDepth 100000 in
theorem cod_59 : lw_tbl[484]? = some (Jvm.Cond.code (mY 59) (mB 59) (mL 59) (mR 59)) := rfl
set_option maxRecDepth 100000 in
theorem cod_60 : lw_tbl[487]? = some (Jvm.Cond.code (mY 60) (mB 60) (mL 60) (mR 60)) := rfl
set_option maxRecDepth 100000 in
theorem cod_61 : lw_tbl[491]? = some (Jvm.Cond.code (mY 61) (mB 61) (mL 61) (mR 61)) := rfl
set_option maxRecDepth 100000 in
theorem cod_62 : lw_tbl[495]? = some (Jvm.Cond.code (mY 62) (mB 62) (mL 62) (mR 62)) := rfl
set_option maxRecDepth 100000 in
theorem cod_63 : lw_tbl[500]? = some (Jvm.Cond.code (mY 63) (mB 63) (mL 63) (mR 63)) := rfl
set_option maxRecDepth 100000 in
theorem cod_64 : lw_tbl[503]? = some (Jvm.Cond.code (mY 64) (mB 64) (mL 64) (mR 64)) := rfl
set_option maxRecDepth 100000 in
theorem cod_65 : lw_tbl[510]? = some (Jvm.Cond.code (mY 65) (mB 65) (mL 65) (mR 65)) := rfl
set_option maxRecDepth 100000 in
theorem cod_66 : lw_tbl[513]? = some (Jvm.Cond.code (mY 66) (mB 66) (mL 66) (mR 66)) := rfl
set_option maxRecDepth 100000 in
theorem cod_67 : lw_tbl[517]? = some (Jvm.Cond.code (mY 67) (mB 67) (mL 67) (mR 67)) := rfl
set_option maxRecDepth 100000 in
theorem cod_68 : lw_tbl[521]? = some (Jvm.Cond.code (mY 68) (mB 68) (mL 68) (mR 68)) := rfl
set_option maxRecDepth 100000 in
theorem cod_69 : lw_tbl[525]? = some (Jvm.Cond.code (mY 69) (mB 69) (mL 69) (mR 69)) := rfl
set_option maxRecDepth 100000 in
theorem cod_70 : lw_tbl[529]? = some (Jvm.Cond.code (mY 70) (mB 70) (mL 70) (mR 70)) := rfl
set_option maxRecDepth 100000 in
theorem cod_71 : lw_tbl[533]? = some (Jvm.Cond.code (mY 71) (mB 71) (mL 71) (mR 71)) := rfl
set_option maxRecDepth 100000 in
theorem cod_72 : lw_tbl[537]? = some (Jvm.Cond.code (mY 72) (mB 72) (mL 72) (mR 72)) := rfl
set_option maxRecDepth 100000 in
theorem cod_73 : lw_tbl[541]? = some (Jvm.Cond.code (mY 73) (mB 73) (mL 73) (mR 73)) := rfl
set_option maxRecDepth 100000 in
theorem cod_74 : lw_tbl[545]? = some (Jvm.Cond.code (mY 74) (mB 74) (mL 74) (mR 74)) := rfl
set_option maxRecDepth 100000 in
theorem cod_75 : lw_tbl[552]? = some (Jvm.Cond.code (mY 75) (mB 75) (mL 75) (mR 75)) := rfl
set_option maxRecDepth 100000 in
theorem cod_76 : lw_tbl[557]? = some (Jvm.Cond.code (mY 76) (mB 76) (mL 76) (mR 76)) := rfl
set_option maxRecDepth 100000 in
theorem cod_77 : lw_tbl[561]? = some (Jvm.Cond.code (mY 77) (mB 77) (mL 77) (mR 77)) := rfl
set_option maxRecDepth 100000 in
theorem cod_78 : lw_tbl[564]? = some (Jvm.Cond.code (mY 78) (mB 78) (mL 78) (mR 78)) := rfl
set_option maxRecDepth 100000 in
theorem cod_79 : lw_tbl[568]? = some (Jvm.Cond.code (mY 79) (mB 79) (mL 79) (mR 79)) := rfl
set_option maxRecDepth 100000 in
theorem cod_80 : lw_tbl[572]? = some (Jvm.Cond.code (mY 80) (mB 80) (mL 80) (mR 80)) := rfl
set_option maxRecDepth 100000 in
theorem cod_81 : lw_tbl[575]? = some (Jvm.Cond.code (mY 81) (mB 81) (mL 81) (mR 81)) := rfl
set_option maxRecDepth 100000 in
theorem cod_82 : lw_tbl[579]? = some (Jvm.Cond.code (mY 82) (mB 82) (mL 82) (mR 82)) := rfl
set_option maxRecDepth 100000 in
theorem cod_83 : lw_tbl[583]? = some (Jvm.Cond.code (mY 83) (mB 83) (mL 83) (mR 83)) := rfl
set_option maxRecDepth 100000 in
theorem cod_84 : lw_tbl[588]? = some (Jvm.Cond.code (mY 84) (mB 84) (mL 84) (mR 84)) := rfl
set_option maxRecDepth 100000 in
theorem cod_85 : lw_tbl[592]? = some (Jvm.Cond.code (mY 85) (mB 85) (mL 85) (mR 85)) := rfl
set_option maxRecDepth 100000 in
theorem cod_86 : lw_tbl[596]? = some (Jvm.Cond.code (mY 86) (mB 86) (mL 86) (mR 86)) := rfl
set_option maxRecDepth 100000 in
theorem cod_87 : lw_tbl[599]? = some (Jvm.Cond.code (mY 87) (mB 87) (mL 87) (mR 87)) := rfl
set_option maxRecDepth 100000 in
theorem cod_88 : lw_tbl[603]? = some (Jvm.Cond.code (mY 88) (mB 88) (mL 88) (mR 88)) := rfl
set_option maxRecDepth 100000 in
theorem cod_89 : lw_tbl[607]? = some (Jvm.Cond.code (mY 89) (mB 89) (mL 89) (mR 89)) := rfl
set_option maxRecDepth 100000 in
theorem cod_90 : lw_tbl[610]? = some (Jvm.Cond.code (mY 90) (mB 90) (mL 90) (mR 90)) := rfl
set_option maxRecDepth 100000 in
theorem cod_91 : lw_tbl[613]? = some (Jvm.Cond.code (mY 91) (mB 91) (mL 91) (mR 91)) := rfl
set_option maxRecDepth 100000 in
theorem cod_92 : lw_tbl[616]? = some (Jvm.Cond.code (mY 92) (mB 92) (mL 92) (mR 92)) := rfl
set_option maxRecDepth 100000 in
theorem cod_93 : lw_tbl[619]? = some (Jvm.Cond.code (mY 93) (mB 93) (mL 93) (mR 93)) := rfl
set_option maxRecDepth 100000 in
theorem cod_94 : lw_tbl[622]? = some (Jvm.Cond.code (mY 94) (mB 94) (mL 94) (mR 94)) := rfl
set_option maxRecDepth 100000 in
theorem cod_95 : lw_tbl[625]? = some (Jvm.Cond.code (mY 95) (mB 95) (mL 95) (mR 95)) := rfl
set_option maxRecDepth 100000 in
theorem cod_96 : lw_tbl[628]? = some (Jvm.Cond.code (mY 96) (mB 96) (mL 96) (mR 96)) := rfl
set_option maxRecDepth 100000 in
theorem cod_97 : lw_tbl[631]? = some (Jvm.Cond.code (mY 97) (mB 97) (mL 97) (mR 97)) := rfl
set_option maxRecDepth 100000 in
theorem cod_98 : lw_tbl[634]? = some (Jvm.Cond.code (mY 98) (mB 98) (mL 98) (mR 98)) := rfl
theorem cod_all : ∀ y, y < 99 → lw_tbl[mW y]? = some (Jvm.Cond.code (mY y) (mB y) (mL y) (mR y))
  | 0, _ => cod_0
  | 1, _ => cod_1
  | 2, _ => cod_2
  | 3, _ => cod_3
  | 4, _ => cod_4
  | 5, _ => cod_5
  | 6, _ => cod_6
  | 7, _ => cod_7
  | 8, _ => cod_8
  | 9, _ => cod_9
  | 10, _ => cod_10
  | 11, _ => cod_11
  | 12, _ => cod_12
  | 13, _ => cod_13
  | 14, _ => cod_14
  | 15, _ => cod_15
  | 16, _ => cod_16
  | 17, _ => cod_17
  | 18, _ => cod_18
  | 19, _ => cod_19
  | 20, _ => cod_20
  | 21, _ => cod_21
  | 22, _ => cod_22
  | 23, _ => cod_23
  | 24, _ => cod_24
  | 25, _ => cod_25
  | 26, _ => cod_26
  | 27, _ => cod_27
  | 28, _ => cod_28
  | 29, _ => cod_29
  | 30, _ => cod_30
  | 31, _ => cod_31
  | 32, _ => cod_32
  | 33, _ => cod_33
  | 34, _ => cod_34
  | 35, _ => cod_35
  | 36, _ => cod_36
  | 37, _ => cod_37
  | 38, _ => cod_38
  | 39, _ => cod_39
  | 40, _ => cod_40
  | 41, _ => cod_41
  | 42, _ => cod_42
  | 43, _ => cod_43
  | 44, _ => cod_44
  | 45, _ => cod_45
  | 46, _ => cod_46
  | 47, _ => cod_47
  | 48, _ => cod_48
  | 49, _ => cod_49
  | 50, _ => cod_50
  | 51, _ => cod_51
  | 52, _ => cod_52
  | 53, _ => cod_53
  | 54, _ => cod_54
  | 55, _ => cod_55
  | 56, _ => cod_56
  | 57, _ => cod_57
  | 58, _ => cod_58
  | 59, _ => cod_59
  | 60, _ => cod_60
  | 61, _ => cod_61
  | 62, _ => cod_62
  | 63, _ => cod_63
  | 64, _ => cod_64
  | 65, _ => cod_65
  | 66, _ => cod_66
  | 67, _ => cod_67
  | 68, _ => cod_68
  | 69, _ => cod_69
  | 70, _ => cod_70
  | 71, _ => cod_71
  | 72, _ => cod_72
  | 73, _ => cod_73
  | 74, _ => cod_74
  | 75, _ => cod_75
  | 76, _ => cod_76
  | 77, _ => cod_77
  | 78, _ => cod_78
  | 79, _ => cod_79
  | 80, _ => cod_80
  | 81, _ => cod_81
  | 82, _ => cod_82
  | 83, _ => cod_83
  | 84, _ => cod_84
  | 85, _ => cod_85
  | 86, _ => cod_86
  | 87, _ => cod_87
  | 88, _ => cod_88
  | 89, _ => cod_89
  | 90, _ => cod_90
  | 91, _ => cod_91
  | 92, _ => cod_92
  | 93, _ => cod_93
  | 94, _ => cod_94
  | 95, _ => cod_95
  | 96, _ => cod_96
  | 97, _ => cod_97
  | 98, _ => cod_98
  | n + 99, h => absurd h (by omega)
def okCal (q : Nat × Nat × Nat × Nat × Nat) : Bool := match q.2.2.1 with
  | 0 => wAt q.2.2.2.2 (.methodLink (on q.1) q.2.1 (mY q.2.2.2.1)) && wAt (at0 staTab q.2.2.2.1) (.static (mY q.2.2.2.1))
  | 1 => wAt q.2.2.2.2 (.methodLink (on q.1) q.2.1 (mY q.2.2.2.1)) && wAt (at0 staTab q.2.2.2.1) (.instanceMethod (mY q.2.2.2.1)) && wAt (at0 selTab q.2.2.2.1) (.selects (mY q.2.2.2.1).cls (mY q.2.2.2.1) (mY q.2.2.2.1)) && decide (mO q.2.2.2.1 < 12)
  | 2 => wAt q.2.2.2.2 (.methodLink (on q.1) q.2.1 (mY q.2.2.2.1)) && wAt (at0 staTab q.2.2.2.1) (.instanceMethod (mY q.2.2.2.1)) && decide ((mY q.2.2.2.1).name = "<init>") && decide (mR q.2.2.2.1 = none)
  | 3 => wAt q.2.2.2.2 (.methodLinkNest (on q.1) q.2.1 (mY q.2.2.2.1) "NutsUp") && wAt (at0 staTab q.2.2.2.1) (.static (mY q.2.2.2.1))
  | 4 => wAt q.2.2.2.2 (.methodLinkNest (on q.1) q.2.1 (mY q.2.2.2.1) "NutsUp") && wAt (at0 staTab q.2.2.2.1) (.instanceMethod (mY q.2.2.2.1)) && decide ((mY q.2.2.2.1).name = "<init>") && decide (mR q.2.2.2.1 = none)
  | 5 => true
  | 6 => wAt q.2.2.2.2 (.methodLink (on q.1) q.2.1 (mY q.2.2.2.1)) && wAt (at0 staTab q.2.2.2.1) (.instanceMethod (mY q.2.2.2.1)) && decide (q.1 < 12)
  | 7 => wAt q.2.2.2.2 (.methodLink (on q.1) q.2.1 arraycopyName)
  | 8 => wAt q.2.2.2.2 (.methodLink (on q.1) q.2.1 Lib.objectInit)
  | _ => false
theorem okCal_all : calTab.all okCal = true := by decide +kernel
def okVir (q : Nat × Nat × Nat × Nat × Nat × Nat × Nat × Nat × Nat) : Bool := wAt q.2.2.2.2.2.2.2.2 (.methodLink (on q.1) q.2.1 ⟨on q.2.2.2.2.2.1, (mY q.2.2.2.2.1).name, (mY q.2.2.2.2.1).desc⟩) && wAt q.2.2.2.2.2.2.1 (.sameMethod (on q.2.2.2.2.2.1) (mY q.2.2.2.2.1).cls (mY q.2.2.2.2.1).name (mY q.2.2.2.2.1).desc) && wAt q.2.2.2.2.2.2.2.1 (.selects (cn (q.2.2.1 - 1)) ⟨on q.2.2.2.2.2.1, (mY q.2.2.2.2.1).name, (mY q.2.2.2.2.1).desc⟩ (mY q.2.2.2.1)) && wAt (at0 staTab q.2.2.2.2.1) (.instanceMethod (mY q.2.2.2.2.1)) && wAt (at0 staTab q.2.2.2.1) (.instanceMethod (mY q.2.2.2.1)) && decide (q.2.2.2.2.1 < 99) && decide (mA q.2.2.2.2.1 = mA q.2.2.2.1) && decide (mA q.2.2.2.1 = 1) && decide (1 ≤ q.2.2.1 ∧ q.2.2.1 ≤ 12)
theorem okVir_all : virX.all okVir = true := by decide +kernel
theorem virX_all : virTab = virX.map (fun q => (q.1, q.2.1, q.2.2.1, q.2.2.2.1)) := by decide +kernel
def okSup (q : Nat × Nat × Nat × Nat × Nat) : Bool := wAt q.2.2.2.1 (.sameMethod (mY q.2.2.1).cls (mY q.2.2.1).cls (mY q.2.2.1).name (mY q.2.2.1).desc) && wAt q.2.2.2.2 (.superclass (on q.1) (mY q.2.2.1).cls) && decide ((mY q.2.2.1).name ≠ "<init>") && decide (on q.1 = cn q.1)
theorem okSup_all : supX.all okSup = true := by decide +kernel
theorem supX_all : calTab.all (fun q => q.2.2.1 != 6 || supX.any (fun z => z.1 == q.1 && z.2.1 == q.2.1 && z.2.2.1 == q.2.2.2.1)) = true := by decide +kernel
def okNew (q : Nat × Nat × Nat × Nat × Nat × Nat) : Bool := wAt q.2.2.2.1 (.classLink (on q.1) q.2.1 (cn q.2.2.1)) && wAt q.2.2.2.2.1 (.instantiable (cn q.2.2.1) (cSz q.2.2.1)) && wAt q.2.2.2.2.2 (.initialized (cn q.2.2.1)) && decide (q.2.2.1 < 12)
theorem okNew_all : newTab.all okNew = true := by decide +kernel
def okAnw (q : Nat × Nat × Nat × Nat × Nat) : Bool := wAt q.2.2.2.1 (.classLink (on q.1) q.2.1 (aName q.2.2.1)) && wAt q.2.2.2.2 (.arrayOver (.object (aName q.2.2.1))) && decide (21 ≤ q.2.2.1 ∧ q.2.2.1 ≤ 25)
theorem okAnw_all : anwTab.all okAnw = true := by decide +kernel
def okLdc (q : Nat × Nat × Int × Nat) : Bool := wAt q.2.2.2 (.constant (on q.1) q.2.1 (Int32.ofInt q.2.2.1))
theorem okLdc_all : ldcTab.all okLdc = true := by decide +kernel
def okLd2 (q : Nat × Nat × Int × Nat) : Bool := wAt q.2.2.2 (.constantLong (on q.1) q.2.1 (Int64.ofInt q.2.2.1))
theorem okLd2_all : ld2Tab.all okLd2 = true := by decide +kernel
theorem okStf_0 : wAt 294 (.fieldLinkNest (on 0) 37 "NutsUp" "FACTORIALS" "[I" "NutsUp") = true := by decide +kernel
theorem okStf_1 : wAt 378 (.fieldLinkNest (on 1) 21 "NutsUp" "LETTERS" "[I" "NutsUp") = true := by decide +kernel
theorem okArr : wAt 70 (.arrayClass .int) = true := by decide +kernel
theorem okObj_0 : wAt 37 (.instanceMethod Lib.objectInit) = true := by decide +kernel
theorem okObj_1 : wAt 38 (.code Lib.objectInit ⟨#[0xb1]⟩ 1 none) = true := by decide +kernel
theorem okCast_4 : wAt 635 (.castable "NutsUp$LongGrain" "NutsUp$Grain") = true := by decide +kernel
theorem okCast_6 : wAt 636 (.castable "NutsUp$OilyGrain" "NutsUp$Grain") = true := by decide +kernel
end
section
/-! How a heap of the small machine lies in a heap of the machine: the role r at the address A r. -/
def ck (h : Hp) : Nat := h.2.2.2.2.1
def cu (h : Hp) : Nat := h.2.2.2.2.2
def cvv (A : Nat → Nat) : Value → Value
  | .ref r => .ref (A r)
  | v => v
def okv (h : Hp) : Value → Prop
  | .ref r => tg h r ≠ 0
  | _ => True
def okS (h : Hp) (l : List Value) : Prop := ∀ v ∈ l, okv h v
def elv (A : Nat → Nat) (h : Hp) (r j : Nat) : Value := if fl h r j = true then .ref (A (child r j)) else .null
def slv (A : Nat → Nat) (h : Hp) (ci r k : Nat) : Value := if rfs ci k = true then elv A h r k else .int (I (iv h r (k : Nat)))
abbrev tysOf (cI : ClassId) (cA : Nat → ClassId) : List (ClassId × FieldType) := [(cI, .int), (cA 21, .object (aName 21)), (cA 22, .object (aName 22)), (cA 23, .object (aName 23)), (cA 24, .object (aName 24)), (cA 25, .object (aName 25))]
def KF (D : va_G) (cI : ClassId) (cA : Nat → ClassId) (U : State) : Prop := va_K D classes (tysOf cI cA) U ∧ ∀ w ∈ nestWs, va_Nw w U
theorem KF.moved {D : va_G} {cI : ClassId} {cA : Nat → ClassId} {s U : State} (hW : s.WarmedH U.vm) (h : KF D cI cA s) : KF D cI cA U := by
  refine ⟨va_K.moved hW.alike h.1, fun w hw => ?_⟩
  have hz := h.2 w hw
  have hn : nestW w = true := (List.mem_filter.mp hw).2
  cases w with
  | methodLinkNest a i x hst => exact va_Nw.warmM hW hz
  | fieldLinkNest a i b n d hst => exact va_Nw.warmF hW hz
  | castable a b => exact va_Nw.warmC hW hz
  | arrayOver t =>
    cases t with
    | object C => exact va_AO.moved hW.alike hz
    | _ => simp [nestW] at hn
  | _ => simp [nestW] at hn
theorem cl_at {ci : Nat} (h : ci < 12) : classes[ci]? = some (cn ci, cT ci, cSz ci) := by
  simp [classes, List.getElem?_map, List.getElem?_range h]
def Cel (D : va_G) (cI : ClassId) (cA : Nat → ClassId) (base : Nat) (A : Nat → Nat) (h : Hp) (U : State) (H : Heap) (r : Nat) : Prop :=
  (∀ ci, tg h r = ci + 1 → ci < 12 → t_OB (A r) (D.1 ci) (cSz ci) (D.2 ci) H (slv A h ci r)) ∧
  (tg h r = 20 → H[A r]? = some (arrV cI (ln h r) (fun j => .int (I (iv h r (j : Nat)))))) ∧
  (21 ≤ tg h r → tg h r ≤ 25 → H[A r]? = some (arrV (cA (tg h r)) (ln h r) (elv A h r))) ∧
  (tg h r = 30 → va_T .int (A r) (ln h r) (fun j => .int (I (iv h r (j : Nat)))) (fun q => base ≤ q) U H)
def Rep (D : va_G) (cI : ClassId) (cA : Nat → ClassId) (base : Nat) (A : Nat → Nat) (h : Hp) (U : State) (H : Heap) : Prop :=
  H.size = base + ck h ∧ (∀ r, tg h r ≠ 0 → Cel D cI cA base A h U H r) ∧ (∀ r, tg h r ≠ 0 → tg h r ≠ 30 → base ≤ A r) ∧ (∀ r q, tg h r ≠ 0 → tg h r ≠ 30 → tg h q ≠ 0 → A r = A q → r = q) ∧
  (∀ r, tg h r ≠ 0 → tg h r ≤ 12 ∨ (20 ≤ tg h r ∧ tg h r ≤ 25) ∨ tg h r = 30) ∧ (∀ r k, tg h r ≠ 0 → fl h r k = true → tg h (child r k) ≠ 0) ∧ (∀ r, gw r = true → tg h r ≠ 30) ∧
  va_Z "NutsUp" "FACTORIALS" "[I" (.ref (A 500)) (fun q => base ≤ q) U H ∧ va_Z "NutsUp" "LETTERS" "[I" (.ref (A 501)) (fun q => base ≤ q) U H
section REP
variable {D : va_G} {cI : ClassId} {cA : Nat → ClassId} {base : Nat} {A : Nat → Nat} {h : Hp} {U : State} {H : Heap}
theorem Rep.moved {u : State} (hvm : u.vm.Alike U.vm) (hr : Rep D cI cA base A h u H) : Rep D cI cA base A h U H := by
  obtain ⟨a, b, c, d, e, f, g, z1, z2⟩ := hr
  exact ⟨a, fun r hr => ⟨(b r hr).1, (b r hr).2.1, (b r hr).2.2.1, fun q => va_T.moved hvm ((b r hr).2.2.2 q)⟩, c, d, e, f, g, va_Z.moved hvm z1, va_Z.moved hvm z2⟩
theorem child_ne (r k : Nat) : child r k ≠ 37 ∧ child r k ≠ 38 ∧ child r k ≠ 500 ∧ child r k ≠ 501 := by
  unfold child
  grind (splits := 60)
/-- of a role whose cell can become another one: who can hold it -/
def par (c : Nat) : Nat × Nat := if c = 3 then (1, 4) else if c < 24 then (19, c - 20) else if c < 27 then (0, c - 10) else if c < 37 then (2, c - 30) else (c - 3, 1)
theorem par_child (r k : Nat) (hg : gw (child r k) = true) : par (child r k) = (r, k) := by
  have key : ∀ c, gw c = true → child r k = c → par c = (r, k) := by
    intro c hc he
    simp only [gw, Bool.or_eq_true, Bool.and_eq_true, beq_iff_eq, decide_eq_true_eq] at hc
    unfold child at he
    unfold par
    grind (splits := 60)
  exact key _ hg rfl
theorem Cel.kept {A1 : Nat → Nat} {h1 : Hp} {H1 : Heap} {r : Nat} (hz : H.size ≤ H1.size) (hc : Cel D cI cA base A h U H r) (ha : A1 r = A r) (ht : tg h1 r = tg h r) (hl : ln h1 r = ln h r) (hi : ∀ z, iv h1 r z = iv h r z) (hf : ∀ k, fl h1 r k = fl h r k) (hch : ∀ k, fl h r k = true → A1 (child r k) = A (child r k)) (hq : H1[A r]? = H[A r]?) : Cel D cI cA base A1 h1 U H1 r := by
  have he : ∀ k, elv A1 h1 r k = elv A h r k := by
    intro k
    unfold elv
    rw [hf k]
    by_cases hk : fl h r k = true
    · rw [if_pos hk, if_pos hk, hch k hk]
    · rw [if_neg hk, if_neg hk]
  obtain ⟨c1, c2, c3, c4⟩ := hc
  refine ⟨fun ci h1' h2' => ?_, fun h1' => ?_, fun h1' h2' => ?_, fun h1' => ?_⟩
  · rw [ht] at h1'
    rw [ha]
    refine ((c1 ci h1' h2').kept hq).to (fun k _ => ?_)
    unfold slv
    rw [he k, hi]
  · rw [ht] at h1'
    rw [ha, hq, c2 h1', hl]
    congr 2
    funext j
    rw [hi]
  · rw [ht] at h1' h2' ⊢
    rw [ha, hq, c3 h1' h2', hl]
    congr 2
    funext j
    rw [he]
  · rw [ht] at h1'
    obtain ⟨cell, g1, g2, g3, g4, g5, g6, g7⟩ := c4 h1'
    rw [ha, hl]
    exact ⟨cell, by rw [hq]; exact g1, g2, g3, g4, g5, fun j hj => by show _ = some (Value.int (I (iv h1 r _))); rw [hi]; exact g6 j hj, g7⟩
theorem zk {H1 : Heap} {C n d : String} {v : Value} (hz : va_Z C n d v (fun q => base ≤ q) U H) (hq : ∀ q, q < H.size → ¬ base ≤ q → H1[q]? = H[q]?) : va_Z C n d v (fun q => base ≤ q) U H1 := va_Z.kept hz hq
/-- a cell of the role r is written: its new contents are given -/
theorem Rep.put {h1 : Hp} {H1 : Heap} {r : Nat} (hr : Rep D cI cA base A h U H) (ht : tg h r ≠ 0) (ht3 : tg h r ≠ 30) (hz : H1.size = H.size) (oq : ∀ q, q ≠ A r → H1[q]? = H[q]?) (hk : ck h1 = ck h) (hT : ∀ q, tg h1 q = tg h q) (hL : ∀ q, ln h1 q = ln h q)
    (hI : ∀ q, q ≠ r → ∀ z, iv h1 q z = iv h q z) (hF : ∀ q k, q ≠ r → fl h1 q k = fl h q k) (hF2 : ∀ k, fl h1 r k = true → tg h (child r k) ≠ 0) (hn : Cel D cI cA base A h1 U H1 r) : Rep D cI cA base A h1 U H1 := by
  obtain ⟨a, b, c, d, e, f, g, z1, z2⟩ := hr
  have hb := c r ht ht3
  have ne : ∀ q, tg h q ≠ 0 → q ≠ r → A q ≠ A r := fun q hq hqr e => hqr (d r q ht ht3 hq e.symm).symm
  refine ⟨by rw [hz, hk]; exact a, fun q hq => ?_, fun q hq hq3 => ?_, fun q w hq hq3 hw he => ?_, fun q hq => ?_, fun q k hq hfl => ?_, fun q hq => ?_, zk z1 (fun q _ hq => oq q (fun e => hq (by rw [e]; exact hb))), zk z2 (fun q _ hq => oq q (fun e => hq (by rw [e]; exact hb)))⟩
  · rw [hT] at hq
    by_cases hqr : q = r
    · subst hqr
      exact hn
    · exact Cel.kept (Nat.le_of_eq hz.symm) (b q hq) rfl (hT q) (hL q) (hI q hqr) (fun k => hF q k hqr) (fun _ _ => rfl) (oq _ (ne q hq hqr))
  · rw [hT] at hq hq3; exact c q hq hq3
  · rw [hT] at hq hq3 hw; exact d q w hq hq3 hw he
  · rw [hT] at hq ⊢; exact e q hq
  · rw [hT] at hq ⊢
    by_cases hqr : q = r
    · subst hqr; exact hF2 k hfl
    · rw [hF q k hqr] at hfl; exact f q k hq hfl
  · rw [hT]; exact g q hq
theorem tg_setI (h : Hp) (r : Nat) (k v : Int) (q : Nat) : tg (setI h r k v) q = tg h q := rfl
theorem iv_setI (h : Hp) (r : Nat) (k v : Int) (q : Nat) (z : Int) : iv (setI h r k v) q z = if q = r ∧ z = k then v else iv h q z := rfl
theorem iv_setR (h : Hp) (r : Nat) (f : Int → Int) (q : Nat) (z : Int) : iv (setR h r f) q z = if q = r then f z else iv h q z := by
  by_cases e : q = r
  · rw [if_pos e]; exact congrFun (if_pos e) z
  · rw [if_neg e]; exact congrFun (if_neg e) z
theorem fl_setF (h : Hp) (r k q j : Nat) : fl (setF h r k) q j = if q = r ∧ j = k then true else fl h q j := rfl
/-- a number is laid into a field -/
theorem Rep.setObj {H1 : Heap} {r ci k : Nat} {x : Int32} (hr : Rep D cI cA base A h U H) (ht : tg h r = ci + 1) (hci : ci < 12) (hrf : rfs ci k = false) (hz : H1.size = H.size) (oq : ∀ q, q ≠ A r → H1[q]? = H[q]?)
    (ho : t_OB (A r) (D.1 ci) (cSz ci) (D.2 ci) H1 (updV (slv A h ci r) k (.int x))) : Rep D cI cA base A (setI h r (k : Nat) x.toInt) U H1 := by
  refine hr.put (r := r) (by omega) (by omega) hz oq rfl (fun _ => rfl) (fun _ => rfl) (fun q hq z => ?_) (fun _ _ _ => rfl) (fun j hj => hr.2.2.2.2.2.1 r j (by omega) hj) ⟨fun ci' h1 h2 => ?_, fun h1 => ?_, fun h1 => ?_, fun h1 => ?_⟩
  · rw [iv_setI, if_neg (fun e => hq e.1)]
  · rw [tg_setI, ht] at h1
    have e : ci' = ci := by omega
    subst e
    refine ho.to (fun j _ => ?_)
    unfold updV slv
    by_cases hj : j = k
    · subst hj
      rw [if_pos rfl, if_neg (by rw [hrf]; decide), iv_setI, if_pos ⟨rfl, rfl⟩]
      simp [I]
    · rw [if_neg hj, iv_setI, if_neg (fun e : r = r ∧ ((j : Nat) : Int) = (k : Nat) => hj (Int.ofNat.inj e.2))]
      rfl
  all_goals (rw [tg_setI, ht] at h1; omega)
/-- a link is laid into a field -/
theorem Rep.setLink {H1 : Heap} {r ci k : Nat} (hr : Rep D cI cA base A h U H) (ht : tg h r = ci + 1) (hci : ci < 12) (hrf : rfs ci k = true) (hch : tg h (child r k) ≠ 0) (hz : H1.size = H.size) (oq : ∀ q, q ≠ A r → H1[q]? = H[q]?)
    (ho : t_OB (A r) (D.1 ci) (cSz ci) (D.2 ci) H1 (updV (slv A h ci r) k (.ref (A (child r k))))) : Rep D cI cA base A (setF h r k) U H1 := by
  refine hr.put (r := r) (by omega) (by omega) hz oq rfl (fun _ => rfl) (fun _ => rfl) (fun q hq z => rfl) (fun q j hq => ?_) (fun j hj => ?_) ⟨fun ci' h1 h2 => ?_, fun h1 => ?_, fun h1 => ?_, fun h1 => ?_⟩
  · rw [fl_setF, if_neg (fun e => hq e.1)]
  · rw [fl_setF] at hj
    by_cases hjk : j = k
    · subst hjk; exact hch
    · rw [if_neg (fun e : r = r ∧ j = k => hjk e.2)] at hj; exact hr.2.2.2.2.2.1 r j (by omega) hj
  · have h1 : tg h r = ci' + 1 := h1
    have e : ci' = ci := by omega
    subst e
    refine ho.to (fun j _ => ?_)
    unfold updV slv elv
    by_cases hj : j = k
    · subst hj
      rw [if_pos rfl, if_pos hrf, fl_setF, if_pos (⟨rfl, rfl⟩ : r = r ∧ j = j)]
      rfl
    · rw [if_neg hj, fl_setF, if_neg (fun e : r = r ∧ j = k => hj e.2)]
      rfl
  · have h1 : tg h r = 20 := h1
    omega
  · have h1 : 21 ≤ tg h r := h1
    omega
  · have h1 : tg h r = 30 := h1
    omega
theorem Rep.setElL {H1 : Heap} {r k : Nat} (hr : Rep D cI cA base A h U H) (ht : 21 ≤ tg h r) (ht2 : tg h r ≤ 25) (hch : tg h (child r k) ≠ 0) (hz : H1.size = H.size) (oq : ∀ q, q ≠ A r → H1[q]? = H[q]?)
    (ho : H1[A r]? = some (arrV (cA (tg h r)) (ln h r) (updV (elv A h r) k (.ref (A (child r k)))))) : Rep D cI cA base A (setF h r k) U H1 := by
  refine hr.put (r := r) (by omega) (by omega) hz oq rfl (fun _ => rfl) (fun _ => rfl) (fun q hq z => rfl) (fun q j hq => ?_) (fun j hj => ?_) ⟨fun ci' h1 h2 => ?_, fun h1 => ?_, fun h1 h2 => ?_, fun h1 => ?_⟩
  · rw [fl_setF, if_neg (fun e => hq e.1)]
  · rw [fl_setF] at hj
    by_cases hjk : j = k
    · subst hjk; exact hch
    · rw [if_neg (fun e : r = r ∧ j = k => hjk e.2)] at hj; exact hr.2.2.2.2.2.1 r j (by omega) hj
  · have h1 : tg h r = ci' + 1 := h1
    omega
  · have h1 : tg h r = 20 := h1
    omega
  · rw [ho]
    show _ = some (arrV (cA (tg h r)) (ln h r) _)
    congr 2
    funext j
    unfold updV elv
    by_cases hj : j = k
    · subst hj
      rw [if_pos rfl, fl_setF, if_pos (⟨rfl, rfl⟩ : r = r ∧ j = j)]
      rfl
    · rw [if_neg hj, fl_setF, if_neg (fun e : r = r ∧ j = k => hj e.2)]
  · have h1 : tg h r = 30 := h1
    omega
/-- numbers of an array are laid anew -/
theorem Rep.setArr {H1 : Heap} {r : Nat} {h1 : Hp} (hr : Rep D cI cA base A h U H) (ht : tg h r = 20) (hk : ck h1 = ck h) (hT : ∀ q, tg h1 q = tg h q) (hL : ∀ q, ln h1 q = ln h q)
    (hI : ∀ q, q ≠ r → ∀ z, iv h1 q z = iv h q z) (hF : ∀ q k, fl h1 q k = fl h q k) (hz : H1.size = H.size) (oq : ∀ q, q ≠ A r → H1[q]? = H[q]?)
    (ho : H1[A r]? = some (arrV cI (ln h r) (fun j => .int (I (iv h1 r (j : Nat)))))) : Rep D cI cA base A h1 U H1 := by
  refine hr.put (r := r) (by omega) (by omega) hz oq hk hT hL hI (fun q k _ => hF q k) (fun j hj => ?_) ⟨fun ci' h1' h2 => ?_, fun h1' => ?_, fun h1' h2 => ?_, fun h1' => ?_⟩
  · rw [hF] at hj; exact hr.2.2.2.2.2.1 r j (by omega) hj
  · rw [hT] at h1'; omega
  · rw [hL]; exact ho
  · rw [hT] at h1' h2; omega
  · rw [hT] at h1'; omega
theorem tg_mk (h : Hp) (q t n u w : Nat) : tg (mk h q t n u) w = if w = q then t else tg h w := rfl
theorem ln_mk (h : Hp) (q t n u w : Nat) : ln (mk h q t n u) w = if w = q then n else ln h w := rfl
theorem iv_mk (h : Hp) (q t n u w : Nat) (z : Int) : iv (mk h q t n u) w z = if w = q then 0 else iv h w z := by
  by_cases e : w = q
  · rw [if_pos e]; exact congrFun (if_pos e) z
  · rw [if_neg e]; exact congrFun (if_neg e) z
theorem fl_mk (h : Hp) (q t n u w j : Nat) : fl (mk h q t n u) w j = if w = q then false else fl h w j := by
  by_cases e : w = q
  · rw [if_pos e]; exact congrFun (if_pos e) j
  · rw [if_neg e]; exact congrFun (if_neg e) j
/-- a cell is made -/
theorem Rep.make {H1 : Heap} {q t n u : Nat} (hr : Rep D cI cA base A h U H) (h0 : tg h q = 0) (hq5 : q ≠ 500 ∧ q ≠ 501) (ht : (1 ≤ t ∧ t ≤ 12) ∨ (20 ≤ t ∧ t ≤ 25)) (hz : H1.size = H.size + 1) (oq : ∀ a, a < H.size → H1[a]? = H[a]?)
    (ho : (∀ ci, t = ci + 1 → ci < 12 → t_OB H.size (D.1 ci) (cSz ci) (D.2 ci) H1 (fun k => if rfs ci k = true then .null else .int (I 0))) ∧ (t = 20 → H1[H.size]? = some (arrV cI n (fun _ => .int (I 0)))) ∧ (21 ≤ t → t ≤ 25 → H1[H.size]? = some (arrV (cA t) n (fun _ => .null)))) :
    Rep D cI cA base (up1 A q H.size) (mk h q t n u) U H1 := by
  obtain ⟨a, b, c, d, e, f, g, z1, z2⟩ := hr
  have lt : ∀ w, tg h w ≠ 0 → A w < H.size := by
    intro w hw
    obtain ⟨b1, b2, b3, b4⟩ := b w hw
    rcases e w hw with e1 | e1 | e1
    · obtain ⟨cell, h2, -⟩ := b1 (tg h w - 1) (by omega) (by omega)
      exact (Array.getElem?_eq_some_iff.mp h2).1
    · by_cases h20 : tg h w = 20
      · exact (Array.getElem?_eq_some_iff.mp (b2 h20)).1
      · exact (Array.getElem?_eq_some_iff.mp (b3 (by omega) e1.2)).1
    · obtain ⟨cell, h2, -⟩ := b4 e1
      exact (Array.getElem?_eq_some_iff.mp h2).1
  have hA : ∀ w, w ≠ q → up1 A q H.size w = A w := fun w hw => by unfold up1; rw [if_neg hw]
  have hAq : up1 A q H.size q = H.size := by unfold up1; rw [if_pos rfl]
  have hne : ∀ w, tg h w ≠ 0 → w ≠ q := fun w hw e => hw (by rw [e]; exact h0)
  refine ⟨by rw [hz, a]; rfl, fun w hw => ?_, fun w hw hw3 => ?_, fun w v hw hw3 hv he => ?_, fun w hw => ?_, fun w k hw hfl => ?_, fun w hg => ?_, ?_, ?_⟩
  · rw [tg_mk] at hw
    by_cases hwq : w = q
    · subst hwq
      obtain ⟨o1, o2, o3⟩ := ho
      refine ⟨fun ci h1 h2 => ?_, fun h1 => ?_, fun h1 h2 => ?_, fun h1 => ?_⟩
      · rw [tg_mk, if_pos rfl] at h1
        rw [hAq]
        refine (o1 ci h1 h2).to (fun k _ => ?_)
        unfold slv elv
        rw [fl_mk, if_pos rfl, iv_mk, if_pos rfl]
        rfl
      · rw [tg_mk, if_pos rfl] at h1
        rw [hAq, o2 h1, ln_mk, if_pos rfl]
        congr 2
        funext j
        rw [iv_mk, if_pos rfl]
      · rw [tg_mk, if_pos rfl] at h1 h2 ⊢
        rw [hAq, o3 h1 h2, ln_mk, if_pos rfl]
        congr 2
        funext j
        unfold elv
        rw [fl_mk, if_pos rfl]
        rfl
      · rw [tg_mk, if_pos rfl] at h1
        omega
    · rw [if_neg hwq] at hw
      exact Cel.kept (by omega) (b w hw) (hA w hwq) (by rw [tg_mk, if_neg hwq]) (by rw [ln_mk, if_neg hwq]) (fun z => by rw [iv_mk, if_neg hwq]) (fun k => by rw [fl_mk, if_neg hwq]) (fun k hk => hA _ (hne _ (f w k hw hk))) (oq _ (lt w hw))
  · rw [tg_mk] at hw hw3
    by_cases hwq : w = q
    · rw [hwq, hAq, a]; omega
    · rw [if_neg hwq] at hw hw3
      rw [hA w hwq]; exact c w hw hw3
  · rw [tg_mk] at hw hw3 hv
    by_cases hwq : w = q
    · subst hwq
      by_cases hvw : v = w
      · exact hvw.symm
      · rw [if_neg hvw] at hv
        rw [hAq, hA v hvw] at he
        have := lt v hv
        omega
    · rw [if_neg hwq] at hw hw3
      rw [hA w hwq] at he
      by_cases hvq : v = q
      · subst hvq
        rw [hAq] at he
        have := lt w hw
        omega
      · rw [if_neg hvq] at hv
        rw [hA v hvq] at he
        exact d w v hw hw3 hv he
  · rw [tg_mk] at hw ⊢
    by_cases hwq : w = q
    · rw [if_pos hwq]; omega
    · rw [if_neg hwq] at hw ⊢; exact e w hw
  · rw [tg_mk] at hw ⊢
    rw [fl_mk] at hfl
    by_cases hwq : w = q
    · rw [if_pos hwq] at hfl; cases hfl
    · rw [if_neg hwq] at hw hfl
      have h2 := f w k hw hfl
      rw [if_neg (hne _ h2)]
      exact h2
  · rw [tg_mk]
    split
    · omega
    · exact g w hg
  · rw [hA 500 (Ne.symm hq5.1)]
    exact zk z1 (fun q h1 _ => oq q h1)
  · rw [hA 501 (Ne.symm hq5.2)]
    exact zk z2 (fun q h1 _ => oq q h1)
theorem tg_mov (h : Hp) (r k c q w : Nat) : tg (mov h r k c q) w = if w = q then 0 else if w = c then tg h q else tg h w := rfl
theorem ln_mov (h : Hp) (r k c q w : Nat) : ln (mov h r k c q) w = if w = c then ln h q else ln h w := rfl
theorem iv_mov (h : Hp) (r k c q w : Nat) (z : Int) : iv (mov h r k c q) w z = if w = c then iv h q z else iv h w z := by
  by_cases e : w = c
  · rw [if_pos e]; exact congrFun (if_pos e) z
  · rw [if_neg e]; exact congrFun (if_neg e) z
theorem fl_mov (h : Hp) (r k c q w j : Nat) : fl (mov h r k c q) w j = if w = r ∧ j = k then true else if w = c then false else fl h w j := by
  by_cases e1 : w = r ∧ j = k
  · rw [if_pos e1]; exact if_pos e1
  · rw [if_neg e1]
    refine (if_neg e1).trans ?_
    by_cases e : w = c
    · rw [if_pos e]; exact congrFun (if_pos e) j
    · rw [if_neg e]; exact congrFun (if_neg e) j
theorem rfs_grain (ci : Nat) (h : ci = 2 ∨ ci = 4 ∨ ci = 6) (k : Nat) (hk : k < cSz ci) : rfs ci k = false := by
  have key : ∀ ci, ci < 12 → (ci == 2 || ci == 4 || ci == 6) = true → ∀ k, k < cSz ci → rfs ci k = false := by decide +kernel
  exact key ci (by omega) (by rcases h with rfl | rfl | rfl <;> rfl) k hk
/-- what was made comes to its place -/
theorem Rep.move {H1 : Heap} {r k q : Nat} (hr : Rep D cI cA base A h U H) (ht : tg h r ≠ 0) (ht3 : tg h r ≠ 30) (hg : gw (child r k) = true) (hgr : gw r = false) (hq : (q = 38 ∧ tg h q = 20) ∨ (q = 37 ∧ (tg h q = 3 ∨ tg h q = 5 ∨ tg h q = 7)))
    (hz : H1.size = H.size) (oq : ∀ a, a ≠ A r → H1[a]? = H[a]?) (hn : Cel D cI cA base (up1 A (child r k) (A q)) (mov h r k (child r k) q) U H1 r) : Rep D cI cA base (up1 A (child r k) (A q)) (mov h r k (child r k) q) U H1 := by
  obtain ⟨a, b, c, d, e, f, g, z1, z2⟩ := hr
  generalize hcd : child r k = w at *
  have hwq : w ≠ q := by
    have := child_ne r k
    rw [hcd] at this
    omega
  have hw5 : w ≠ 500 ∧ w ≠ 501 := by
    have := child_ne r k
    rw [hcd] at this
    exact this.2.2
  have hwr : w ≠ r := fun e => by rw [e, hgr] at hg; cases hg
  have hqr : q ≠ r := fun e => by
    rw [← e] at hgr
    rcases hq with hq | hq <;> (rw [hq.1] at hgr; revert hgr; decide)
  have hq0 : tg h q ≠ 0 := by omega
  have hq3 : tg h q ≠ 30 := by omega
  have hA : ∀ v, v ≠ w → up1 A w (A q) v = A v := fun v hv => by unfold up1; rw [if_neg hv]
  have hAw : up1 A w (A q) w = A q := by unfold up1; rw [if_pos rfl]
  have hb := c r ht ht3
  have ne : ∀ v, tg h v ≠ 0 → v ≠ r → A v ≠ A r := fun v hv hvr e => hvr (d r v ht ht3 hv e.symm).symm
  have key : ∀ v, tg (mov h r k w q) v ≠ 0 → v ≠ q ∧ ((v = w) ∨ (v ≠ w ∧ tg h v ≠ 0 ∧ tg (mov h r k w q) v = tg h v)) := by
    intro v hv
    rw [tg_mov] at hv ⊢
    by_cases h1 : v = q
    · rw [if_pos h1] at hv; exact absurd rfl hv
    · rw [if_neg h1] at hv ⊢
      by_cases h2 : v = w
      · exact ⟨h1, Or.inl h2⟩
      · rw [if_neg h2] at hv ⊢; exact ⟨h1, Or.inr ⟨h2, hv, rfl⟩⟩
  have tw : tg (mov h r k w q) w = tg h q := by rw [tg_mov, if_neg hwq, if_pos rfl]
  refine ⟨by rw [hz]; exact a, fun v hv => ?_, fun v hv hv3 => ?_, fun v u hv hv3 hu he => ?_, fun v hv => ?_, fun v j hv hfl => ?_, fun v hv => ?_, ?_, ?_⟩
  · obtain ⟨h1, h2 | ⟨h2, h3, h4⟩⟩ := key v hv
    · subst h2
      obtain ⟨b1, b2, b3, b4⟩ := b q hq0
      refine ⟨fun ci i1 i2 => ?_, fun i1 => ?_, fun i1 i2 => ?_, fun i1 => ?_⟩
      · rw [tw] at i1
        rw [hAw]
        refine ((b1 ci i1 i2).kept (oq _ (ne q hq0 hqr))).to (fun j hj => ?_)
        have hrf : rfs ci j = false := rfs_grain ci (by omega) j hj
        unfold slv
        rw [if_neg (by rw [hrf]; decide), if_neg (by rw [hrf]; decide), iv_mov, if_pos rfl]
      · rw [tw] at i1
        rw [hAw, oq _ (ne q hq0 hqr), b2 i1, ln_mov, if_pos rfl]
        congr 2
        funext j
        rw [iv_mov, if_pos rfl]
      · rw [tw] at i1 i2
        omega
      · rw [tw] at i1
        omega
    · by_cases hvr : v = r
      · subst hvr; exact hn
      · refine Cel.kept (Nat.le_of_eq hz.symm) (b v h3) (hA v h2) h4 (by rw [ln_mov, if_neg h2]) (fun z => by rw [iv_mov, if_neg h2]) (fun j => by rw [fl_mov, if_neg (fun e => hvr e.1), if_neg h2]) (fun j hj => hA _ (fun e => hvr ?_)) (oq _ (ne v h3 hvr))
        have p1 := par_child v j (by rw [e]; exact hg)
        have p2 := par_child r k (by rw [hcd]; exact hg)
        rw [e] at p1
        rw [hcd] at p2
        exact (Prod.mk.inj (p1.symm.trans p2)).1
  · obtain ⟨h1, h2 | ⟨h2, h3, h4⟩⟩ := key v hv
    · rw [h2, hAw]; exact c q hq0 hq3
    · rw [hA v h2]; rw [h4] at hv3; exact c v h3 hv3
  · obtain ⟨h1, h2 | ⟨h2, h3, h4⟩⟩ := key v hv
    · obtain ⟨g1, g2 | ⟨g2, g3, g4⟩⟩ := key u hu
      · rw [h2, g2]
      · rw [h2, hAw, hA u g2] at he
        exact absurd (d q u hq0 hq3 g3 he).symm g1
    · obtain ⟨g1, g2 | ⟨g2, g3, g4⟩⟩ := key u hu
      · rw [g2, hAw, hA v h2] at he
        rw [h4] at hv3
        exact absurd (d v q h3 hv3 hq0 he) h1
      · rw [hA v h2, hA u g2] at he
        rw [h4] at hv3
        exact d v u h3 hv3 g3 he
  · obtain ⟨h1, h2 | ⟨h2, h3, h4⟩⟩ := key v hv
    · rw [h2, tw]; exact e q hq0
    · rw [h4]; exact e v h3
  · rw [tg_mov]
    have n1 : child v j ≠ q := by
      have := child_ne v j
      omega
    rw [if_neg n1]
    split
    · exact hq0
    · rename_i n2
      obtain ⟨h1, h2 | ⟨h2, h3, h4⟩⟩ := key v hv
      · rw [fl_mov] at hfl
        by_cases h5 : v = r ∧ j = k
        · rw [h5.1, h5.2, hcd] at n2; exact absurd rfl n2
        · rw [if_neg h5, if_pos h2] at hfl
          cases hfl
      · rw [fl_mov] at hfl
        by_cases h5 : v = r ∧ j = k
        · rw [h5.1, h5.2, hcd] at n2; exact absurd rfl n2
        · rw [if_neg h5, if_neg h2] at hfl
          exact f v j h3 hfl
  · rw [tg_mov]
    split
    · omega
    · split
      · exact hq3
      · exact g v hv
  · rw [hA 500 (Ne.symm hw5.1)]
    exact zk z1 (fun q _ hq => oq q (fun e => hq (by rw [e]; exact hb)))
  · rw [hA 501 (Ne.symm hw5.2)]
    exact zk z2 (fun q _ hq => oq q (fun e => hq (by rw [e]; exact hb)))
end REP
end
section
/-! The small machine goes as the machine goes. -/
def held (A : Nat → Nat) (ls : List Value) : List (Nat × Value) := (List.range ls.length).filterMap (fun k => if gt ls k = .retAddr 0 then none else some (k, cvv A (gt ls k)))
theorem mem_held {A : Nat → Nat} {ls : List Value} {q : Nat × Value} : q ∈ held A ls ↔ q.1 < ls.length ∧ gt ls q.1 ≠ .retAddr 0 ∧ q.2 = cvv A (gt ls q.1) := by
  unfold held
  rw [List.mem_filterMap]
  constructor
  · rintro ⟨k, hk, he⟩
    by_cases hg : gt ls k = .retAddr 0
    · rw [if_pos hg] at he; cases he
    · rw [if_neg hg] at he
      cases he
      exact ⟨List.mem_range.mp hk, hg, rfl⟩
  · rintro ⟨h1, h2, h3⟩
    refine ⟨q.1, List.mem_range.mpr h1, ?_⟩
    rw [if_neg h2, ← h3]
def lsR (y : Nat) (A : Nat → Nat) (ls : List Value) (arr : Array Slot) : Prop := lv_has arr (mL y) (held A ls) ∧ ls.length = mL y ∧ (nol y = true → ∀ v ∈ ls, isL v = false)
theorem gt_lt {ls : List Value} {k : Nat} (h : gt ls k ≠ .retAddr 0) : k < ls.length := by
  apply Nat.lt_of_not_le
  intro q
  apply h
  unfold gt
  rw [List.getElem?_eq_none q]
  rfl
theorem gt_mem {ls : List Value} {k : Nat} (h : k < ls.length) : gt ls k ∈ ls := by
  unfold gt
  rw [List.getElem?_eq_getElem h]
  exact List.getElem_mem h
theorem gt_set {ls : List Value} {k j : Nat} {v : Value} (h : k < ls.length) : gt (ls.set k v) j = if j = k then v else gt ls j := by
  unfold gt
  by_cases e : j = k
  · subst e
    rw [if_pos rfl, List.getElem?_set_self h]
    rfl
  · rw [if_neg e, List.getElem?_set_ne (Ne.symm e)]
theorem lsR.here {y : Nat} {A : Nat → Nat} {ls : List Value} {arr : Array Slot} (h : lsR y A ls arr) {k : Nat} (hk : gt ls k ≠ .retAddr 0) : arr[k]? = some (.val (cvv A (gt ls k))) := h.1.2.2 (k, cvv A (gt ls k)) (mem_held.mpr ⟨gt_lt hk, hk, rfl⟩)
theorem cvv_cat (A : Nat → Nat) (v : Value) : (cvv A v).category = v.category := by cases v <;> rfl
theorem isL_cat {v : Value} (h : isL v = false) : v.category ≠ 2 := by
  unfold isL at h
  intro e
  rw [e] at h
  cases h
theorem lsR.laid {y : Nat} {A : Nat → Nat} {ls : List Value} {arr arr' : Array Slot} (h : lsR y A ls arr) {k : Nat} {v : Value} (hk : okst y ls k = true) (hv : isL v = false) (h' : lv_has arr' (mL y) ((k, cvv A v) :: (held A ls).filter (fun q => !(q.1 == k) && !(q.1 + 1 == k && q.2.category == 2)))) : lsR y A (ls.set k v) arr' := by
  simp only [okst, Bool.and_eq_true, decide_eq_true_eq, Bool.or_eq_true, beq_iff_eq, Bool.not_eq_true'] at hk
  obtain ⟨hk1, hk2⟩ := hk
  refine ⟨⟨h'.1, h'.2.1, fun q hq => ?_⟩, by rw [List.length_set]; exact h.2.1, fun hn w hw => ?_⟩
  · obtain ⟨q1, q2, q3⟩ := mem_held.mp hq
    rw [List.length_set] at q1
    rw [gt_set hk1] at q2 q3
    apply h'.2.2
    by_cases e : q.1 = k
    · rw [if_pos e] at q3
      have : q = (k, cvv A v) := Prod.ext e q3
      rw [this]
      exact List.mem_cons_self
    · rw [if_neg e] at q2 q3
      refine List.mem_cons_of_mem _ (List.mem_filter.mpr ⟨mem_held.mpr ⟨q1, q2, q3⟩, ?_⟩)
      have e2 : (q.1 == k) = false := by simpa using e
      rw [e2]
      by_cases e3 : q.1 + 1 = k
      · have hc : isL (gt ls q.1) = false := by
          rcases hk2 with (hn | h0) | hl
          · exact h.2.2 hn _ (gt_mem q1)
          · omega
          · rw [← e3] at hl
            exact hl
        have hc2 : ¬ q.2.category = 2 := by rw [q3, cvv_cat]; exact isL_cat hc
        have e4 : (q.2.category == 2) = false := by simpa using hc2
        rw [e4]
        simp
      · have e4 : (q.1 + 1 == k) = false := by simpa using e3
        rw [e4]
        rfl
  · rcases List.mem_or_eq_of_mem_set hw with h1 | h1
    · exact h.2.2 hn w h1
    · rw [h1]; exact hv
theorem lsR.laidJ {y : Nat} {A : Nat → Nat} {ls : List Value} {arr arr' : Array Slot} (h : lsR y A ls arr) {k : Nat} {x : Int64} (hy : nol y = false) (hk : okst y ls k = true) (hk3 : k + 1 < ls.length) (h' : lv_has arr' (mL y) ((k, .long x) :: (held A ls).filter (fun q => !(q.1 == k) && (!(q.1 == k + 1) && !(q.1 + 1 == k && q.2.category == 2))))) : lsR y A ((ls.set k (.long x)).set (k + 1) (.retAddr 0)) arr' := by
  simp only [okst, Bool.and_eq_true, decide_eq_true_eq, Bool.or_eq_true, beq_iff_eq, Bool.not_eq_true'] at hk
  obtain ⟨hk1, hk2⟩ := hk
  refine ⟨⟨h'.1, h'.2.1, fun q hq => ?_⟩, by rw [List.length_set, List.length_set]; exact h.2.1, fun hn => by rw [hy] at hn; cases hn⟩
  obtain ⟨q1, q2, q3⟩ := mem_held.mp hq
  rw [List.length_set, List.length_set] at q1
  rw [gt_set (by rw [List.length_set]; exact hk3), gt_set hk1] at q2 q3
  apply h'.2.2
  by_cases e0 : q.1 = k + 1
  · rw [if_pos e0] at q2; exact absurd rfl q2
  · rw [if_neg e0] at q2 q3
    by_cases e : q.1 = k
    · rw [if_pos e] at q3
      have : q = (k, .long x) := Prod.ext e q3
      rw [this]
      exact List.mem_cons_self
    · rw [if_neg e] at q2 q3
      refine List.mem_cons_of_mem _ (List.mem_filter.mpr ⟨mem_held.mpr ⟨q1, q2, q3⟩, ?_⟩)
      have e2 : (q.1 == k) = false := by simpa using e
      have e5 : (q.1 == k + 1) = false := by simpa using e0
      rw [e2, e5]
      by_cases e3 : q.1 + 1 = k
      · have hc : isL (gt ls q.1) = false := by
          rcases hk2 with (hn | h0) | hl
          · rw [hy] at hn; cases hn
          · omega
          · rw [← e3] at hl
            exact hl
        have hc2 : ¬ q.2.category = 2 := by rw [q3, cvv_cat]; exact isL_cat hc
        have e4 : (q.2.category == 2) = false := by simpa using hc2
        rw [e4]
        simp
      · have e4 : (q.1 + 1 == k) = false := by simpa using e3
        rw [e4]
        rfl
/-- what stays: the roles that were there, but for those whose cell can become another one where the method may do that -/
def Pres (y : Nat) (A A' : Nat → Nat) (h h' : Hp) : Prop := ∀ r, tg h r ≠ 0 → (mv y = true → gw r = false) → tg h' r = tg h r ∧ A' r = A r
theorem Pres.rf (y : Nat) (A : Nat → Nat) (h : Hp) : Pres y A A h h := fun _ _ _ => ⟨rfl, rfl⟩
theorem Pres.tr {y : Nat} {A A1 A2 : Nat → Nat} {h h1 h2 : Hp} (p : Pres y A A1 h h1) (q : Pres y A1 A2 h1 h2) : Pres y A A2 h h2 := by
  intro r hr hg
  obtain ⟨p1, p2⟩ := p r hr hg
  obtain ⟨q1, q2⟩ := q r (by rw [p1]; exact hr) hg
  exact ⟨q1.trans p1, q2.trans p2⟩
/-- the same tags, the same addresses -/
theorem Pres.tags {y : Nat} {A : Nat → Nat} {h h1 : Hp} (e : ∀ r, tg h1 r = tg h r) : Pres y A A h h1 := fun r _ _ => ⟨e r, rfl⟩
theorem okS.to {y : Nat} {A A1 : Nat → Nat} {h h1 : Hp} {l : List Value} (p : Pres y A A1 h h1) (hl : okS h l) (hg : mv y = true → ng l = true) : okS h1 l ∧ l.map (cvv A1) = l.map (cvv A) := by
  have key : ∀ v ∈ l, okv h1 v ∧ cvv A1 v = cvv A v := by
    intro v hv
    cases v with
    | ref r =>
      obtain ⟨p1, p2⟩ := p r (hl _ hv) (fun hm => by
        have := List.all_eq_true.mp (hg hm) _ hv
        simpa [ngv] using this)
      exact ⟨by show tg h1 r ≠ 0; rw [p1]; exact hl _ hv, by show Value.ref _ = Value.ref _; rw [p2]⟩
    | _ => exact ⟨trivial, rfl⟩
  exact ⟨fun v hv => (key v hv).1, List.map_congr_left (fun v hv => (key v hv).2)⟩
theorem lsR.to {y : Nat} {A A1 : Nat → Nat} {h h1 : Hp} {ls : List Value} {arr : Array Slot} (p : Pres y A A1 h h1) (hl : okS h ls) (hg : mv y = true → ng ls = true) (hr : lsR y A ls arr) : lsR y A1 ls arr := by
  have e := (okS.to p hl hg).2
  have key : ∀ k, k < ls.length → cvv A1 (gt ls k) = cvv A (gt ls k) := by
    intro k hk
    have := congrArg (fun l : List Value => l[k]?) e
    simp only [List.getElem?_map] at this
    unfold gt
    rw [List.getElem?_eq_getElem hk] at this ⊢
    simpa using this
  refine ⟨⟨hr.1.1, hr.1.2.1, fun q hq => ?_⟩, hr.2⟩
  obtain ⟨q1, q2, q3⟩ := mem_held.mp hq
  exact hr.1.2.2 q (mem_held.mpr ⟨q1, q2, by rw [q3]; exact key _ q1⟩)
/-- the end of a method -/
def rst (y : Nat) (A : Nat → Nat) (v : Value) : List Value := if mR y = none then [] else [cvv A v]
def rvo (y : Nat) (A : Nat → Nat) (v : Value) : Option Value := if mR y = none then none else some (cvv A v)
def retI (y pc : Nat) (v : Value) : Prop :=
  (mR y = none ∧ decode (mB y) pc = .ok (.return_, 1)) ∨
  (∃ x : Int32, v = .int x ∧ decode (mB y) pc = .ok (.ireturn, 1) ∧ (mR y = some .int ∨ (mR y = some .boolean ∧ bz x = true))) ∨
  (∃ x : Int64, v = .long x ∧ decode (mB y) pc = .ok (.lreturn, 1) ∧ mR y = some .long) ∨
  (isR v = true ∧ decode (mB y) pc = .ok (.areturn, 1) ∧ ((∃ n, mR y = some (.object n)) ∨ ∃ t, mR y = some (.array t)))
def wsM (y : Nat) : List Jvm.Cond := .code (mY y) (mB y) (mL y) (mR y) :: goodWs
def rmM (y k u : Nat) : Room := { frames := mF y, cells := k, slots := u, locals := mLc y }
def Qm (D : va_G) (cI : ClassId) (cA : Nat → ClassId) (base z : Nat) (A : Nat → Nat) (h h' : Hp) (v : Value) : Array Value → State → Outcome → State → Prop := fun _ _ oc t => ∃ A' : Nat → Nat, Pres z A A' h h' ∧ Rep D cI cA base A' h' t t.heap ∧ okv h' v ∧ oc = .returned (rvo z A' v)
def Pm (D : va_G) (cI : ClassId) (cA : Nat → ClassId) (base : Nat) (A : Nat → Nat) (h : Hp) (a : List Value) : Array Value → State → Prop := va_Pc (a.map (cvv A)) (fun U => Rep D cI cA base A h U U.heap ∧ KF D cI cA U)
def MetP (D : va_G) (cI : ClassId) (cA : Nat → ClassId) (base : Nat) (l : Launch) (n : Nat) : Prop := ∀ (z : Nat) (a : List Value) (h h' : Hp) (v : Value) (A : Nat → Nat), z < 99 → z ≠ 1 → exec n z 0 (ent z a) [] h = some (v, h') → okS h a → (nol z = true → ∀ w ∈ a, isL w = false) → (lay a).length ≤ mL z →
  Met l (mY z) (wsM z) (rmM z (ck h' - ck h) (cu h' - cu h)) (Pm D cI cA base A h a) (Qm D cI cA base z A h h' v) (ck h' - ck h) (cu h' - cu h) (fun q => base ≤ q)
def EnvM (D : va_G) (cI : ClassId) (cA : Nat → ClassId) (p : Program) (s : State) (m : MethodId) (args : Array Value) (meth : Method) (c : Code) (y : Nat) : Prop :=
  p.tables.exec = Jvm.exec ∧ c.code = mB y ∧ c.maxLocals = mL y ∧ s.vm.findClass (on (mO y)) = some m.cls ∧ (∀ w ∈ goodWs, w.before args s = true) ∧ KF D cI cA s ∧ meth.name = (mt y).2.1
def Stt (D : va_G) (cI : ClassId) (cA : Nat → ClassId) (base : Nat) (s : State) (R : Room) (y : Nat) (hf : Hp) (A : Nat → Nat) (h : Hp) (ls st : List Value) (arr : Array Slot) (H : Heap) (locs : List Loc) (cells slots : Nat) : Prop :=
  Rep D cI cA base A h s H ∧ lsR y A ls arr ∧ okS h ls ∧ okS h st ∧ (∀ q ∈ locs, base ≤ q.base) ∧ cells + ck hf ≤ R.cells + ck h ∧ slots + cu hf ≤ R.slots + cu h ∧ mF y ≤ R.frames ∧ mLc y ≤ R.locals
def Fin (D : va_G) (cI : ClassId) (cA : Nat → ClassId) (base : Nat) (p : Program) (l : Launch) (e : Env) (R : Room) (s : State) (m : MethodId) (args : Array Value) (below : List Frame) (meth : Method) (c : Code) (Q : State → Prop) (y : Nat) (vf : Value) (hf : Hp) (A : Nat → Nat) (h : Hp) (cells slots : Nat) : Prop :=
  ∀ (A' : Nat → Nat) (H' : Heap) (locs' : List Loc) (cells' slots' pc' : Nat) (arr' : Array Slot), Pres y A A' h hf → Rep D cI cA base A' hf s H' → okv hf vf → (∀ q ∈ locs', base ≤ q.base) → cells' + ck h = cells + ck hf → slots' + cu h = slots + cu hf → retI y pc' vf →
    W p l e R s m args below meth c H' locs' cells' slots' Q (F0 m pc' arr' (rst y A' vf))
end
section
theorem gd_some {b : Bool} {r : Rs} {x : Value × Hp} (h : gd b r = some x) : b = true ∧ r = some x := by
  unfold gd at h
  cases b with
  | true => exact ⟨rfl, h⟩
  | false => cases h
theorem i1_some {st : List Value} {f : Int32 → List Value → Rs} {r : Value × Hp} (h : i1 st f = some r) : ∃ x t, st = .int x :: t ∧ f x t = some r := by
  unfold i1 at h
  split at h
  · exact ⟨_, _, rfl, h⟩
  · cases h
theorem i2_some {st : List Value} {f : Int32 → Int32 → List Value → Rs} {r : Value × Hp} (h : i2 st f = some r) : ∃ x y t, st = .int y :: .int x :: t ∧ f x y t = some r := by
  unfold i2 at h
  split at h
  · exact ⟨_, _, _, rfl, h⟩
  · cases h
theorem l1_some {st : List Value} {f : Int64 → List Value → Rs} {r : Value × Hp} (h : l1 st f = some r) : ∃ x t, st = .long x :: t ∧ f x t = some r := by
  unfold l1 at h
  split at h
  · exact ⟨_, _, rfl, h⟩
  · cases h
theorem l2_some {st : List Value} {f : Int64 → Int64 → List Value → Rs} {r : Value × Hp} (h : l2 st f = some r) : ∃ x y t, st = .long y :: .long x :: t ∧ f x y t = some r := by
  unfold l2 at h
  split at h
  · exact ⟨_, _, _, rfl, h⟩
  · cases h
theorem r1_some {st : List Value} {f : Nat → List Value → Rs} {r : Value × Hp} (h : r1 st f = some r) : ∃ x t, st = .ref x :: t ∧ f x t = some r := by
  unfold r1 at h
  split at h
  · exact ⟨_, _, rfl, h⟩
  · cases h
theorem ri_some {st : List Value} {f : Nat → Int32 → List Value → Rs} {r : Value × Hp} (h : ri st f = some r) : ∃ x i t, st = .int i :: .ref x :: t ∧ f x i t = some r := by
  unfold ri at h
  split at h
  · exact ⟨_, _, _, rfl, h⟩
  · cases h
theorem rii_some {st : List Value} {f : Nat → Int32 → Int32 → List Value → Rs} {r : Value × Hp} (h : rii st f = some r) : ∃ x i z t, st = .int z :: .int i :: .ref x :: t ∧ f x i z t = some r := by
  unfold rii at h
  split at h
  · exact ⟨_, _, _, _, rfl, h⟩
  · cases h
theorem rir_some {st : List Value} {f : Nat → Int32 → Nat → List Value → Rs} {r : Value × Hp} (h : rir st f = some r) : ∃ x i q t, st = .ref q :: .int i :: .ref x :: t ∧ f x i q t = some r := by
  unfold rir at h
  split at h
  · exact ⟨_, _, _, _, rfl, h⟩
  · cases h
theorem v1_some {st : List Value} {f : Value → List Value → Rs} {r : Value × Hp} (h : v1 st f = some r) : ∃ x t, st = x :: t ∧ f x t = some r := by
  unfold v1 at h
  split at h
  · exact ⟨_, _, rfl, h⟩
  · cases h
theorem jmp_some {pc : Nat} {off : Int} {go : Nat → Rs} {r : Value × Hp} (h : jmp pc off go = some r) : ∃ t : Nat, (pc : Int) + off = (t : Int) ∧ go t = some r := by
  obtain ⟨h1, h2⟩ := gd_some h
  exact ⟨_, (Int.toNat_of_nonneg (of_decide_eq_true h1)).symm, h2⟩
theorem isI_some {v : Value} (h : isI v = true) : ∃ x, v = .int x := by cases v <;> first | exact ⟨_, rfl⟩ | cases h
theorem isJ_some {v : Value} (h : isJ v = true) : ∃ x, v = .long x := by cases v <;> first | exact ⟨_, rfl⟩ | cases h
theorem isR_some {v : Value} (h : isR v = true) : v = .null ∨ ∃ x, v = .ref x := by cases v <;> first | exact Or.inl rfl | exact Or.inr ⟨_, rfl⟩ | cases h
theorem okS_cons {h : Hp} {v : Value} {l : List Value} : okS h (v :: l) ↔ okv h v ∧ okS h l := by
  unfold okS
  simp
theorem okS_get {h : Hp} {ls : List Value} (hl : okS h ls) (k : Nat) : okv h (gt ls k) := by
  by_cases q : k < ls.length
  · exact hl _ (gt_mem q)
  · have e : gt ls k = .retAddr 0 := by
      unfold gt
      rw [List.getElem?_eq_none (by omega)]
      rfl
    rw [e]
    exact trivial
theorem okS_set {h : Hp} {ls : List Value} {k : Nat} {v : Value} (hl : okS h ls) (hv : okv h v) : okS h (ls.set k v) := by
  intro w hw
  rcases List.mem_or_eq_of_mem_set hw with h1 | h1
  · exact hl w h1
  · rw [h1]; exact hv
/-- counts only grow -/
theorem stp_mono {y pc len : Nat} {ls st : List Value} {h : Hp} {go : Go} {call : Nat → List Value → Hp → Rs} {i : Instr} {v : Value} {h' : Hp}
    (hg : ∀ pc' ls' st' h1, go pc' ls' st' h1 = some (v, h') → ck h1 ≤ ck h' ∧ cu h1 ≤ cu h') (hc : ∀ z a h1 w h2, call z a h1 = some (w, h2) → ck h1 ≤ ck h2 ∧ cu h1 ≤ cu h2) (he : stp y pc len ls st h go call i = some (v, h')) : ck h ≤ ck h' ∧ cu h ≤ cu h' := by
  have hcll : ∀ z lz sz a, cll y pc z lz sz h go call a = some (v, h') → ck h ≤ ck h' ∧ cu h ≤ cu h' := by
    intro z lz sz a hz
    unfold cll at hz
    obtain ⟨-, hz⟩ := gd_some hz
    split at hz
    · rename_i w h2 heq
      have h1 := hc _ _ _ _ _ heq
      have h2 := hg _ _ _ _ hz
      omega
    · cases hz
  have hs : ∀ pc' ls' st' h1, go pc' ls' st' h1 = some (v, h') → ck h1 = ck h → cu h1 = cu h → ck h ≤ ck h' ∧ cu h ≤ cu h' := by
    intro pc1 ls1 st1 h1 hz e1 e2
    have h2 := hg _ _ _ _ hz
    omega
  have hmk : ∀ q t n u pc' ls' st', go pc' ls' st' (mk h q t n u) = some (v, h') → ck h ≤ ck h' ∧ cu h ≤ cu h' := by
    intro q t n u pc' ls' st' hz
    have h2 := hg _ _ _ _ hz
    have e1 : ck (mk h q t n u) = ck h + 1 := rfl
    have e2 : cu (mk h q t n u) = cu h + u := rfl
    omega
  have hon : ∀ z sz (f : Nat → List Value → List Value → Rs), onobj z sz f = some (v, h') → ∃ r a s, f r a s = some (v, h') := by
    intro z sz f hz
    obtain ⟨r, t, -, hz⟩ := r1_some hz
    obtain ⟨-, hz⟩ := gd_some hz
    exact ⟨_, _, _, hz⟩
  cases i <;> simp only [stp] at he
  all_goals (first | (cases he; done) | (exact hg _ _ _ _ he) | skip)
  case ldc j => split at he <;> first | exact hg _ _ _ _ he | cases he
  case ldc_w j => split at he <;> first | exact hg _ _ _ _ he | cases he
  case iload k => exact hg _ _ _ _ (gd_some he).2
  case iload_n k => exact hg _ _ _ _ (gd_some he).2
  case lload k => exact hg _ _ _ _ (gd_some he).2
  case lload_n k => exact hg _ _ _ _ (gd_some he).2
  case aload k => exact hg _ _ _ _ (gd_some he).2
  case aload_n k => exact hg _ _ _ _ (gd_some he).2
  case istore k => obtain ⟨x, t, -, he⟩ := i1_some he; exact hg _ _ _ _ (gd_some he).2
  case istore_n k => obtain ⟨x, t, -, he⟩ := i1_some he; exact hg _ _ _ _ (gd_some he).2
  case astore k => obtain ⟨x, t, -, he⟩ := v1_some he; exact hg _ _ _ _ (gd_some he).2
  case astore_n k => obtain ⟨x, t, -, he⟩ := v1_some he; exact hg _ _ _ _ (gd_some he).2
  case lstore k => obtain ⟨x, t, -, he⟩ := l1_some he; exact hg _ _ _ _ (gd_some he).2
  case lstore_n k => obtain ⟨x, t, -, he⟩ := l1_some he; exact hg _ _ _ _ (gd_some he).2
  case iinc k j =>
    split at he
    · exact hg _ _ _ _ (gd_some he).2
    · cases he
  case iadd => obtain ⟨x, z, t, -, he⟩ := i2_some he; exact hg _ _ _ _ he
  case isub => obtain ⟨x, z, t, -, he⟩ := i2_some he; exact hg _ _ _ _ he
  case imul => obtain ⟨x, z, t, -, he⟩ := i2_some he; exact hg _ _ _ _ he
  case idiv => obtain ⟨x, z, t, -, he⟩ := i2_some he; exact hg _ _ _ _ (gd_some he).2
  case irem => obtain ⟨x, z, t, -, he⟩ := i2_some he; exact hg _ _ _ _ (gd_some he).2
  case ineg => obtain ⟨x, t, -, he⟩ := i1_some he; exact hg _ _ _ _ he
  case ishl => obtain ⟨x, z, t, -, he⟩ := i2_some he; exact hg _ _ _ _ he
  case ishr => obtain ⟨x, z, t, -, he⟩ := i2_some he; exact hg _ _ _ _ he
  case iushr => obtain ⟨x, z, t, -, he⟩ := i2_some he; exact hg _ _ _ _ he
  case iand => obtain ⟨x, z, t, -, he⟩ := i2_some he; exact hg _ _ _ _ he
  case ior => obtain ⟨x, z, t, -, he⟩ := i2_some he; exact hg _ _ _ _ he
  case ixor => obtain ⟨x, z, t, -, he⟩ := i2_some he; exact hg _ _ _ _ he
  case i2l => obtain ⟨x, t, -, he⟩ := i1_some he; exact hg _ _ _ _ he
  case i2b => obtain ⟨x, t, -, he⟩ := i1_some he; exact hg _ _ _ _ he
  case i2s => obtain ⟨x, t, -, he⟩ := i1_some he; exact hg _ _ _ _ he
  case ldiv => obtain ⟨x, z, t, -, he⟩ := l2_some he; exact hg _ _ _ _ (gd_some he).2
  case lrem => obtain ⟨x, z, t, -, he⟩ := l2_some he; exact hg _ _ _ _ (gd_some he).2
  case lcmp => obtain ⟨x, z, t, -, he⟩ := l2_some he; exact hg _ _ _ _ he
  case pop => obtain ⟨x, t, -, he⟩ := v1_some he; exact hg _ _ _ _ (gd_some he).2
  case dup => obtain ⟨x, t, -, he⟩ := v1_some he; exact hg _ _ _ _ (gd_some he).2
  case dup2 => obtain ⟨x, t, -, he⟩ := v1_some he; obtain ⟨x, t, -, he⟩ := v1_some he; exact hg _ _ _ _ (gd_some he).2
  case goto off => obtain ⟨t, -, he⟩ := jmp_some he; exact hg _ _ _ _ he
  case ifCond cc off =>
    obtain ⟨x, t, -, he⟩ := i1_some he
    obtain ⟨-, he⟩ := gd_some he
    cases cc <;> simp only [brn] at he <;> split at he <;> exact hg _ _ _ _ he
  case if_icmp cc off =>
    obtain ⟨x, z, t, -, he⟩ := i2_some he
    obtain ⟨-, he⟩ := gd_some he
    cases cc <;> simp only [brn] at he <;> split at he <;> exact hg _ _ _ _ he
  case ifnull off =>
    split at he
    · obtain ⟨t, -, he⟩ := jmp_some he; exact hg _ _ _ _ he
    · exact hg _ _ _ _ he
    · cases he
  case ifnonnull off =>
    split at he
    · exact hg _ _ _ _ he
    · obtain ⟨t, -, he⟩ := jmp_some he; exact hg _ _ _ _ he
    · cases he
  case tableswitch d lo hi offs =>
    obtain ⟨x, t, -, he⟩ := i1_some he
    split at he
    · obtain ⟨t, -, he⟩ := jmp_some he; exact hg _ _ _ _ he
    · split at he
      · obtain ⟨t, -, he⟩ := jmp_some he; exact hg _ _ _ _ he
      · cases he
  case lookupswitch d ps =>
    obtain ⟨x, t, -, he⟩ := i1_some he
    obtain ⟨-, he⟩ := gd_some he
    obtain ⟨t, -, he⟩ := jmp_some he
    exact hg _ _ _ _ he
  case getfield j =>
    split at he
    · obtain ⟨x, t, -, he⟩ := r1_some he
      obtain ⟨-, he⟩ := gd_some he
      split at he
      · exact hg _ _ _ _ (gd_some he).2
      · exact hg _ _ _ _ he
    · cases he
  case putfield j =>
    split at he
    · obtain ⟨-, he⟩ := gd_some he
      split at he
      · obtain ⟨-, he⟩ := gd_some he
        exact hs _ _ _ _ he rfl rfl
      · obtain ⟨-, he⟩ := gd_some he
        split at he
        · exact hs _ _ _ _ he rfl rfl
        · exact hs _ _ _ _ (gd_some he).2 rfl rfl
      · cases he
    · cases he
  case getstatic j =>
    split at he
    · exact hg _ _ _ _ (gd_some he).2
    · cases he
  case iaload => obtain ⟨x, i, t, -, he⟩ := ri_some he; exact hg _ _ _ _ (gd_some he).2
  case iastore => obtain ⟨x, i, z, t, -, he⟩ := rii_some he; exact hs _ _ _ _ (gd_some he).2 rfl rfl
  case aaload => obtain ⟨x, i, t, -, he⟩ := ri_some he; exact hg _ _ _ _ (gd_some he).2
  case aastore =>
    obtain ⟨x, i, z, t, -, he⟩ := rir_some he
    obtain ⟨-, he⟩ := gd_some he
    split at he
    · exact hs _ _ _ _ he rfl rfl
    · exact hs _ _ _ _ (gd_some he).2 rfl rfl
  case arraylength => obtain ⟨x, t, -, he⟩ := r1_some he; exact hg _ _ _ _ (gd_some he).2
  case new j =>
    split at he
    · exact hmk _ _ _ _ _ _ _ (gd_some he).2
    · cases he
  case newarray j => obtain ⟨x, t, -, he⟩ := i1_some he; exact hmk _ _ _ _ _ _ _ (gd_some he).2
  case anewarray j =>
    split at he
    · obtain ⟨x, t, -, he⟩ := i1_some he; exact hmk _ _ _ _ _ _ _ (gd_some he).2
    · cases he
  case invokestatic j =>
    split at he
    · exact hcll _ _ _ _ (gd_some he).2
    · exact hcll _ _ _ _ (gd_some he).2
    · cases he
  case invokespecial j =>
    split at he
    · obtain ⟨x, t, -, he⟩ := r1_some he; exact hg _ _ _ _ (gd_some he).2
    · obtain ⟨r, a, t, he⟩ := hon _ _ _ he; exact hcll _ _ _ _ he
    · obtain ⟨r, a, t, he⟩ := hon _ _ _ he; exact hcll _ _ _ _ he
    · obtain ⟨r, a, t, he⟩ := hon _ _ _ he; exact hcll _ _ _ _ (gd_some he).2
    · cases he
  case invokevirtual j =>
    split at he
    · obtain ⟨r, a, t, he⟩ := hon _ _ _ he; exact hcll _ _ _ _ (gd_some he).2
    · obtain ⟨r, a, t, he⟩ := hon _ _ _ he
      split at he
      · exact hcll _ _ _ _ he
      · cases he
    · cases he
  case ireturn =>
    split at he
    · obtain ⟨-, he⟩ := gd_some he; cases he; exact ⟨Nat.le_refl _, Nat.le_refl _⟩
    · cases he
  case lreturn =>
    split at he
    · obtain ⟨-, he⟩ := gd_some he; cases he; exact ⟨Nat.le_refl _, Nat.le_refl _⟩
    · cases he
  case areturn =>
    split at he
    · obtain ⟨-, he⟩ := gd_some he; cases he; exact ⟨Nat.le_refl _, Nat.le_refl _⟩
    · cases he
  case return_ =>
    split at he
    · obtain ⟨-, he⟩ := gd_some he; cases he; exact ⟨Nat.le_refl _, Nat.le_refl _⟩
    · cases he
theorem exec_mono : ∀ (n y pc : Nat) (ls st : List Value) (h : Hp) (v : Value) (h' : Hp), exec n y pc ls st h = some (v, h') → ck h ≤ ck h' ∧ cu h ≤ cu h' := by
  intro n
  induction n with
  | zero => intro y pc ls st h v h' he; simp [exec] at he
  | succ n ih =>
    intro y pc ls st h v h' he
    rw [exec] at he
    split at he
    · obtain ⟨-, he⟩ := gd_some he
      exact stp_mono (fun _ _ _ _ q => ih _ _ _ _ _ _ _ q) (fun _ _ _ _ _ q => ih _ _ _ _ _ _ _ q) he
    · cases he
end
section
def plainI : Instr → Bool
  | .getfield _ => false
  | .putfield _ => false
  | .getstatic _ => false
  | .iaload => false
  | .iastore => false
  | .aaload => false
  | .aastore => false
  | .arraylength => false
  | .new _ => false
  | .newarray _ => false
  | .anewarray _ => false
  | .invokestatic _ => false
  | .invokespecial _ => false
  | .invokevirtual _ => false
  | .ldc _ => false
  | .ldc_w _ => false
  | .ldc2_w _ => false
  | _ => true
theorem lrem_eq (x y : Int64) : x - (x / y) * y = x % y := by
  apply Int64.toInt_inj.mp
  have h1 := Int64.le_toInt (x % y)
  have h2 := Int64.toInt_lt (x % y)
  rw [Int64.toInt_sub, Int64.toInt_mul, Int64.toInt_div, Int.bmod_mul_bmod, Int.sub_bmod_bmod, Int.mul_comm (x.toInt.tdiv y.toInt), ← Int.tmod_def, ← Int64.toInt_mod]
  exact Int.bmod_eq_of_le_mul_two (by omega) (by omega)
section SIMA
variable {D : va_G} {cI : ClassId} {cA : Nat → ClassId} {base : Nat} {p : Program} {l : Launch} {e : Env} {R : Room} {s : State} {m : MethodId} {args : Array Value} {below : List Frame} {meth : Method} {c : Code} {Q : State → Prop} {y : Nat} {vf : Value} {hf : Hp}
/-- what is known of runs of n steps -/
def IH (D : va_G) (cI : ClassId) (cA : Nat → ClassId) (base : Nat) (p : Program) (l : Launch) (e : Env) (R : Room) (s : State) (m : MethodId) (args : Array Value) (below : List Frame) (meth : Method) (c : Code) (Q : State → Prop) (y : Nat) (vf : Value) (hf : Hp) (n : Nat) : Prop :=
  ∀ (pc : Nat) (ls st : List Value) (h : Hp) (A : Nat → Nat) (arr : Array Slot) (H : Heap) (locs : List Loc) (cells slots : Nat), exec n y pc ls st h = some (vf, hf) → Stt D cI cA base s R y hf A h ls st arr H locs cells slots → Fin D cI cA base p l e R s m args below meth c Q y vf hf A h cells slots →
    W p l e R s m args below meth c H locs cells slots Q (F0 m pc arr (st.map (cvv A)))
/-- one step that is no call, makes nothing, changes no heap -/
theorem sim_plain {n : Nat} (E : EnvM D cI cA p s m args meth c y) (ih : IH D cI cA base p l e R s m args below meth c Q y vf hf n) {pc len : Nat} {ls st : List Value} {h : Hp} {A : Nat → Nat} {arr : Array Slot} {H : Heap} {locs : List Loc} {cells slots : Nat} {i : Instr}
    (hd : decode (mB y) pc = .ok (i, len)) (hok : okl i len = true) (he : stp y pc len ls st h (exec n y) (fun y a h' => exec n y 0 (ent y a) [] h') i = some (vf, hf)) (S : Stt D cI cA base s R y hf A h ls st arr H locs cells slots) (K : Fin D cI cA base p l e R s m args below meth c Q y vf hf A h cells slots)
    (hi : plainI i = true) :
    W p l e R s m args below meth c H locs cells slots Q (F0 m pc arr (st.map (cvv A))) := by
  obtain ⟨hx, hb, hml, hown, hts, hKF, hnm⟩ := E
  obtain ⟨hR, hl, ho, hs, hloc, hce, hsl, hfr, hlo⟩ := S
  have g : ∀ pc' ls' arr' st', exec n y pc' ls' st' h = some (vf, hf) → lsR y A ls' arr' → okS h ls' → okS h st' → W p l e R s m args below meth c H locs cells slots Q (F0 m pc' arr' (st'.map (cvv A))) :=
    fun pc' ls' arr' st' q hl' ho' hs' => ih pc' ls' st' h A arr' H locs cells slots q ⟨hR, hl', ho', hs', hloc, hce, hsl, hfr, hlo⟩ K
  have g0 : ∀ pc' st', exec n y pc' ls st' h = some (vf, hf) → okS h st' → W p l e R s m args below meth c H locs cells slots Q (F0 m pc' arr (st'.map (cvv A))) := fun pc' st' q hs' => g pc' ls arr st' q hl ho hs'
  have o2 : ∀ {a b : Value} {t : List Value}, okS h (a :: b :: t) → okS h t := fun q => (okS_cons.mp (okS_cons.mp q).2).2
  have o1 : ∀ {a : Value} {t : List Value}, okS h (a :: t) → okS h t := fun q => (okS_cons.mp q).2
  have oi : ∀ {x : Int32} {t : List Value}, okS h t → okS h (.int x :: t) := fun q => okS_cons.mpr ⟨trivial, q⟩
  have oj : ∀ {x : Int64} {t : List Value}, okS h t → okS h (.long x :: t) := fun q => okS_cons.mpr ⟨trivial, q⟩
  cases i <;> simp only [stp] at he
  all_goals (first | (cases he; done) | (cases hi; done) | skip)
  all_goals (first | (have hlen : len = 1 := by simpa [okl] using hok) | (have hlen : len = 2 := by simpa [okl] using hok) | (have hlen : len = 3 := by simpa [okl] using hok) | skip)
  all_goals (first | subst hlen | skip)
  case iconst k => exact lv_iconst hx hb hd rfl (g0 _ _ he (oi hs))
  case bipush k => exact lv_bipush hx hb hd rfl (g0 _ _ he (oi hs))
  case sipush k => exact lv_sipush hx hb hd rfl (g0 _ _ he (oi hs))
  case lconst k => exact lv_lconst hx hb hd rfl (g0 _ _ he (oj hs))
  case aconst_null => exact lv_null hx hb hd (g0 _ _ he (okS_cons.mpr ⟨trivial, hs⟩))
  case iload k =>
    obtain ⟨h1, he⟩ := gd_some he
    obtain ⟨x, hv⟩ := isI_some h1
    have hk := hl.here (k := k) (by rw [hv]; exact fun q => by cases q)
    rw [hv] at hk he
    exact lv_iload hx hb hd hk (g0 _ _ he (oi hs))
  case iload_n k =>
    obtain ⟨h1, he⟩ := gd_some he
    obtain ⟨x, hv⟩ := isI_some h1
    have hk := hl.here (k := k) (by rw [hv]; exact fun q => by cases q)
    rw [hv] at hk he
    exact lv_iload_n hx hb hd rfl hk (g0 _ _ he (oi hs))
  case lload k =>
    obtain ⟨h1, he⟩ := gd_some he
    obtain ⟨x, hv⟩ := isJ_some h1
    have hk := hl.here (k := k) (by rw [hv]; exact fun q => by cases q)
    rw [hv] at hk he
    exact lv_lload hx hb hd hk (g0 _ _ he (oj hs))
  case lload_n k =>
    obtain ⟨h1, he⟩ := gd_some he
    obtain ⟨x, hv⟩ := isJ_some h1
    have hk := hl.here (k := k) (by rw [hv]; exact fun q => by cases q)
    rw [hv] at hk he
    exact lv_lload_n hx hb hd rfl hk (g0 _ _ he (oj hs))
  case aload k =>
    obtain ⟨h1, he⟩ := gd_some he
    have hov := okS_get ho k
    rcases isR_some h1 with hv | ⟨x, hv⟩
    · have hk := hl.here (k := k) (by rw [hv]; exact fun q => by cases q)
      rw [hv] at hk he hov
      exact lv_aloadN hx hb hd hk (g0 _ _ he (okS_cons.mpr ⟨hov, hs⟩))
    · have hk := hl.here (k := k) (by rw [hv]; exact fun q => by cases q)
      rw [hv] at hk he hov
      exact lv_aload hx hb hd hk (g0 _ _ he (okS_cons.mpr ⟨hov, hs⟩))
  case aload_n k =>
    obtain ⟨h1, he⟩ := gd_some he
    have hov := okS_get ho k
    rcases isR_some h1 with hv | ⟨x, hv⟩
    · have hk := hl.here (k := k) (by rw [hv]; exact fun q => by cases q)
      rw [hv] at hk he hov
      exact lv_aload_nN hx hb hd rfl hk (g0 _ _ he (okS_cons.mpr ⟨hov, hs⟩))
    · have hk := hl.here (k := k) (by rw [hv]; exact fun q => by cases q)
      rw [hv] at hk he hov
      exact lv_aload_n hx hb hd rfl hk (g0 _ _ he (okS_cons.mpr ⟨hov, hs⟩))
  case istore k =>
    obtain ⟨x, t, rfl, he⟩ := i1_some he
    obtain ⟨h1, he⟩ := gd_some he
    have hk : k < mL y := by
      have := hl.2.1
      simp only [okst, Bool.and_eq_true, decide_eq_true_eq] at h1
      omega
    exact lv_istore hx hb hd hl.1 hk rfl (fun arr' h' => g _ _ _ _ he (hl.laid (v := .int x) h1 rfl h') (okS_set ho trivial) (o1 hs))
  case istore_n k =>
    obtain ⟨x, t, rfl, he⟩ := i1_some he
    obtain ⟨h1, he⟩ := gd_some he
    have hk : (k : Nat) < mL y := by
      have := hl.2.1
      simp only [okst, Bool.and_eq_true, decide_eq_true_eq] at h1
      omega
    exact lv_istore_n hx hb hd rfl hl.1 hk rfl (fun arr' h' => g _ _ _ _ he (hl.laid (v := .int x) h1 rfl h') (okS_set ho trivial) (o1 hs))
  case astore k =>
    obtain ⟨v, t, rfl, he⟩ := v1_some he
    obtain ⟨h1, he⟩ := gd_some he
    rw [Bool.and_eq_true] at h1
    obtain ⟨h0, h1⟩ := h1
    have hk : k < mL y := by
      have := hl.2.1
      simp only [okst, Bool.and_eq_true, decide_eq_true_eq] at h1
      omega
    rcases isR_some h0 with rfl | ⟨x, rfl⟩
    · exact lv_astoreN hx hb hd hl.1 hk rfl (fun arr' h' => g _ _ _ _ he (hl.laid (v := .null) h1 rfl h') (okS_set ho trivial) (o1 hs))
    · exact lv_astore hx hb hd hl.1 hk rfl (fun arr' h' => g _ _ _ _ he (hl.laid (v := .ref x) h1 rfl h') (okS_set ho (okS_cons.mp hs).1) (o1 hs))
  case astore_n k =>
    obtain ⟨v, t, rfl, he⟩ := v1_some he
    obtain ⟨h1, he⟩ := gd_some he
    rw [Bool.and_eq_true] at h1
    obtain ⟨h0, h1⟩ := h1
    have hk : (k : Nat) < mL y := by
      have := hl.2.1
      simp only [okst, Bool.and_eq_true, decide_eq_true_eq] at h1
      omega
    rcases isR_some h0 with rfl | ⟨x, rfl⟩
    · exact lv_astore_nN hx hb hd rfl hl.1 hk rfl (fun arr' h' => g _ _ _ _ he (hl.laid (v := .null) h1 rfl h') (okS_set ho trivial) (o1 hs))
    · exact lv_astore_n hx hb hd rfl hl.1 hk rfl (fun arr' h' => g _ _ _ _ he (hl.laid (v := .ref x) h1 rfl h') (okS_set ho (okS_cons.mp hs).1) (o1 hs))
  case lstore k =>
    obtain ⟨x, t, rfl, he⟩ := l1_some he
    obtain ⟨h1, he⟩ := gd_some he
    simp only [Bool.and_eq_true, decide_eq_true_eq, Bool.not_eq_true'] at h1
    have hk : k + 1 < mL y := by
      have := hl.2.1
      omega
    exact lv_lstore hx hb hd hl.1 hk rfl (fun arr' h' => g _ _ _ _ he (hl.laidJ (x := x) h1.1.1 h1.1.2 h1.2 h') (okS_set (okS_set ho trivial) trivial) (o1 hs))
  case lstore_n k =>
    obtain ⟨x, t, rfl, he⟩ := l1_some he
    obtain ⟨h1, he⟩ := gd_some he
    simp only [Bool.and_eq_true, decide_eq_true_eq, Bool.not_eq_true'] at h1
    have hk : (k : Nat) + 1 < mL y := by
      have := hl.2.1
      omega
    exact lv_lstore_n hx hb hd rfl hl.1 hk rfl (fun arr' h' => g _ _ _ _ he (hl.laidJ (x := x) h1.1.1 h1.1.2 h1.2 h') (okS_set (okS_set ho trivial) trivial) (o1 hs))
  case iinc k j =>
    split at he
    · rename_i x hv
      obtain ⟨h1, he⟩ := gd_some he
      have hk : k < mL y := by
        have := hl.2.1
        simp only [okst, Bool.and_eq_true, decide_eq_true_eq] at h1
        omega
      have hm : (k, Value.int x) ∈ held A ls := mem_held.mpr ⟨(by rw [hl.2.1]; exact hk), (by rw [hv]; exact (fun q => by cases q)), (by rw [hv]; rfl)⟩
      obtain ⟨q, hq⟩ := List.getElem?_of_mem hm
      exact lv_iinc hx hb hd hl.1 hq rfl hk rfl (fun arr' h' => g _ _ _ _ he (hl.laid (v := .int (x + Int32.ofInt j)) h1 rfl h') (okS_set ho trivial) hs)
    · cases he
  case iadd => obtain ⟨x, z, t, rfl, he⟩ := i2_some he; exact lv_iadd hx hb hd (g0 _ _ he (oi (o2 hs)))
  case isub => obtain ⟨x, z, t, rfl, he⟩ := i2_some he; exact lv_isub hx hb hd (g0 _ _ he (oi (o2 hs)))
  case imul => obtain ⟨x, z, t, rfl, he⟩ := i2_some he; exact lv_imul hx hb hd (g0 _ _ he (oi (o2 hs)))
  case idiv =>
    obtain ⟨x, z, t, rfl, he⟩ := i2_some he
    obtain ⟨h1, he⟩ := gd_some he
    exact lv_idiv hx hb hd (by simpa using h1) (g0 _ _ he (oi (o2 hs)))
  case irem =>
    obtain ⟨x, z, t, rfl, he⟩ := i2_some he
    obtain ⟨h1, he⟩ := gd_some he
    refine lv_irem hx hb hd (by simpa using h1) ?_
    rw [irem_eq_mod]
    exact g0 _ _ he (oi (o2 hs))
  case ineg => obtain ⟨x, t, rfl, he⟩ := i1_some he; exact lv_ineg hx hb hd (g0 _ _ he (oi (o1 hs)))
  case ishl => obtain ⟨x, z, t, rfl, he⟩ := i2_some he; exact lv_ishl hx hb hd (g0 _ _ he (oi (o2 hs)))
  case ishr => obtain ⟨x, z, t, rfl, he⟩ := i2_some he; exact lv_ishr hx hb hd (g0 _ _ he (oi (o2 hs)))
  case iushr => obtain ⟨x, z, t, rfl, he⟩ := i2_some he; exact lv_iushr hx hb hd rfl (g0 _ _ he (oi (o2 hs)))
  case iand => obtain ⟨x, z, t, rfl, he⟩ := i2_some he; exact lv_iand hx hb hd (g0 _ _ he (oi (o2 hs)))
  case ior => obtain ⟨x, z, t, rfl, he⟩ := i2_some he; exact lv_ior hx hb hd (g0 _ _ he (oi (o2 hs)))
  case ixor => obtain ⟨x, z, t, rfl, he⟩ := i2_some he; exact lv_ixor hx hb hd (g0 _ _ he (oi (o2 hs)))
  case i2l => obtain ⟨x, t, rfl, he⟩ := i1_some he; exact lv_i2l hx hb hd rfl (g0 _ _ he (oj (o1 hs)))
  case i2b => obtain ⟨x, t, rfl, he⟩ := i1_some he; exact lv_i2b hx hb hd rfl (g0 _ _ he (oi (o1 hs)))
  case i2s => obtain ⟨x, t, rfl, he⟩ := i1_some he; exact lv_i2s hx hb hd rfl (g0 _ _ he (oi (o1 hs)))
  case ldiv =>
    obtain ⟨x, z, t, rfl, he⟩ := l2_some he
    obtain ⟨h1, he⟩ := gd_some he
    exact lv_ldiv hx hb hd (by simpa using h1) (g0 _ _ he (oj (o2 hs)))
  case lrem =>
    obtain ⟨x, z, t, rfl, he⟩ := l2_some he
    obtain ⟨h1, he⟩ := gd_some he
    refine lv_lrem hx hb hd (by simpa using h1) ?_
    rw [lrem_eq]
    exact g0 _ _ he (oj (o2 hs))
  case lcmp => obtain ⟨x, z, t, rfl, he⟩ := l2_some he; exact W.lcmp hx hb hd (g0 _ _ he (oi (o2 hs)))
  case pop =>
    obtain ⟨v, t, rfl, he⟩ := v1_some he
    obtain ⟨h1, he⟩ := gd_some he
    simp only [Bool.and_eq_true, Bool.or_eq_true] at h1
    refine lv_pop hx hb hd ?_ (g0 _ _ he (o1 hs))
    rcases h1.2 with q | q
    · obtain ⟨x, rfl⟩ := isI_some q; rfl
    · rcases isR_some q with rfl | ⟨x, rfl⟩ <;> rfl
  case dup =>
    obtain ⟨v, t, rfl, he⟩ := v1_some he
    obtain ⟨h1, he⟩ := gd_some he
    simp only [Bool.and_eq_true, Bool.or_eq_true] at h1
    obtain ⟨w1, w2⟩ := okS_cons.mp hs
    refine lv_dup hx hb hd ?_ (g0 _ _ he (okS_cons.mpr ⟨w1, okS_cons.mpr ⟨w1, w2⟩⟩))
    rcases h1.2 with q | q
    · obtain ⟨x, rfl⟩ := isI_some q; rfl
    · rcases isR_some q with rfl | ⟨x, rfl⟩ <;> rfl
  case dup2 =>
    obtain ⟨v, t, rfl, he2⟩ := v1_some he
    obtain ⟨w, t2, rfl, he3⟩ := v1_some he2
    obtain ⟨h1, he4⟩ := gd_some he3
    simp only [Bool.and_eq_true, Bool.or_eq_true] at h1
    obtain ⟨w1, w2⟩ := okS_cons.mp hs
    obtain ⟨w3, w4⟩ := okS_cons.mp w2
    refine lv_dup2_11 hx hb hd ?_ ?_ (g0 _ _ he4 (okS_cons.mpr ⟨w1, okS_cons.mpr ⟨w3, okS_cons.mpr ⟨w1, okS_cons.mpr ⟨w3, w4⟩⟩⟩⟩))
    · rcases h1.1.2 with q | q
      · obtain ⟨x, rfl⟩ := isI_some q; rfl
      · rcases isR_some q with rfl | ⟨x, rfl⟩ <;> rfl
    · rcases h1.2.2 with q | q
      · obtain ⟨x, rfl⟩ := isI_some q; rfl
      · rcases isR_some q with rfl | ⟨x, rfl⟩ <;> rfl
  case goto off => obtain ⟨t, ht, he⟩ := jmp_some he; exact lv_goto hx hb hd ht (g0 _ _ he hs)
  case ifCond cc off =>
    obtain ⟨x, t, rfl, he⟩ := i1_some he
    obtain ⟨hz, he⟩ := gd_some he
    have ht : (pc : Int) + off = (((pc : Int) + off).toNat : Int) := (Int.toNat_of_nonneg (of_decide_eq_true hz)).symm
    have hs := o1 hs
    cases cc <;> simp only [brn] at he
    case eq => exact lv_if_eq hx hb hd ht (fun q => by rw [if_pos q] at he; exact g0 _ _ he hs) (fun q => by rw [if_neg q] at he; exact g0 _ _ he hs)
    case ne => exact lv_if_ne hx hb hd ht (fun q => by rw [if_neg q] at he; exact g0 _ _ he hs) (fun q => by rw [if_pos q] at he; exact g0 _ _ he hs)
    case lt => exact lv_if_lt hx hb hd ht (fun q => by rw [if_pos q] at he; exact g0 _ _ he hs) (fun q => by rw [if_neg q] at he; exact g0 _ _ he hs)
    case ge => exact lv_if_ge hx hb hd ht (fun q => by rw [if_neg (k2_nlt q)] at he; exact g0 _ _ he hs) (fun q => by rw [if_pos (k2_lt q)] at he; exact g0 _ _ he hs)
    case gt => exact lv_if_gt hx hb hd ht (fun q => by rw [if_pos q] at he; exact g0 _ _ he hs) (fun q => by rw [if_neg q] at he; exact g0 _ _ he hs)
    case le => exact lv_if_le hx hb hd ht (fun q => by rw [if_neg (k2_nlt q)] at he; exact g0 _ _ he hs) (fun q => by rw [if_pos (k2_lt q)] at he; exact g0 _ _ he hs)
  case if_icmp cc off =>
    obtain ⟨x, z, t, rfl, he⟩ := i2_some he
    obtain ⟨hz, he⟩ := gd_some he
    have ht : (pc : Int) + off = (((pc : Int) + off).toNat : Int) := (Int.toNat_of_nonneg (of_decide_eq_true hz)).symm
    have hs := o2 hs
    cases cc <;> simp only [brn] at he
    case eq => exact lv_icmp_eq hx hb hd ht (fun q => by rw [if_pos q] at he; exact g0 _ _ he hs) (fun q => by rw [if_neg q] at he; exact g0 _ _ he hs)
    case ne => exact lv_icmp_ne hx hb hd ht (fun q => by rw [if_neg q] at he; exact g0 _ _ he hs) (fun q => by rw [if_pos q] at he; exact g0 _ _ he hs)
    case lt => exact lv_icmp_lt hx hb hd ht (fun q => by rw [if_pos q] at he; exact g0 _ _ he hs) (fun q => by rw [if_neg q] at he; exact g0 _ _ he hs)
    case ge => exact lv_icmp_ge hx hb hd ht (fun q => by rw [if_neg (k2_nlt q)] at he; exact g0 _ _ he hs) (fun q => by rw [if_pos (k2_lt q)] at he; exact g0 _ _ he hs)
    case gt => exact lv_icmp_gt hx hb hd ht (fun q => by rw [if_pos q] at he; exact g0 _ _ he hs) (fun q => by rw [if_neg q] at he; exact g0 _ _ he hs)
    case le => exact lv_icmp_le hx hb hd ht (fun q => by rw [if_neg (k2_nlt q)] at he; exact g0 _ _ he hs) (fun q => by rw [if_pos (k2_lt q)] at he; exact g0 _ _ he hs)
  case ifnull off =>
    split at he
    · obtain ⟨t, ht, he⟩ := jmp_some he
      exact lv_ifnullN hx hb hd ht (g0 _ _ he (o1 hs))
    · exact lv_ifnull hx hb hd (g0 _ _ he (o1 hs))
    · cases he
  case ifnonnull off =>
    split at he
    · exact lv_ifnonnullN hx hb hd (g0 _ _ he (o1 hs))
    · obtain ⟨t, ht, he⟩ := jmp_some he
      exact lv_ifnonnull hx hb hd ht (g0 _ _ he (o1 hs))
    · cases he
  case tableswitch d lo hi' offs =>
    obtain ⟨x, t, rfl, he2⟩ := i1_some he
    split at he2
    · rename_i hq
      obtain ⟨t', ht, he3⟩ := jmp_some he2
      exact lv_tableOut hx hb hd hq ht (g0 _ _ he3 (o1 hs))
    · rename_i hq
      split at he2
      · rename_i off ho
        obtain ⟨t', ht, he3⟩ := jmp_some he2
        exact lv_tableIn hx hb hd (fun q => hq (Or.inl q)) (fun q => hq (Or.inr q)) ho ht (g0 _ _ he3 (o1 hs))
      · cases he2
  case lookupswitch d ps =>
    obtain ⟨x, t, rfl, he⟩ := i1_some he
    obtain ⟨hz, he⟩ := gd_some he
    obtain ⟨t', ht, he⟩ := jmp_some he
    exact lv_lookup hx hb hd hz rfl ht (g0 _ _ he (o1 hs))
  case ireturn =>
    split at he
    · rename_i x
      obtain ⟨h1, he⟩ := gd_some he
      cases he
      simp only [Bool.or_eq_true, Bool.and_eq_true, beq_iff_eq] at h1
      have e1 : mR y ≠ none := by rcases h1 with h1 | h1 <;> (intro q; rw [q] at h1; simp at h1)
      have K2 := K A H locs cells slots pc arr (Pres.rf y A hf) hR trivial hloc rfl rfl (Or.inr (Or.inl ⟨x, rfl, hd, h1⟩))
      rw [rst, if_neg e1] at K2
      exact K2
    · cases he
  case lreturn =>
    split at he
    · rename_i x
      obtain ⟨h1, he⟩ := gd_some he
      cases he
      have h1 : mR y = some .long := by simpa using h1
      have e1 : mR y ≠ none := by rw [h1]; exact fun q => by cases q
      have K2 := K A H locs cells slots pc arr (Pres.rf y A hf) hR trivial hloc rfl rfl (Or.inr (Or.inr (Or.inl ⟨x, rfl, hd, h1⟩)))
      rw [rst, if_neg e1] at K2
      exact K2
    · cases he
  case areturn =>
    split at he
    · rename_i v
      obtain ⟨h1, he⟩ := gd_some he
      cases he
      rw [Bool.and_eq_true] at h1
      have h2 : (∃ n, mR y = some (.object n)) ∨ ∃ t, mR y = some (.array t) := by
        have h3 := h1.2
        split at h3
        · rename_i hq; exact Or.inl ⟨_, hq⟩
        · rename_i hq; exact Or.inr ⟨_, hq⟩
        · cases h3
      have e1 : mR y ≠ none := by rcases h2 with ⟨n, h2⟩ | ⟨n, h2⟩ <;> (rw [h2]; exact fun q => by cases q)
      have K2 := K A H locs cells slots pc arr (Pres.rf y A hf) hR (okS_cons.mp hs).1 hloc rfl rfl (Or.inr (Or.inr (Or.inr ⟨h1.1, hd, h2⟩)))
      rw [rst, if_neg e1] at K2
      exact K2
    · cases he
  case return_ =>
    split at he
    · obtain ⟨h1, he⟩ := gd_some he
      cases he
      have h1 : mR y = none := by simpa using h1
      have K2 := K A H locs cells slots pc arr (Pres.rf y A hf) hR trivial hloc rfl rfl (Or.inl ⟨h1, hd⟩)
      rw [rst, if_pos h1] at K2
      exact K2
    · cases he
end SIMA
end
section
theorem range_all {n : Nat} {f : Nat → Bool} (h : (List.range n).all f = true) {k : Nat} (hk : k < n) : f k = true := List.all_eq_true.mp h k (List.mem_range.mpr hk)
theorem lay_in {ci : Nat} (hci : ci < 12) : ∀ w ∈ u_ws (cn ci) (cT ci) (cSz ci), w ∈ goodWs := by
  intro w hw
  obtain ⟨k, hk, rfl⟩ := List.mem_map.mp hw
  have h1 := range_all (range_all okLay_all hci) (List.mem_range.mp hk)
  refine good_at (wAt_eq h1) ?_
  unfold u_lay
  split <;> rfl
theorem ty_all : (List.range 12).all (fun ci => (List.range (cSz ci)).all (fun k => decide (parseFieldDescriptor (cT ci k).2.2.1 = some (cTy ci k)) && (if rfs ci k then decide (defaultValue (cTy ci k) = .null) && (cTy ci k).isReference else decide (cTy ci k = .int ∨ cTy ci k = .boolean)))) = true := by decide +kernel
theorem nm_all : (List.range 12).all (fun ci => (List.range (cSz ci)).all (fun a => (List.range (cSz ci)).all (fun b => a == b || decide ((cT ci a).2.1 ≠ (cT ci b).2.1)))) = true := by decide +kernel
theorem ty_at {ci k : Nat} (hci : ci < 12) (hk : k < cSz ci) : parseFieldDescriptor (cT ci k).2.2.1 = some (cTy ci k) ∧ (rfs ci k = true → defaultValue (cTy ci k) = .null ∧ (cTy ci k).isReference = true) ∧ (rfs ci k = false → cTy ci k = .int ∨ cTy ci k = .boolean) := by
  have h := range_all (range_all ty_all hci) hk
  rw [Bool.and_eq_true, decide_eq_true_eq] at h
  refine ⟨h.1, fun q => ?_, fun q => ?_⟩
  · have h2 := h.2
    rw [if_pos q, Bool.and_eq_true, decide_eq_true_eq] at h2
    exact h2
  · have h2 := h.2
    rw [if_neg (by rw [q]; decide), decide_eq_true_eq] at h2
    exact h2
theorem nm_at {ci : Nat} (hci : ci < 12) : ∀ a, a < cSz ci → ∀ b, b < cSz ci → a ≠ b → (cT ci a).2.1 ≠ (cT ci b).2.1 := by
  intro a ha b hb hab
  have h := range_all (range_all (range_all nm_all hci) ha) hb
  rw [Bool.or_eq_true, beq_iff_eq, decide_eq_true_eq] at h
  rcases h with h | h
  · exact absurd h hab
  · exact h
theorem sub_tab : [4, 6].all (fun c => decide (cSz c = cSz 2) && (List.range (cSz 2)).all (fun k => decide (cT c k = cT 2 k) && decide (rfs c k = rfs 2 k) && decide (cTy c k = cTy 2 k))) = true := by decide +kernel
theorem tag_obj {ci t : Nat} (hci : ci < 12) (h : tagok ci t = true) : ∃ c, t = c + 1 ∧ c < 12 ∧ cSz c = cSz ci ∧ ∀ k, k < cSz ci → cT c k = cT ci k ∧ rfs c k = rfs ci k ∧ cTy c k = cTy ci k := by
  simp only [tagok, Bool.or_eq_true, Bool.and_eq_true, beq_iff_eq] at h
  have key : ∀ c, c ∈ [4, 6] → cSz c = cSz 2 ∧ ∀ k, k < cSz 2 → cT c k = cT 2 k ∧ rfs c k = rfs 2 k ∧ cTy c k = cTy 2 k := by
    intro c hc
    have := List.all_eq_true.mp sub_tab c hc
    rw [Bool.and_eq_true, decide_eq_true_eq] at this
    refine ⟨this.1, fun k hk => ?_⟩
    have h2 := range_all this.2 hk
    simp only [Bool.and_eq_true, decide_eq_true_eq] at h2
    exact ⟨h2.1.1, h2.1.2, h2.2⟩
  rcases h with h | ⟨rfl, h | h⟩
  · exact ⟨ci, h, hci, rfl, fun k _ => ⟨rfl, rfl, rfl⟩⟩
  · obtain ⟨k1, k2⟩ := key 4 (by decide)
    exact ⟨4, h, by decide, k1, k2⟩
  · obtain ⟨k1, k2⟩ := key 6 (by decide)
    exact ⟨6, h, by decide, k1, k2⟩
theorem fld_row {o j ci k : Nat} (h : fld o j = some (ci, k)) : (.fieldLink (on o) j (cT ci k).1 (cT ci k).2.1 (cT ci k).2.2.1 : Jvm.Cond) ∈ goodWs ∧ ci < 12 ∧ k < cSz ci := by
  unfold fld at h
  obtain ⟨q, hq, he⟩ := Option.map_eq_some_iff.mp h
  have h1 := List.find?_some hq
  have h2 := List.all_eq_true.mp okFld_all q (List.mem_of_find?_eq_some hq)
  simp only [Bool.and_eq_true, beq_iff_eq] at h1
  simp only [okFld, Bool.and_eq_true, decide_eq_true_eq] at h2
  cases he
  rw [← h1.1, ← h1.2]
  exact ⟨good_at (wAt_eq h2.1.1) rfl, h2.1.2, h2.2⟩
theorem fit_int {ty : FieldType} {x : Int32} (h : ty = .int ∨ (ty = .boolean ∧ bz x = true)) : narrow ty (.int x) = .int x ∧ fits ty (.int x) = true := by
  rcases h with rfl | ⟨rfl, h⟩
  · exact ⟨rfl, rfl⟩
  · simp only [bz, Bool.or_eq_true, beq_iff_eq] at h
    rcases h with rfl | rfl <;> exact ⟨rfl, rfl⟩
theorem fit_ref {ty : FieldType} {a : Nat} (h : ty.isReference = true) : narrow ty (.ref a) = .ref a ∧ fits ty (.ref a) = true := by
  cases ty <;> first | (cases h; done) | exact ⟨rfl, rfl⟩
theorem toNatN (i : Int32) : i.toNatClampNeg = i.toInt.toNat := rfl
theorem nlt0 {i : Int32} (h : 0 ≤ i.toInt) : ¬ i < 0 := by
  rw [Int32.lt_iff_toInt_lt]
  have : (0 : Int32).toInt = 0 := rfl
  omega
section SIMB
variable {D : va_G} {cI : ClassId} {cA : Nat → ClassId} {base : Nat} {p : Program} {l : Launch} {e : Env} {R : Room} {s : State} {m : MethodId} {args : Array Value} {below : List Frame} {meth : Method} {c : Code} {Q : State → Prop} {y : Nat} {vf : Value} {hf : Hp}
theorem Fin.step {A A1 : Nat → Nat} {h h1 : Hp} {cells slots cells1 slots1 : Nat} (K : Fin D cI cA base p l e R s m args below meth c Q y vf hf A h cells slots) (q : Pres y A A1 h h1) (e1 : cells1 + ck h = cells + ck h1) (e2 : slots1 + cu h = slots + cu h1) : Fin D cI cA base p l e R s m args below meth c Q y vf hf A1 h1 cells1 slots1 :=
  fun A' H' locs' cells' slots' pc' arr' q' r o lo f1 f2 ri => K A' H' locs' cells' slots' pc' arr' (q.tr q') r o lo (by omega) (by omega) ri
/-- an object of a class whose fields are those of ci -/
theorem obj_at {ci r : Nat} {A : Nat → Nat} {h : Hp} {H : Heap} (hR : Rep D cI cA base A h s H) (hci : ci < 12) (ht : tagok ci (tg h r) = true) (hKF : KF D cI cA s) (hts : ∀ w ∈ goodWs, w.before args s = true) {k : Nat} (hk : k < cSz ci) :
    ∃ (c' : Nat) (cell : Cell) (kC : Class) (cf : Nat) (kf : Class) (fi : Nat) (f : Field), tg h r = c' + 1 ∧ c' < 12 ∧ k < cSz c' ∧ cT c' k = cT ci k ∧ rfs c' k = rfs ci k ∧ cTy c' k = cTy ci k ∧ H[A r]? = some cell ∧ cell.cls = D.1 c' ∧ cell.vm = .none ∧ (∀ j, j < cSz c' → cell.slots[D.2 c' j]? = some (slv A h c' r j)) ∧
      s.vm.findClass (cn c') = some (D.1 c') ∧ s.vm.classes[D.1 c']? = some kC ∧ kC.kind = .ordinary ∧ s.fieldFound? (cT ci k).1 (cT ci k).2.1 (cT ci k).2.2.1 = some (cf, kf, fi, f) ∧ f.slot = D.2 c' k ∧ f.isStatic = false := by
  obtain ⟨c', t1, t2, t3, t4⟩ := tag_obj hci ht
  obtain ⟨t5, t6, t7⟩ := t4 k hk
  obtain ⟨cell, q1, q2, q3, q4⟩ := (hR.2.1 r (by omega)).1 c' t1 t2
  obtain ⟨hS, hfc, kC, hkC, hkind⟩ := hKF.1.1 c' _ (cl_at t2)
  have hk' : k < cSz c' := by omega
  obtain ⟨cf, kf, fi, f, hi, hsl⟩ := hS k hk'
  have hst := (u_facts hfc hkC (u_lays hts (lay_in t2) hk') hi).1
  have hi2 : s.fieldFound? (cT c' k).1 (cT c' k).2.1 (cT c' k).2.2.1 = some (cf, kf, fi, f) := hi
  rw [t5] at hi2
  exact ⟨c', cell, kC, cf, kf, fi, f, t1, t2, hk', t5, t6, t7, q1, q2, q3, q4, hfc, hkC, hkind, hi2, hsl, hst⟩
theorem sim_getfield {n : Nat} (E : EnvM D cI cA p s m args meth c y) (ih : IH D cI cA base p l e R s m args below meth c Q y vf hf n) {pc len : Nat} {ls st : List Value} {h : Hp} {A : Nat → Nat} {arr : Array Slot} {H : Heap} {locs : List Loc} {cells slots : Nat}  {j : Nat} 
    (hd : decode (mB y) pc = .ok (.getfield j, len)) (hok : okl (.getfield j) len = true) (he : stp y pc len ls st h (exec n y) (fun y a h' => exec n y 0 (ent y a) [] h') (.getfield j) = some (vf, hf)) (S : Stt D cI cA base s R y hf A h ls st arr H locs cells slots) (K : Fin D cI cA base p l e R s m args below meth c Q y vf hf A h cells slots) :
    W p l e R s m args below meth c H locs cells slots Q (F0 m pc arr (st.map (cvv A))) := by
  obtain ⟨hx, hb, hml, hown, hts, hKF, hnm⟩ := E
  obtain ⟨hR, hl, ho, hs, hloc, hce, hsl, hfr, hlo⟩ := S
  obtain rfl : len = 3 := by simpa [okl] using hok
  simp only [stp] at he
  split at he
  · rename_i ci k hq
    obtain ⟨hw, hci, hk⟩ := fld_row hq
    obtain ⟨r, t, rfl, he2⟩ := r1_some he
    obtain ⟨h1, he3⟩ := gd_some he2
    obtain ⟨c', cell, kC, cf, kf, fi, f, t1, t2, hk', t5, t6, t7, q1, q2, q3, q4, hfc, hkC, hkind, hi, hsl2, hst⟩ := obj_at hR hci h1 hKF hts hk
    refine W.getf (v := slv A h c' r k) hx hb hown (hts _ hw) hi hst q1 (by rw [q3]; exact fun q => by cases q) (by rw [hsl2]; exact q4 k hk') rfl rfl hd ?_
    have o1 := (okS_cons.mp hs).2
    split at he3
    · rename_i hrf
      obtain ⟨h2, he4⟩ := gd_some he3
      rw [Bool.and_eq_true, bne_iff_ne] at h2
      rw [slv, t6, if_pos hrf, elv, if_pos h2.1]
      exact ih _ _ (.ref (child r k) :: t) _ _ _ _ _ _ _ he4 ⟨hR, hl, ho, okS_cons.mpr ⟨h2.2, o1⟩, hloc, hce, hsl, hfr, hlo⟩ K
    · rename_i hrf
      rw [slv, t6, if_neg hrf]
      exact ih _ _ (.int _ :: t) _ _ _ _ _ _ _ he3 ⟨hR, hl, ho, okS_cons.mpr ⟨trivial, o1⟩, hloc, hce, hsl, hfr, hlo⟩ K
  · cases he
theorem okS_tags {h h1 : Hp} {l : List Value} (e : ∀ r, tg h1 r = tg h r) (hl : okS h l) : okS h1 l := by
  intro v hv
  have := hl v hv
  cases v with
  | ref r => show tg h1 r ≠ 0; rw [e]; exact this
  | _ => exact trivial
theorem locs_to {locs : List Loc} {a i : Nat} (h : ∀ q ∈ locs, base ≤ q.base) (ha : base ≤ a) : ∀ q ∈ locs ++ [(⟨a, i⟩ : Loc)], base ≤ q.base := by
  intro q hq
  rcases List.mem_append.mp hq with h1 | h1
  · exact h q h1
  · rw [List.mem_singleton.mp h1]; exact ha
theorem put_at {pc j ci k r : Nat} {A : Nat → Nat} {h : Hp} {H : Heap} {locs : List Loc} {cells slots : Nat} {arr : Array Slot} {v : Value} {rest : List Value} (E : EnvM D cI cA p s m args meth c y) (hR : Rep D cI cA base A h s H) (hq : fld (mO y) j = some (ci, k)) (hp : pok y ci k = true) (h1 : tagok ci (tg h r) = true) (hv : narrow (cTy ci k) v = v ∧ fits (cTy ci k) v = true) (hd : decode (mB y) pc = .ok (.putfield j, 3))
    (kk : ∀ (c' : Nat) (H1 : Heap) (sl : Nat), tg h r = c' + 1 → c' < 12 → rfs c' k = rfs ci k → H1.size = H.size → (∀ q, q ≠ A r → H1[q]? = H[q]?) → t_OB (A r) (D.1 c') (cSz c') (D.2 c') H1 (updV (slv A h c' r) k v) → W p l e R s m args below meth c H1 (locs ++ [⟨A r, sl⟩]) cells slots Q (F0 m (pc + 3) arr rest)) :
    W p l e R s m args below meth c H locs cells slots Q (F0 m pc arr (v :: .ref (A r) :: rest)) := by
  obtain ⟨hx, hb, hml, hown, hts, hKF, hnm⟩ := E
  obtain ⟨hw, hci, hk⟩ := fld_row hq
  obtain ⟨c', cell, kC, cf, kf, fi, f, t1, t2, hk', t5, t6, t7, q1, q2, q3, q4, hfc, hkC, hkind, hi, hsl2, hst⟩ := obj_at hR hci h1 hKF hts hk
  have hd2 : parseFieldDescriptor (cT ci k).2.2.1 = some (cTy ci k) := (ty_at hci hk).1
  have hap : ∀ a b, a < cSz c' → b < cSz c' → a ≠ b → D.2 c' a ≠ D.2 c' b := va_apart (own := on (mO y)) hts (lay_in t2) (cTy c') (fun k hk => (ty_at t2 hk).1) (nm_at t2) hKF.1 (cl_at t2)
  have hlay := hts _ (lay_in t2 _ (u_in_lay hk'))
  have hlt : f.slot < cell.slots.size := by rw [hsl2]; exact k2_hasslot (q4 k hk')
  have fin : ∀ H' : Heap, H'[A r]? = some (cell.setSlot f.slot v) → t_OB (A r) (D.1 c') (cSz c') (D.2 c') H' (updV (slv A h c' r) k v) := by
    intro H' e1
    rw [hsl2] at e1
    exact ⟨_, e1, q2, q3, t_set q4 hap hk' v⟩
  unfold u_lay at hlay
  rw [t5] at hlay
  by_cases hfin : (cT ci k).2.2.2 = true
  · rw [if_pos hfin] at hlay
    have hp2 : (mt y).2.1 = "<init>" ∧ (cT ci k).1 = on (mO y) := by
      simp only [pok, Bool.or_eq_true, Bool.and_eq_true, decide_eq_true_eq, hfin] at hp
      simpa using hp
    have hcf : m.cls = cf := by
      obtain ⟨_, _, c1, _, _, _, -, -, hf', -, -, -, hown2, -⟩ := Cond.laysFinal_spec hlay
      have e1 : c1 = cf := by have := hi.symm.trans hf'; simp at this; exact this.1.symm
      rw [hp2.2] at hown2
      rw [← e1]; exact Option.some.inj (hown.symm.trans hown2)
    have h6 := u_fits hfc hkC hkind (Or.inr hlay) hi hd2 hv.1 hv.2
    refine W.putFinK hx hb hown (hts _ hw) hi hst hcf (hnm.trans hp2.1) (by rw [q2]; exact h6) q1 q3 hlt rfl rfl hd fun H' e1 e2 e3 => ?_
    exact kk c' H' f.slot t1 t2 t6 e2 e3 (fin H' e1)
  · rw [if_neg hfin] at hlay
    have h6 := u_store hfc hkC hkind hlay hi hd2 hv.1 hv.2
    refine W.putK hx hb (f := f) ⟨hown, hts _ hw, ⟨_, _, _, hi⟩, hst⟩ (by rw [q2]; exact h6) q1 q3 hlt rfl rfl hd fun H' e1 e2 e3 => ?_
    exact kk c' H' f.slot t1 t2 t6 e2 e3 (fin H' e1)
theorem gw_self {r k : Nat} (h1 : gw (child r k) = true) (h2 : gw r = false) : r ≠ child r k := fun e => by rw [← e, h2] at h1; cases h1
theorem child_inj {r k j : Nat} (h1 : gw (child r k) = true) (e : child r j = child r k) : j = k := by
  have a := par_child r k h1
  have b := par_child r j (by rw [e]; exact h1)
  rw [e, a] at b
  cases b
  rfl
theorem gw38 : gw 38 = true := rfl
theorem Pres.mov {A : Nat → Nat} {h : Hp} {r k q : Nat} (hm : mv y = true) (hg : gw (child r k) = true) (hq : gw q = true) : Pres y A (up1 A (child r k) (A q)) h (mov h r k (child r k) q) := by
  intro w hw hgw
  have hgw := hgw hm
  have n1 : w ≠ q := fun e => by rw [e, hq] at hgw; cases hgw
  have n2 : w ≠ child r k := fun e => by rw [e, hg] at hgw; cases hgw
  refine ⟨by rw [tg_mov, if_neg n1, if_neg n2], ?_⟩
  unfold up1
  rw [if_neg n2]
theorem sim_putfield {n : Nat} (E : EnvM D cI cA p s m args meth c y) (ih : IH D cI cA base p l e R s m args below meth c Q y vf hf n) {pc len : Nat} {ls st : List Value} {h : Hp} {A : Nat → Nat} {arr : Array Slot} {H : Heap} {locs : List Loc} {cells slots : Nat}  {j : Nat} 
    (hd : decode (mB y) pc = .ok (.putfield j, len)) (hok : okl (.putfield j) len = true) (he : stp y pc len ls st h (exec n y) (fun y a h' => exec n y 0 (ent y a) [] h') (.putfield j) = some (vf, hf)) (S : Stt D cI cA base s R y hf A h ls st arr H locs cells slots) (K : Fin D cI cA base p l e R s m args below meth c Q y vf hf A h cells slots) :
    W p l e R s m args below meth c H locs cells slots Q (F0 m pc arr (st.map (cvv A))) := by
  obtain ⟨hx, hb, hml, hown, hts, hKF, hnm⟩ := E
  obtain ⟨hR, hl, ho, hs, hloc, hce, hsl, hfr, hlo⟩ := S
  obtain rfl : len = 3 := by simpa [okl] using hok
  simp only [stp] at he
  split at he
  · rename_i ci k hq
    obtain ⟨hp, he2⟩ := gd_some he
    split at he2
    · rename_i x r t
      obtain ⟨h1, he3⟩ := gd_some he2
      simp only [Bool.and_eq_true, Bool.not_eq_true', Bool.or_eq_true, beq_iff_eq] at h1
      obtain ⟨⟨h1, hrf⟩, hty⟩ := h1
      refine put_at ⟨hx, hb, hml, hown, hts, hKF, hnm⟩ hR hq hp h1 (fit_int ?_) hd ?_
      · rcases hty with hty | hty
        · exact Or.inl hty
        · rcases (ty_at (fld_row hq).2.1 (fld_row hq).2.2).2.2 hrf with h2 | h2
          · exact Or.inl h2
          · exact Or.inr ⟨h2, hty⟩
      · intro c' H1 sl t1 t2 t6 z oq ho2
        refine ih _ _ t _ _ _ _ _ _ _ he3 ⟨hR.setObj t1 t2 (by rw [t6]; exact hrf) z oq ho2, hl, okS_tags (fun _ => rfl) ho, okS_tags (fun _ => rfl) (okS_cons.mp (okS_cons.mp hs).2).2, locs_to hloc (hR.2.2.1 r (by omega) (by omega)), hce, hsl, hfr, hlo⟩ (K.step (Pres.tags (fun _ => rfl)) rfl rfl)
    · rename_i q r t
      obtain ⟨h1, he3⟩ := gd_some he2
      rw [Bool.and_eq_true] at h1
      obtain ⟨h1, hrf⟩ := h1
      have hty := ((ty_at (fld_row hq).2.1 (fld_row hq).2.2).2.1 hrf).2
      have o0 := okS_cons.mp hs
      refine put_at ⟨hx, hb, hml, hown, hts, hKF, hnm⟩ hR hq hp h1 (fit_ref hty) hd ?_
      intro c' H1 sl t1 t2 t6 z oq ho2
      split at he3
      · rename_i hqc
        rw [hqc] at ho2
        have hch : tg h (child r k) ≠ 0 := by rw [← hqc]; exact o0.1
        exact ih _ _ t _ _ _ _ _ _ _ he3 ⟨hR.setLink t1 t2 (by rw [t6]; exact hrf) hch z oq ho2, hl, okS_tags (fun _ => rfl) ho, okS_tags (fun _ => rfl) (okS_cons.mp o0.2).2, locs_to hloc (hR.2.2.1 r (by omega) (by omega)), hce, hsl, hfr, hlo⟩ (K.step (Pres.tags (fun _ => rfl)) rfl rfl)
      · obtain ⟨h2, he4⟩ := gd_some he3
        simp only [Bool.and_eq_true, Bool.not_eq_true', beq_iff_eq, decide_eq_true_eq] at h2
        obtain ⟨⟨⟨⟨⟨⟨⟨hm, rfl⟩, hg⟩, hgr⟩, hch⟩, h38⟩, hng⟩, hns⟩ := h2
        have P : Pres y A (up1 A (child r k) (A 38)) h (mov h r k (child r k) 38) := Pres.mov hm hg rfl
        have hrc := gw_self hg hgr
        have hA : up1 A (child r k) (A 38) r = A r := by unfold up1; rw [if_neg hrc]
        have hr38 : r ≠ 38 := fun e => by rw [e] at hgr; cases hgr
        have hR1 : Rep D cI cA base (up1 A (child r k) (A 38)) (mov h r k (child r k) 38) s H1 := by
          refine hR.move (by omega) (by omega) hg hgr (Or.inl ⟨rfl, h38⟩) z oq ⟨fun c2 e1 e2 => ?_, fun e1 => ?_, fun e1 e2 => ?_, fun e1 => ?_⟩
          · rw [tg_mov, if_neg hr38, if_neg hrc] at e1
            obtain rfl : c2 = c' := by omega
            rw [hA]
            refine ho2.to (fun j hj => ?_)
            unfold updV slv elv
            by_cases hjk : j = k
            · rw [if_pos hjk, hjk, t6, if_pos hrf, fl_mov, if_pos (⟨rfl, rfl⟩ : r = r ∧ k = k)]
              unfold up1
              rw [if_pos rfl, if_pos rfl]
              rfl
            · have n1 : child r j ≠ child r k := fun e => hjk (child_inj hg e)
              rw [if_neg hjk, iv_mov, if_neg hrc, fl_mov, if_neg hrc, if_neg (fun e : r = r ∧ j = k => hjk e.2)]
              unfold up1
              rw [if_neg n1]
          all_goals (rw [tg_mov, if_neg hr38, if_neg hrc] at e1)
          · omega
          · rw [tg_mov, if_neg hr38, if_neg hrc] at e2; omega
          · omega
        have o3 := okS.to P (okS_cons.mp o0.2).2 (fun _ => hns)
        have w := ih _ _ t _ (up1 A (child r k) (A 38)) _ _ (locs ++ [⟨A r, sl⟩]) cells slots he4 ⟨hR1, hl.to P ho (fun _ => hng), (okS.to P ho (fun _ => hng)).1, o3.1, locs_to hloc (hR.2.2.1 r (by omega) (by omega)), hce, hsl, hfr, hlo⟩ (K.step P rfl rfl)
        rw [o3.2] at w
        exact w
    · cases he2
  · cases he
theorem inr_some {i : Int32} {N : Nat} (h : inr i N = true) : 0 ≤ i.toInt ∧ i.toNatClampNeg < N ∧ ¬ i < 0 ∧ ((i.toNatClampNeg : Nat) : Int) = i.toInt := by
  simp only [inr, Bool.and_eq_true, decide_eq_true_eq] at h
  refine ⟨h.1, ?_, nlt0 h.1, ?_⟩
  · rw [toNatN]; omega
  · rw [toNatN]; omega
theorem not_in {i : Int32} {N M : Nat} (h : inr i N = true) (hM : N ≤ M) : ¬ (i < 0 ∨ M ≤ i.toNatClampNeg) := by
  obtain ⟨a, b, c, d⟩ := inr_some h
  rintro (q | q)
  · exact c q
  · omega
theorem tyI (hKF : KF D cI cA s) : ArrOfT s cI .int ∧ va_RA s cI .int := hKF.1.2 0 (cI, .int) rfl
theorem tyA (hKF : KF D cI cA s) {t : Nat} (h1 : 21 ≤ t) (h2 : t ≤ 25) : ArrOfT s (cA t) (.object (aName t)) ∧ va_RA s (cA t) (.object (aName t)) := by
  refine hKF.1.2 (t - 20) (cA t, .object (aName t)) ?_
  have : t = 21 ∨ t = 22 ∨ t = 23 ∨ t = 24 ∨ t = 25 := by omega
  rcases this with rfl | rfl | rfl | rfl | rfl <;> rfl
theorem sim_iaload {n : Nat} (E : EnvM D cI cA p s m args meth c y) (ih : IH D cI cA base p l e R s m args below meth c Q y vf hf n) {pc len : Nat} {ls st : List Value} {h : Hp} {A : Nat → Nat} {arr : Array Slot} {H : Heap} {locs : List Loc} {cells slots : Nat}  
    (hd : decode (mB y) pc = .ok (.iaload, len)) (hok : okl (.iaload) len = true) (he : stp y pc len ls st h (exec n y) (fun y a h' => exec n y 0 (ent y a) [] h') (.iaload) = some (vf, hf)) (S : Stt D cI cA base s R y hf A h ls st arr H locs cells slots) (K : Fin D cI cA base p l e R s m args below meth c Q y vf hf A h cells slots) :
    W p l e R s m args below meth c H locs cells slots Q (F0 m pc arr (st.map (cvv A))) := by
  obtain ⟨hx, hb, hml, hown, hts, hKF, hnm⟩ := E
  obtain ⟨hR, hl, ho, hs, hloc, hce, hsl, hfr, hlo⟩ := S
  obtain rfl : len = 1 := by simpa [okl] using hok
  simp only [stp] at he
  obtain ⟨r, i, t, rfl, he2⟩ := ri_some he
  obtain ⟨h1, he3⟩ := gd_some he2
  simp only [Bool.and_eq_true, Bool.or_eq_true, beq_iff_eq] at h1
  obtain ⟨h1, h2⟩ := h1
  obtain ⟨i0, i1, i2, i3⟩ := inr_some h2
  have o2 := (okS_cons.mp (okS_cons.mp hs).2).2
  have w := ih _ _ (.int (I (iv h r i.toInt)) :: t) _ _ _ _ _ _ _ he3 ⟨hR, hl, ho, okS_cons.mpr ⟨trivial, o2⟩, hloc, hce, hsl, hfr, hlo⟩ K
  rcases h1 with h1 | h1
  · have hc := (hR.2.1 r (by omega)).2.1 h1
    refine W.iald (v := .int (I (iv h r i.toInt))) hx hb hc ((tyI hKF).1 _ _) (fun q => by cases q) (by rw [arrV_size]; exact not_in h2 (Nat.le_refl _)) ?_ rfl rfl hd w
    rw [arrV_read _ _ i1, i3]
  · obtain ⟨cell, c1, c2, c3, c4, c5, c6, -⟩ := (hR.2.1 r (by omega)).2.2.2 h1
    refine W.iald (v := .int (I (iv h r i.toInt))) hx hb c1 c2 c3 (not_in h2 c4) ?_ rfl rfl hd w
    rw [c6 _ i1]
    show some (Value.int (I (iv h r ((i.toNatClampNeg : Nat) : Int)))) = _
    rw [i3]
theorem sim_iastore {n : Nat} (E : EnvM D cI cA p s m args meth c y) (ih : IH D cI cA base p l e R s m args below meth c Q y vf hf n) {pc len : Nat} {ls st : List Value} {h : Hp} {A : Nat → Nat} {arr : Array Slot} {H : Heap} {locs : List Loc} {cells slots : Nat}  
    (hd : decode (mB y) pc = .ok (.iastore, len)) (hok : okl (.iastore) len = true) (he : stp y pc len ls st h (exec n y) (fun y a h' => exec n y 0 (ent y a) [] h') (.iastore) = some (vf, hf)) (S : Stt D cI cA base s R y hf A h ls st arr H locs cells slots) (K : Fin D cI cA base p l e R s m args below meth c Q y vf hf A h cells slots) :
    W p l e R s m args below meth c H locs cells slots Q (F0 m pc arr (st.map (cvv A))) := by
  obtain ⟨hx, hb, hml, hown, hts, hKF, hnm⟩ := E
  obtain ⟨hR, hl, ho, hs, hloc, hce, hsl, hfr, hlo⟩ := S
  obtain rfl : len = 1 := by simpa [okl] using hok
  simp only [stp] at he
  obtain ⟨r, i, x, t, rfl, he2⟩ := rii_some he
  obtain ⟨h1, he3⟩ := gd_some he2
  simp only [Bool.and_eq_true, beq_iff_eq] at h1
  obtain ⟨h1, h2⟩ := h1
  obtain ⟨i0, i1, i2, i3⟩ := inr_some h2
  have hc := (hR.2.1 r (by omega)).2.1 h1
  refine W.iast hx hb hc ((tyI hKF).1 _ _) (fun q => by cases q) (by rw [arrV_size]; exact not_in h2 (Nat.le_refl _)) rfl rfl hd fun H1 e1 z oq => ?_
  rw [arrV_store] at e1
  have hR1 : Rep D cI cA base A (setI h r i.toInt x.toInt) s H1 := by
    refine hR.setArr h1 rfl (fun _ => rfl) (fun _ => rfl) (fun q hq zz => by rw [iv_setI, if_neg (fun e => hq e.1)]) (fun _ _ => rfl) z oq ?_
    rw [e1]
    congr 2
    funext j
    unfold updV
    rw [iv_setI]
    by_cases hj : j = i.toNatClampNeg
    · rw [if_pos hj, if_pos ⟨rfl, by rw [hj, i3]⟩]
      simp [I]
    · rw [if_neg hj, if_neg (fun e => hj (by have := e.2; omega))]
  exact ih _ _ t _ _ _ _ _ _ _ he3 ⟨hR1, hl, okS_tags (fun _ => rfl) ho, okS_tags (fun _ => rfl) (okS_cons.mp (okS_cons.mp (okS_cons.mp hs).2).2).2, locs_to hloc (hR.2.2.1 r (by omega) (by omega)), hce, hsl, hfr, hlo⟩ (K.step (Pres.tags (fun _ => rfl)) rfl rfl)
theorem sim_arraylength {n : Nat} (E : EnvM D cI cA p s m args meth c y) (ih : IH D cI cA base p l e R s m args below meth c Q y vf hf n) {pc len : Nat} {ls st : List Value} {h : Hp} {A : Nat → Nat} {arr : Array Slot} {H : Heap} {locs : List Loc} {cells slots : Nat}  
    (hd : decode (mB y) pc = .ok (.arraylength, len)) (hok : okl (.arraylength) len = true) (he : stp y pc len ls st h (exec n y) (fun y a h' => exec n y 0 (ent y a) [] h') (.arraylength) = some (vf, hf)) (S : Stt D cI cA base s R y hf A h ls st arr H locs cells slots) (K : Fin D cI cA base p l e R s m args below meth c Q y vf hf A h cells slots) :
    W p l e R s m args below meth c H locs cells slots Q (F0 m pc arr (st.map (cvv A))) := by
  obtain ⟨hx, hb, hml, hown, hts, hKF, hnm⟩ := E
  obtain ⟨hR, hl, ho, hs, hloc, hce, hsl, hfr, hlo⟩ := S
  obtain rfl : len = 1 := by simpa [okl] using hok
  simp only [stp] at he
  obtain ⟨r, t, rfl, he2⟩ := r1_some he
  obtain ⟨h1, he3⟩ := gd_some he2
  simp only [Bool.or_eq_true, Bool.and_eq_true, decide_eq_true_eq, beq_iff_eq] at h1
  have w := ih _ _ (.int (Int32.ofNat (ln h r)) :: t) _ _ _ _ _ _ _ he3 ⟨hR, hl, ho, okS_cons.mpr ⟨trivial, (okS_cons.mp hs).2⟩, hloc, hce, hsl, hfr, hlo⟩ K
  rcases h1 with ⟨h1, h2⟩ | h1
  · by_cases h20 : tg h r = 20
    · exact W.alen (n := Int32.ofNat (ln h r)) hx hb ((hR.2.1 r (by omega)).2.1 h20) ((tyI hKF).1 _ _) (by rw [arrV_size] <;> rfl) rfl rfl hd w
    · exact W.alen (n := Int32.ofNat (ln h r)) hx hb ((hR.2.1 r (by omega)).2.2.1 (by omega) h2) ((tyA hKF (by omega) h2).1 _ _) (by rw [arrV_size] <;> rfl) rfl rfl hd w
  · obtain ⟨cell, c1, c2, c3, c4, c5, c6, -⟩ := (hR.2.1 r (by omega)).2.2.2 h1
    exact W.alen (n := Int32.ofNat (ln h r)) hx hb c1 c2 c5 rfl rfl hd w
theorem sim_aaload {n : Nat} (E : EnvM D cI cA p s m args meth c y) (ih : IH D cI cA base p l e R s m args below meth c Q y vf hf n) {pc len : Nat} {ls st : List Value} {h : Hp} {A : Nat → Nat} {arr : Array Slot} {H : Heap} {locs : List Loc} {cells slots : Nat}  
    (hd : decode (mB y) pc = .ok (.aaload, len)) (hok : okl (.aaload) len = true) (he : stp y pc len ls st h (exec n y) (fun y a h' => exec n y 0 (ent y a) [] h') (.aaload) = some (vf, hf)) (S : Stt D cI cA base s R y hf A h ls st arr H locs cells slots) (K : Fin D cI cA base p l e R s m args below meth c Q y vf hf A h cells slots) :
    W p l e R s m args below meth c H locs cells slots Q (F0 m pc arr (st.map (cvv A))) := by
  obtain ⟨hx, hb, hml, hown, hts, hKF, hnm⟩ := E
  obtain ⟨hR, hl, ho, hs, hloc, hce, hsl, hfr, hlo⟩ := S
  obtain rfl : len = 1 := by simpa [okl] using hok
  simp only [stp] at he
  obtain ⟨r, i, t, rfl, he2⟩ := ri_some he
  obtain ⟨h1, he3⟩ := gd_some he2
  simp only [Bool.and_eq_true, decide_eq_true_eq, bne_iff_ne] at h1
  obtain ⟨⟨⟨⟨h1, h2⟩, h3⟩, h4⟩, h5⟩ := h1
  obtain ⟨i0, i1, i2, i3⟩ := inr_some h3
  have o2 := (okS_cons.mp (okS_cons.mp hs).2).2
  have w := ih _ _ (.ref (child r i.toInt.toNat) :: t) _ _ _ _ _ _ _ he3 ⟨hR, hl, ho, okS_cons.mpr ⟨h5, o2⟩, hloc, hce, hsl, hfr, hlo⟩ K
  refine W.aald (v := .ref (A (child r i.toInt.toNat))) hx hb ((hR.2.1 r (by omega)).2.2.1 h1 h2) ((tyA hKF h1 h2).1 _ _) rfl (fun q => by cases q) (by rw [arrV_size]; exact not_in h3 (Nat.le_refl _)) ?_ rfl rfl hd w
  rw [arrV_read _ _ i1, toNatN, elv, if_pos h4]
theorem castG (hKF : KF D cI cA s) {c' : Nat} (h : c' = 2 ∨ c' = 4 ∨ c' = 6) : s.vm.assignable (D.1 c') (D.1 2) = true := by
  have cl : ∀ ci, ci < 12 → s.vm.findClass (cn ci) = some (D.1 ci) := fun ci hci => (hKF.1.1 ci _ (cl_at hci)).2.1
  rcases h with rfl | rfl | rfl
  · exact va_asg _ _
  · have w : (Cond.castable "NutsUp$LongGrain" "NutsUp$Grain").before #[] s = true := va_Nw.use rfl (hKF.2 _ (nest_at (wAt_eq okCast_4) rfl))
    obtain ⟨a, b, w1, w2, w3⟩ := Cond.castable_spec w
    cases (cl 4 (by decide)).symm.trans w1
    cases (cl 2 (by decide)).symm.trans w2
    exact w3
  · have w : (Cond.castable "NutsUp$OilyGrain" "NutsUp$Grain").before #[] s = true := va_Nw.use rfl (hKF.2 _ (nest_at (wAt_eq okCast_6) rfl))
    obtain ⟨a, b, w1, w2, w3⟩ := Cond.castable_spec w
    cases (cl 6 (by decide)).symm.trans w1
    cases (cl 2 (by decide)).symm.trans w2
    exact w3
theorem ast_at {pc r q : Nat} {A : Nat → Nat} {h : Hp} {H : Heap} {locs : List Loc} {cells slots : Nat} {arr : Array Slot} {rest : List Value} {i : Int32} (E : EnvM D cI cA p s m args meth c y) (hR : Rep D cI cA base A h s H) (h1 : elok (tg h r) (tg h q) = true) (h2 : inr i (ln h r) = true) (hd : decode (mB y) pc = .ok (.aastore, 1))
    (kk : ∀ (H1 : Heap), 21 ≤ tg h r → tg h r ≤ 25 → H1.size = H.size → (∀ q, q ≠ A r → H1[q]? = H[q]?) → H1[A r]? = some (arrV (cA (tg h r)) (ln h r) (updV (elv A h r) i.toInt.toNat (.ref (A q)))) → W p l e R s m args below meth c H1 (locs ++ [⟨A r, i.toNatClampNeg⟩]) cells slots Q (F0 m (pc + 1) arr rest)) :
    W p l e R s m args below meth c H locs cells slots Q (F0 m pc arr (.ref (A q) :: .int i :: .ref (A r) :: rest)) := by
  obtain ⟨hx, hb, hml, hown, hts, hKF, hnm⟩ := E
  obtain ⟨i0, i1, i2, i3⟩ := inr_some h2
  have key : 21 ≤ tg h r ∧ tg h r ≤ 25 ∧ ∃ c', tg h q = c' + 1 ∧ c' < 12 ∧ s.vm.assignable (D.1 c') (D.1 (aCls (tg h r))) = true ∧ aCls (tg h r) < 12 ∧ cn (aCls (tg h r)) = aName (tg h r) := by
    simp only [elok, Bool.or_eq_true, Bool.and_eq_true, beq_iff_eq] at h1
    rcases h1 with ⟨h1, h3⟩ | ⟨h1, h3⟩
    · rw [h1]
      refine ⟨by decide, by decide, ?_⟩
      rcases h3 with (h3 | h3) | h3
      · exact ⟨2, h3, by decide, castG hKF (Or.inl rfl), by decide, rfl⟩
      · exact ⟨4, h3, by decide, castG hKF (Or.inr (Or.inl rfl)), by decide, rfl⟩
      · exact ⟨6, h3, by decide, castG hKF (Or.inr (Or.inr rfl)), by decide, rfl⟩
    · rcases h1 with ((h1 | h1) | h1) | h1 <;> rw [h1] at h3 ⊢ <;> exact ⟨by decide, by decide, _, h3, by decide, va_asg _ _, by decide, rfl⟩
  obtain ⟨k1, k2, c', k3, k4, k5, k6, k7⟩ := key
  obtain ⟨kA, comp, g1, g2, g3, -⟩ := (tyA hKF k1 k2).2
  have hcl := (hKF.1.1 _ _ (cl_at k6)).2
  have hcomp : comp = D.1 (aCls (tg h r)) := by
    have e1 : s.vm.findClass (cn (aCls (tg h r))) = some (D.1 (aCls (tg h r))) := hcl.1
    rw [k7] at e1
    exact Option.some.inj (g3.symm.trans e1)
  subst hcomp
  obtain ⟨kC, hkC, -⟩ := hcl.2
  obtain ⟨cv, q1, q2, q3, -⟩ := (hR.2.1 q (by omega)).1 c' k3 k4
  obtain ⟨kv, hkv, -⟩ := (hKF.1.1 _ _ (cl_at k4)).2.2
  refine W.aast hx hb ((hR.2.1 r (by omega)).2.2.1 k1 k2) (fun q h => by cases h) (fun h => by cases h) g1 g2 rfl hkC ⟨i2, by rw [arrV_size]; exact i1⟩ q1 (fun q h => by rw [q3] at h; cases h) (by rw [q2]; exact hkv) (by rw [q2]; exact k5) rfl rfl hd fun H1 e1 z oq => ?_
  rw [arrV_store] at e1
  exact kk H1 k1 k2 z oq e1
theorem sim_aastore {n : Nat} (E : EnvM D cI cA p s m args meth c y) (ih : IH D cI cA base p l e R s m args below meth c Q y vf hf n) {pc len : Nat} {ls st : List Value} {h : Hp} {A : Nat → Nat} {arr : Array Slot} {H : Heap} {locs : List Loc} {cells slots : Nat}  
    (hd : decode (mB y) pc = .ok (.aastore, len)) (hok : okl (.aastore) len = true) (he : stp y pc len ls st h (exec n y) (fun y a h' => exec n y 0 (ent y a) [] h') (.aastore) = some (vf, hf)) (S : Stt D cI cA base s R y hf A h ls st arr H locs cells slots) (K : Fin D cI cA base p l e R s m args below meth c Q y vf hf A h cells slots) :
    W p l e R s m args below meth c H locs cells slots Q (F0 m pc arr (st.map (cvv A))) := by
  obtain ⟨hx, hb, hml, hown, hts, hKF, hnm⟩ := E
  obtain ⟨hR, hl, ho, hs, hloc, hce, hsl, hfr, hlo⟩ := S
  obtain rfl : len = 1 := by simpa [okl] using hok
  simp only [stp] at he
  obtain ⟨r, i, q, t, rfl, he2⟩ := rir_some he
  obtain ⟨h1, he3⟩ := gd_some he2
  rw [Bool.and_eq_true] at h1
  obtain ⟨h1, h2⟩ := h1
  have o0 := okS_cons.mp hs
  have o2 := (okS_cons.mp (okS_cons.mp o0.2).2)
  refine ast_at (q := q) ⟨hx, hb, hml, hown, hts, hKF, hnm⟩ hR h1 h2 hd fun H1 k1 k2 z oq e1 => ?_
  split at he3
  · rename_i hqc
    rw [hqc] at e1
    have hch : tg h (child r i.toInt.toNat) ≠ 0 := by rw [← hqc]; exact o0.1
    exact ih _ _ t _ _ _ _ _ _ _ he3 ⟨hR.setElL k1 k2 hch z oq e1, hl, okS_tags (fun _ => rfl) ho, okS_tags (fun _ => rfl) o2.2, locs_to hloc (hR.2.2.1 r (by omega) (by omega)), hce, hsl, hfr, hlo⟩ (K.step (Pres.tags (fun _ => rfl)) rfl rfl)
  · obtain ⟨h3, he4⟩ := gd_some he3
    simp only [Bool.and_eq_true, Bool.not_eq_true', beq_iff_eq, decide_eq_true_eq] at h3
    obtain ⟨⟨⟨⟨⟨⟨⟨ht21, hm⟩, rfl⟩, hg⟩, hgr⟩, hch⟩, hng⟩, hns⟩ := h3
    have P : Pres y A (up1 A (child r i.toInt.toNat) (A 37)) h (mov h r i.toInt.toNat (child r i.toInt.toNat) 37) := Pres.mov hm hg rfl
    have hrc := gw_self hg hgr
    have hA : up1 A (child r i.toInt.toNat) (A 37) r = A r := by unfold up1; rw [if_neg hrc]
    have hr37 : r ≠ 37 := fun e => by rw [e] at hgr; cases hgr
    have h37 : tg h 37 = 3 ∨ tg h 37 = 5 ∨ tg h 37 = 7 := by
      simp only [elok, Bool.or_eq_true, Bool.and_eq_true, beq_iff_eq] at h1
      omega
    have hR1 : Rep D cI cA base (up1 A (child r i.toInt.toNat) (A 37)) (mov h r i.toInt.toNat (child r i.toInt.toNat) 37) s H1 := by
      refine hR.move (by omega) (by omega) hg hgr (Or.inr ⟨rfl, h37⟩) z oq ⟨fun c2 e1 e2 => ?_, fun e1 => ?_, fun e2 e3 => ?_, fun e1 => ?_⟩
      · rw [tg_mov, if_neg hr37, if_neg hrc] at e1
        omega
      · rw [tg_mov, if_neg hr37, if_neg hrc] at e1
        omega
      · rw [tg_mov, if_neg hr37, if_neg hrc, ln_mov, if_neg hrc, hA, e1]
        congr 2
        funext j
        unfold updV elv
        by_cases hjk : j = i.toInt.toNat
        · rw [if_pos hjk, hjk, fl_mov, if_pos (⟨rfl, rfl⟩ : r = r ∧ i.toInt.toNat = i.toInt.toNat)]
          unfold up1
          rw [if_pos rfl, if_pos rfl]
        · have n1 : child r j ≠ child r i.toInt.toNat := fun e => hjk (child_inj hg e)
          rw [if_neg hjk, fl_mov, if_neg hrc, if_neg (fun e : r = r ∧ j = i.toInt.toNat => hjk e.2)]
          unfold up1
          rw [if_neg n1]
      · rw [tg_mov, if_neg hr37, if_neg hrc] at e1
        omega
    have o3 := okS.to P o2.2 (fun _ => hns)
    have w := ih _ _ t _ (up1 A (child r i.toInt.toNat) (A 37)) _ _ (locs ++ [⟨A r, i.toNatClampNeg⟩]) cells slots he4 ⟨hR1, hl.to P ho (fun _ => hng), (okS.to P ho (fun _ => hng)).1, o3.1, locs_to hloc (hR.2.2.1 r (by omega) (by omega)), hce, hsl, hfr, hlo⟩ (K.step P rfl rfl)
    rw [o3.2] at w
    exact w
theorem ldc_row {o j : Nat} {v : Int32} (h : ldct o j = some v) : (.constant (on o) j v : Jvm.Cond) ∈ goodWs := by
  unfold ldct at h
  obtain ⟨q, hq, he⟩ := Option.map_eq_some_iff.mp h
  have h1 := List.find?_some hq
  have h2 := List.all_eq_true.mp okLdc_all q (List.mem_of_find?_eq_some hq)
  simp only [Bool.and_eq_true, beq_iff_eq] at h1
  rw [← he, ← h1.1, ← h1.2]
  exact good_at (wAt_eq h2) rfl
theorem ld2_row {o j : Nat} {v : Int64} (h : ld2t o j = some v) : (.constantLong (on o) j v : Jvm.Cond) ∈ goodWs := by
  unfold ld2t at h
  obtain ⟨q, hq, he⟩ := Option.map_eq_some_iff.mp h
  have h1 := List.find?_some hq
  have h2 := List.all_eq_true.mp okLd2_all q (List.mem_of_find?_eq_some hq)
  simp only [Bool.and_eq_true, beq_iff_eq] at h1
  rw [← he, ← h1.1, ← h1.2]
  exact good_at (wAt_eq h2) rfl
theorem sim_ldc {n : Nat} (E : EnvM D cI cA p s m args meth c y) (ih : IH D cI cA base p l e R s m args below meth c Q y vf hf n) {pc len : Nat} {ls st : List Value} {h : Hp} {A : Nat → Nat} {arr : Array Slot} {H : Heap} {locs : List Loc} {cells slots : Nat}  {j : Nat} 
    (hd : decode (mB y) pc = .ok (.ldc j, len)) (hok : okl (.ldc j) len = true) (he : stp y pc len ls st h (exec n y) (fun y a h' => exec n y 0 (ent y a) [] h') (.ldc j) = some (vf, hf)) (S : Stt D cI cA base s R y hf A h ls st arr H locs cells slots) (K : Fin D cI cA base p l e R s m args below meth c Q y vf hf A h cells slots) :
    W p l e R s m args below meth c H locs cells slots Q (F0 m pc arr (st.map (cvv A))) := by
  obtain ⟨hx, hb, hml, hown, hts, hKF, hnm⟩ := E
  obtain ⟨hR, hl, ho, hs, hloc, hce, hsl, hfr, hlo⟩ := S
  obtain rfl : len = 2 := by simpa [okl] using hok
  simp only [stp] at he
  split at he
  · rename_i v hq
    exact lv_ldc hx hb hown (hts _ (ldc_row hq)) hd (ih _ _ (.int v :: st) _ _ _ _ _ _ _ he ⟨hR, hl, ho, okS_cons.mpr ⟨trivial, hs⟩, hloc, hce, hsl, hfr, hlo⟩ K)
  · cases he
theorem sim_ldc_w {n : Nat} (E : EnvM D cI cA p s m args meth c y) (ih : IH D cI cA base p l e R s m args below meth c Q y vf hf n) {pc len : Nat} {ls st : List Value} {h : Hp} {A : Nat → Nat} {arr : Array Slot} {H : Heap} {locs : List Loc} {cells slots : Nat}  {j : Nat} 
    (hd : decode (mB y) pc = .ok (.ldc_w j, len)) (hok : okl (.ldc_w j) len = true) (he : stp y pc len ls st h (exec n y) (fun y a h' => exec n y 0 (ent y a) [] h') (.ldc_w j) = some (vf, hf)) (S : Stt D cI cA base s R y hf A h ls st arr H locs cells slots) (K : Fin D cI cA base p l e R s m args below meth c Q y vf hf A h cells slots) :
    W p l e R s m args below meth c H locs cells slots Q (F0 m pc arr (st.map (cvv A))) := by
  obtain ⟨hx, hb, hml, hown, hts, hKF, hnm⟩ := E
  obtain ⟨hR, hl, ho, hs, hloc, hce, hsl, hfr, hlo⟩ := S
  obtain rfl : len = 3 := by simpa [okl] using hok
  simp only [stp] at he
  split at he
  · rename_i v hq
    exact lv_ldcw hx hb hown (hts _ (ldc_row hq)) hd (ih _ _ (.int v :: st) _ _ _ _ _ _ _ he ⟨hR, hl, ho, okS_cons.mpr ⟨trivial, hs⟩, hloc, hce, hsl, hfr, hlo⟩ K)
  · cases he
theorem sim_ldc2_w {n : Nat} (E : EnvM D cI cA p s m args meth c y) (ih : IH D cI cA base p l e R s m args below meth c Q y vf hf n) {pc len : Nat} {ls st : List Value} {h : Hp} {A : Nat → Nat} {arr : Array Slot} {H : Heap} {locs : List Loc} {cells slots : Nat}  {j : Nat} 
    (hd : decode (mB y) pc = .ok (.ldc2_w j, len)) (hok : okl (.ldc2_w j) len = true) (he : stp y pc len ls st h (exec n y) (fun y a h' => exec n y 0 (ent y a) [] h') (.ldc2_w j) = some (vf, hf)) (S : Stt D cI cA base s R y hf A h ls st arr H locs cells slots) (K : Fin D cI cA base p l e R s m args below meth c Q y vf hf A h cells slots) :
    W p l e R s m args below meth c H locs cells slots Q (F0 m pc arr (st.map (cvv A))) := by
  obtain ⟨hx, hb, hml, hown, hts, hKF, hnm⟩ := E
  obtain ⟨hR, hl, ho, hs, hloc, hce, hsl, hfr, hlo⟩ := S
  obtain rfl : len = 3 := by simpa [okl] using hok
  simp only [stp] at he
  split at he
  · rename_i v hq
    exact lv_ldc2 hx hb hown (hts _ (ld2_row hq)) hd (ih _ _ (.long v :: st) _ _ _ _ _ _ _ he ⟨hR, hl, ho, okS_cons.mpr ⟨trivial, hs⟩, hloc, hce, hsl, hfr, hlo⟩ K)
  · cases he
theorem sim_getstatic {n : Nat} (E : EnvM D cI cA p s m args meth c y) (ih : IH D cI cA base p l e R s m args below meth c Q y vf hf n) {pc len : Nat} {ls st : List Value} {h : Hp} {A : Nat → Nat} {arr : Array Slot} {H : Heap} {locs : List Loc} {cells slots : Nat}  {j : Nat} 
    (hd : decode (mB y) pc = .ok (.getstatic j, len)) (hok : okl (.getstatic j) len = true) (he : stp y pc len ls st h (exec n y) (fun y a h' => exec n y 0 (ent y a) [] h') (.getstatic j) = some (vf, hf)) (S : Stt D cI cA base s R y hf A h ls st arr H locs cells slots) (K : Fin D cI cA base p l e R s m args below meth c Q y vf hf A h cells slots) :
    W p l e R s m args below meth c H locs cells slots Q (F0 m pc arr (st.map (cvv A))) := by
  obtain ⟨hx, hb, hml, hown, hts, hKF, hnm⟩ := E
  obtain ⟨hR, hl, ho, hs, hloc, hce, hsl, hfr, hlo⟩ := S
  obtain rfl : len = 3 := by simpa [okl] using hok
  simp only [stp] at he
  split at he
  · rename_i r hq
    obtain ⟨h1, he2⟩ := gd_some he
    have h1 : tg h r = 30 := by simpa using h1
    have w := ih _ _ (.ref r :: st) _ _ _ _ _ _ _ he2 ⟨hR, hl, ho, okS_cons.mpr ⟨by show tg h r ≠ 0; omega, hs⟩, hloc, hce, hsl, hfr, hlo⟩ K
    have key : (on (mO y) = on 0 ∧ j = 37 ∧ r = 500) ∨ (on (mO y) = on 1 ∧ j = 21 ∧ r = 501) := by
      unfold stf at hq
      obtain ⟨q, hq, he⟩ := Option.map_eq_some_iff.mp hq
      have h1 := List.find?_some hq
      have h2 := List.mem_of_find?_eq_some hq
      simp only [Bool.and_eq_true, beq_iff_eq] at h1
      simp only [stfTab, List.mem_cons, List.not_mem_nil, or_false] at h2
      rcases h2 with rfl | rfl
      · exact Or.inl ⟨congrArg on h1.1.symm, h1.2.symm, he.symm⟩
      · exact Or.inr ⟨congrArg on h1.1.symm, h1.2.symm, he.symm⟩
    obtain ⟨-, -, -, -, -, -, -, z1, z2⟩ := hR
    rcases key with ⟨k1, rfl, rfl⟩ | ⟨k1, rfl, rfl⟩
    · obtain ⟨cf, kf, fi, f, a, cell, w1, w2, w3, w4, w5, w6, w7, w8⟩ := z1
      have lk : (Cond.fieldLinkNest (on 0) 37 "NutsUp" "FACTORIALS" "[I" "NutsUp").before args s = true := va_Nw.use rfl (hKF.2 _ (nest_at (wAt_eq okStf_0) rfl))
      exact va_WgetsN hx hb (by rw [← k1]; exact hown) lk w1 w2 w3 w4 w5 (fun e => by rw [e] at w6; cases w6) w7 rfl hd w
    · obtain ⟨cf, kf, fi, f, a, cell, w1, w2, w3, w4, w5, w6, w7, w8⟩ := z2
      have lk : (Cond.fieldLinkNest (on 1) 21 "NutsUp" "LETTERS" "[I" "NutsUp").before args s = true := va_Nw.use rfl (hKF.2 _ (nest_at (wAt_eq okStf_1) rfl))
      exact va_WgetsN hx hb (by rw [← k1]; exact hown) lk w1 w2 w3 w4 w5 (fun e => by rw [e] at w6; cases w6) w7 rfl hd w
  · cases he
theorem new_row {o j ci : Nat} (h : newt o j = some ci) : (.classLink (on o) j (cn ci) : Jvm.Cond) ∈ goodWs ∧ (.instantiable (cn ci) (cSz ci) : Jvm.Cond) ∈ goodWs ∧ (.initialized (cn ci) : Jvm.Cond) ∈ goodWs ∧ ci < 12 := by
  unfold newt at h
  obtain ⟨q, hq, he⟩ := Option.map_eq_some_iff.mp h
  have h1 := List.find?_some hq
  have h2 := List.all_eq_true.mp okNew_all q (List.mem_of_find?_eq_some hq)
  simp only [Bool.and_eq_true, beq_iff_eq] at h1
  simp only [okNew, Bool.and_eq_true, decide_eq_true_eq] at h2
  rw [← he, ← h1.1, ← h1.2]
  exact ⟨good_at (wAt_eq h2.1.1.1) rfl, good_at (wAt_eq h2.1.1.2) rfl, good_at (wAt_eq h2.1.2) rfl, h2.2⟩
theorem anw_row {o j t : Nat} (h : anwt o j = some t) : (.classLink (on o) j (aName t) : Jvm.Cond) ∈ goodWs ∧ (.arrayOver (.object (aName t)) : Jvm.Cond) ∈ nestWs ∧ 21 ≤ t ∧ t ≤ 25 := by
  unfold anwt at h
  obtain ⟨q, hq, he⟩ := Option.map_eq_some_iff.mp h
  have h1 := List.find?_some hq
  have h2 := List.all_eq_true.mp okAnw_all q (List.mem_of_find?_eq_some hq)
  simp only [Bool.and_eq_true, beq_iff_eq] at h1
  simp only [okAnw, Bool.and_eq_true, decide_eq_true_eq] at h2
  rw [← he, ← h1.1, ← h1.2]
  exact ⟨good_at (wAt_eq h2.1.1) rfl, nest_at (wAt_eq h2.1.2) rfl, h2.2.1, h2.2.2⟩
theorem Pres.make {A : Nat → Nat} {h : Hp} {q t n u a : Nat} (h0 : tg h q = 0) : Pres y A (up1 A q a) h (mk h q t n u) := by
  intro w hw _
  have n1 : w ≠ q := fun e => hw (by rw [e]; exact h0)
  refine ⟨by rw [tg_mk, if_neg n1], ?_⟩
  unfold up1
  rw [if_neg n1]
theorem okS.to' {A A1 : Nat → Nat} {h h1 : Hp} {l : List Value} (P : ∀ r, tg h r ≠ 0 → tg h1 r = tg h r ∧ A1 r = A r) (hl : okS h l) : okS h1 l ∧ l.map (cvv A1) = l.map (cvv A) := okS.to (y := 9) (fun r hr _ => P r hr) hl (fun q => by cases q)
theorem lsR.to' {y0 : Nat} {A A1 : Nat → Nat} {h h1 : Hp} {ls : List Value} {arr : Array Slot} (P : ∀ r, tg h r ≠ 0 → tg h1 r = tg h r ∧ A1 r = A r) (hl : okS h ls) (hr : lsR y0 A ls arr) : lsR y0 A1 ls arr := by
  have e := (okS.to' P hl).2
  have key : ∀ k, k < ls.length → cvv A1 (gt ls k) = cvv A (gt ls k) := by
    intro k hk
    have := congrArg (fun l : List Value => l[k]?) e
    simp only [List.getElem?_map] at this
    unfold gt
    rw [List.getElem?_eq_getElem hk] at this ⊢
    simpa using this
  refine ⟨⟨hr.1.1, hr.1.2.1, fun q hq => ?_⟩, hr.2⟩
  obtain ⟨q1, q2, q3⟩ := mem_held.mp hq
  exact hr.1.2.2 q (mem_held.mpr ⟨q1, q2, by rw [q3]; exact key _ q1⟩)
theorem made {A : Nat → Nat} {h : Hp} {q t n u a : Nat} (h0 : tg h q = 0) : ∀ r, tg h r ≠ 0 → tg (mk h q t n u) r = tg h r ∧ up1 A q a r = A r := by
  intro w hw
  have n1 : w ≠ q := fun e => hw (by rw [e]; exact h0)
  refine ⟨by rw [tg_mk, if_neg n1], ?_⟩
  unfold up1
  rw [if_neg n1]
theorem site_ok {q : Nat} (h : decide (q < 500 ∨ 10000 ≤ q) = true) : q ≠ 500 ∧ q ≠ 501 := by
  have := of_decide_eq_true h
  omega
theorem sim_new {n : Nat} (E : EnvM D cI cA p s m args meth c y) (ih : IH D cI cA base p l e R s m args below meth c Q y vf hf n) {pc len : Nat} {ls st : List Value} {h : Hp} {A : Nat → Nat} {arr : Array Slot} {H : Heap} {locs : List Loc} {cells slots : Nat}  {j : Nat} 
    (hd : decode (mB y) pc = .ok (.new j, len)) (hok : okl (.new j) len = true) (he : stp y pc len ls st h (exec n y) (fun y a h' => exec n y 0 (ent y a) [] h') (.new j) = some (vf, hf)) (S : Stt D cI cA base s R y hf A h ls st arr H locs cells slots) (K : Fin D cI cA base p l e R s m args below meth c Q y vf hf A h cells slots) :
    W p l e R s m args below meth c H locs cells slots Q (F0 m pc arr (st.map (cvv A))) := by
  obtain ⟨hx, hb, hml, hown, hts, hKF, hnm⟩ := E
  obtain ⟨hR, hl, ho, hs, hloc, hce, hsl, hfr, hlo⟩ := S
  obtain rfl : len = 3 := by simpa [okl] using hok
  simp only [stp] at he
  split at he
  · rename_i ci hq
    obtain ⟨h1, he2⟩ := gd_some he
    simp only [Bool.and_eq_true, beq_iff_eq] at h1
    obtain ⟨⟨hm, h0⟩, h5⟩ := h1
    obtain ⟨n1, n2, n3, hci⟩ := new_row hq
    have hmo := exec_mono _ _ _ _ _ _ _ _ he2
    have mo1 : ck h + 1 ≤ ck hf := hmo.1
    have mo2 : cu h + cSz ci ≤ cu hf := hmo.2
    have hfc := (hKF.1.1 ci _ (cl_at hci)).2.1
    refine W.newcK (h := H.size) hx hb hown (hts _ n1) (hts _ n2) (hts _ n3) rfl hd (by omega) (by omega) hfc rfl fun H1 kC g1 g2 z oq => ?_
    have hR1 : Rep D cI cA base (up1 A (site y pc ls h) H.size) (mk h (site y pc ls h) (ci + 1) 0 (cSz ci)) s H1 := by
      refine hR.make h0 (site_ok (by simpa using h5)) (Or.inl ⟨by omega, by omega⟩) z oq ⟨fun c2 e1 e2 => ?_, fun e1 => by omega, fun e1 _ => by omega⟩
      obtain rfl : c2 = ci := by omega
      refine (u_born (cTy c2) hts (lay_in hci) (hKF.1.1 c2 _ (cl_at hci)) g1 g2 (fun k hk => (ty_at hci hk).1)).to (fun k hk => ?_)
      obtain ⟨-, a1, a2⟩ := ty_at hci hk
      by_cases hr : rfs c2 k = true
      · rw [if_pos hr, (a1 hr).1]
      · rw [if_neg hr]
        rcases a2 (by simpa using hr) with e | e <;> rw [e] <;> rfl
    have P : ∀ r, tg h r ≠ 0 → tg (mk h (site y pc ls h) (ci + 1) 0 (cSz ci)) r = tg h r ∧ up1 A (site y pc ls h) H.size r = A r := made h0
    have o3 := okS.to' P hs
    have w := ih _ _ (.ref (site y pc ls h) :: st) _ (up1 A (site y pc ls h) H.size) _ _ locs (cells + 1) (slots + cSz ci) he2 ⟨hR1, hl.to' P ho, (okS.to' P ho).1, okS_cons.mpr ⟨by show tg (mk _ _ _ _ _) _ ≠ 0; rw [tg_mk, if_pos rfl]; omega, o3.1⟩, hloc, (by show cells + 1 + ck hf ≤ R.cells + (ck h + 1); omega), (by show slots + cSz ci + cu hf ≤ R.slots + (cu h + cSz ci); omega), hfr, hlo⟩ (K.step (Pres.make h0) (by show cells + 1 + ck h = cells + (ck h + 1); omega) (by show slots + cSz ci + cu h = slots + (cu h + cSz ci); omega))
    rw [List.map_cons, o3.2] at w
    have e : cvv (up1 A (site y pc ls h) H.size) (.ref (site y pc ls h)) = .ref H.size := by
      show Value.ref (up1 A _ _ _) = _
      unfold up1
      rw [if_pos rfl]
    rw [e] at w
    exact w
  · cases he
theorem sim_newarray {n : Nat} (E : EnvM D cI cA p s m args meth c y) (ih : IH D cI cA base p l e R s m args below meth c Q y vf hf n) {pc len : Nat} {ls st : List Value} {h : Hp} {A : Nat → Nat} {arr : Array Slot} {H : Heap} {locs : List Loc} {cells slots : Nat}  {ty : ArrayType} 
    (hd : decode (mB y) pc = .ok (.newarray ty, len)) (hok : okl (.newarray ty) len = true) (he : stp y pc len ls st h (exec n y) (fun y a h' => exec n y 0 (ent y a) [] h') (.newarray ty) = some (vf, hf)) (S : Stt D cI cA base s R y hf A h ls st arr H locs cells slots) (K : Fin D cI cA base p l e R s m args below meth c Q y vf hf A h cells slots) :
    W p l e R s m args below meth c H locs cells slots Q (F0 m pc arr (st.map (cvv A))) := by
  obtain ⟨hx, hb, hml, hown, hts, hKF, hnm⟩ := E
  obtain ⟨hR, hl, ho, hs, hloc, hce, hsl, hfr, hlo⟩ := S
  obtain rfl : len = 2 := by simpa [okl] using hok
  simp only [stp] at he
  obtain ⟨x, t, rfl, he1⟩ := i1_some he
  obtain ⟨h1, he2⟩ := gd_some he1
  simp only [Bool.and_eq_true, beq_iff_eq, decide_eq_true_eq] at h1
  obtain ⟨⟨⟨⟨⟨hm, hty⟩, x0⟩, x1⟩, h0⟩, h5⟩ := h1
  obtain rfl : ty = .int := by cases ty <;> first | rfl | exact absurd hty (by decide)
  have hmo := exec_mono _ _ _ _ _ _ _ _ he2
  have mo1 : ck h + 1 ≤ ck hf := hmo.1
  have mo2 : cu h + x.toInt.toNat ≤ cu hf := hmo.2
  have hw : (Cond.arrayClass (newarray.typeOf .int)).before args s = true := hts _ (good_at (wAt_eq okArr) rfl)
  refine va_newaK (h := H.size) (N := x.toInt.toNat) hx hb hw rfl hd rfl (nlt0 x0) rfl (by show x.toInt.toNat * 4 ≤ _; omega) (by omega) (by omega) rfl fun H1 cA2 e1 z oq _ hnm2 => ?_
  obtain rfl : cA2 = cI := Option.some.inj (hnm2.symm.trans (tyI hKF).2)
  have hR1 : Rep D cA2 cA base (up1 A (site y pc ls h) H.size) (mk h (site y pc ls h) 20 x.toInt.toNat x.toInt.toNat) s H1 :=
    hR.make h0 (site_ok (by simpa using h5)) (Or.inr ⟨by omega, by omega⟩) z oq ⟨fun c2 e1 e2 => by omega, fun _ => e1, fun e1 _ => by omega⟩
  have P : ∀ r, tg h r ≠ 0 → tg (mk h (site y pc ls h) 20 x.toInt.toNat x.toInt.toNat) r = tg h r ∧ up1 A (site y pc ls h) H.size r = A r := made h0
  have o3 := okS.to' P (okS_cons.mp hs).2
  have w := ih _ _ (.ref (site y pc ls h) :: t) _ (up1 A (site y pc ls h) H.size) _ _ locs (cells + 1) (slots + x.toInt.toNat) he2 ⟨hR1, hl.to' P ho, (okS.to' P ho).1, okS_cons.mpr ⟨by show tg (mk _ _ _ _ _) _ ≠ 0; rw [tg_mk, if_pos rfl]; omega, o3.1⟩, hloc, (by show cells + 1 + ck hf ≤ R.cells + (ck h + 1); omega), (by show slots + x.toInt.toNat + cu hf ≤ R.slots + (cu h + x.toInt.toNat); omega), hfr, hlo⟩ (K.step (Pres.make h0) (by show cells + 1 + ck h = cells + (ck h + 1); omega) (by show slots + x.toInt.toNat + cu h = slots + (cu h + x.toInt.toNat); omega))
  rw [List.map_cons, o3.2] at w
  have e : cvv (up1 A (site y pc ls h) H.size) (.ref (site y pc ls h)) = .ref H.size := by
    show Value.ref (up1 A _ _ _) = _
    unfold up1
    rw [if_pos rfl]
  rw [e] at w
  exact w
theorem sim_anewarray {n : Nat} (E : EnvM D cI cA p s m args meth c y) (ih : IH D cI cA base p l e R s m args below meth c Q y vf hf n) {pc len : Nat} {ls st : List Value} {h : Hp} {A : Nat → Nat} {arr : Array Slot} {H : Heap} {locs : List Loc} {cells slots : Nat}  {j : Nat} 
    (hd : decode (mB y) pc = .ok (.anewarray j, len)) (hok : okl (.anewarray j) len = true) (he : stp y pc len ls st h (exec n y) (fun y a h' => exec n y 0 (ent y a) [] h') (.anewarray j) = some (vf, hf)) (S : Stt D cI cA base s R y hf A h ls st arr H locs cells slots) (K : Fin D cI cA base p l e R s m args below meth c Q y vf hf A h cells slots) :
    W p l e R s m args below meth c H locs cells slots Q (F0 m pc arr (st.map (cvv A))) := by
  obtain ⟨hx, hb, hml, hown, hts, hKF, hnm⟩ := E
  obtain ⟨hR, hl, ho, hs, hloc, hce, hsl, hfr, hlo⟩ := S
  obtain rfl : len = 3 := by simpa [okl] using hok
  simp only [stp] at he
  split at he
  · rename_i ty hq
    obtain ⟨x, t, rfl, he1⟩ := i1_some he
    obtain ⟨h1, he2⟩ := gd_some he1
    simp only [Bool.and_eq_true, beq_iff_eq, decide_eq_true_eq] at h1
    obtain ⟨⟨⟨⟨hm, x0⟩, x1⟩, h0⟩, h5⟩ := h1
    obtain ⟨n1, n2, t1, t2⟩ := anw_row hq
    have hmo := exec_mono _ _ _ _ _ _ _ _ he2
    have mo1 : ck h + 1 ≤ ck hf := hmo.1
    have mo2 : cu h + x.toInt.toNat ≤ cu hf := hmo.2
    have hov : (Cond.arrayOver (.object (aName ty))).before args s = true := va_AO.use (hKF.2 _ n2)
    refine W.anew hx hb hown (hts _ n1) hov rfl hd rfl (nlt0 x0) (by rw [toNatN]; omega) (by omega) (by rw [toNatN]; omega) fun cA2 kA comp f1 f2 f3 f4 => ?_
    rw [toNatN]
    generalize hH1 : H.push ({ cls := cA2, slots := Array.replicate x.toInt.toNat .null, vm := .none } : Cell) = H1
    have z1 : H1.size = H.size + 1 := by rw [← hH1, Array.size_push]
    have e1 : H1[H.size]? = some (arrV cA2 x.toInt.toNat (fun _ => .null)) := by rw [← hH1, Array.getElem?_push_size, ← arrV_new]
    have o1 : ∀ q : Nat, q < H.size → H1[q]? = H[q]? := fun q hq => by rw [← hH1, Array.getElem?_push, if_neg (Nat.ne_of_lt hq)]
    obtain ⟨_, _, _, _, _, k4⟩ := (tyA hKF t1 t2).2
    obtain rfl : cA2 = cA ty := Option.some.inj (f1.symm.trans k4)
    have hR1 : Rep D cI cA base (up1 A (site y pc ls h) H.size) (mk h (site y pc ls h) ty x.toInt.toNat x.toInt.toNat) s H1 :=
      hR.make h0 (site_ok (by simpa using h5)) (Or.inr ⟨by omega, by omega⟩) z1 o1 ⟨fun c2 e1 e2 => by omega, fun e => by omega, fun _ _ => e1⟩
    have P : ∀ r, tg h r ≠ 0 → tg (mk h (site y pc ls h) ty x.toInt.toNat x.toInt.toNat) r = tg h r ∧ up1 A (site y pc ls h) H.size r = A r := made h0
    have o3 := okS.to' P (okS_cons.mp hs).2
    have w := ih _ _ (.ref (site y pc ls h) :: t) _ (up1 A (site y pc ls h) H.size) _ _ locs (cells + 1) (slots + x.toInt.toNat) he2 ⟨hR1, hl.to' P ho, (okS.to' P ho).1, okS_cons.mpr ⟨by show tg (mk _ _ _ _ _) _ ≠ 0; rw [tg_mk, if_pos rfl]; omega, o3.1⟩, hloc, (by show cells + 1 + ck hf ≤ R.cells + (ck h + 1); omega), (by show slots + x.toInt.toNat + cu hf ≤ R.slots + (cu h + x.toInt.toNat); omega), hfr, hlo⟩ (K.step (Pres.make h0) (by show cells + 1 + ck h = cells + (ck h + 1); omega) (by show slots + x.toInt.toNat + cu h = slots + (cu h + x.toInt.toNat); omega))
    rw [List.map_cons, o3.2] at w
    have e : cvv (up1 A (site y pc ls h) H.size) (.ref (site y pc ls h)) = .ref H.size := by
      show Value.ref (up1 A _ _ _) = _
      unfold up1
      rw [if_pos rfl]
    rw [e] at w
    exact w
  · cases he
end SIMB
end
section
/-! Calls. -/
theorem good_in {ws : List Jvm.Cond} (h : ∀ w ∈ ws, w ∈ goodWs) : GoodIn goodWs ws := fun w hw => ⟨h w hw, good_of_word (List.mem_filter.mp (h w hw)).2⟩
theorem cod_in {y : Nat} (hy : y < 99) : (.code (mY y) (mB y) (mL y) (mR y) : Jvm.Cond) ∈ goodWs := good_at (cod_all y hy) rfl
theorem wsM_in {y : Nat} (hy : y < 99) : ∀ w ∈ wsM y, w ∈ goodWs := by
  intro w hw
  rcases List.mem_cons.mp hw with h | h
  · rw [h]; exact cod_in hy
  · exact h
theorem on_cn {o : Nat} (h : o < 12) : on o = cn o := by
  have k : (List.range 12).all (fun o => decide (on o = cn o)) = true := by decide +kernel
  exact of_decide_eq_true (range_all k h)
theorem cod_ok {y : Nat} (hy : y < 99) (h1 : y ≠ 1) : (.initialized (mY y).cls : Jvm.Cond) ∈ goodWs ∧ ((mY y).cls ≠ "java/lang/invoke/MethodHandle" ∧ (mY y).cls ≠ "java/lang/invoke/VarHandle") ∧ (parseMethodDescriptor (mY y).desc).map (fun d => d.parameters.length) = some (mA y) ∧ plainFor (mY y) = true := by
  have h := range_all okCode_all hy
  rw [Bool.or_eq_true, beq_iff_eq] at h
  rcases h with h | h
  · exact absurd h h1
  · simp only [okCode, Bool.and_eq_true, decide_eq_true_eq] at h
    exact ⟨good_at (wAt_eq h.1.1.1) rfl, h.1.1.2, h.1.2, h.2⟩
theorem cat_le (v : Value) : v.category ≤ 2 := by cases v <;> first | exact Nat.le_refl _ | exact Nat.le_succ _
theorem cat_sum : ∀ l : List Value, (l.map (fun v => v.category)).sum ≤ 2 * l.length
  | [] => Nat.le_refl _
  | v :: l => by
    have h1 := cat_sum l
    have h2 := cat_le v
    simp only [List.map_cons, List.sum_cons, List.length_cons]
    omega
theorem cal_row {o j k z : Nat} (h : cal o j = some (k, z)) : ∃ x, okCal (o, j, k, z, x) = true ∧ (o, j, k, z, x) ∈ calTab := by
  unfold cal at h
  obtain ⟨q, hq, he⟩ := Option.map_eq_some_iff.mp h
  have h1 := List.find?_some hq
  have h2 := List.mem_of_find?_eq_some hq
  have h3 := List.all_eq_true.mp okCal_all q h2
  simp only [Bool.and_eq_true, beq_iff_eq] at h1
  obtain ⟨a, b, c, d, x⟩ := q
  cases he
  obtain ⟨rfl, rfl⟩ := h1
  exact ⟨x, h3, h2⟩
theorem cal5_all : calTab.all (fun q => q.2.2.1 != 5 || mA q.2.2.2.1 == 1) = true := by decide +kernel
theorem cal5 {o j z : Nat} (h : cal o j = some (5, z)) : mA z = 1 := by
  obtain ⟨x, -, hx⟩ := cal_row h
  have := List.all_eq_true.mp cal5_all _ hx
  simpa using this
theorem rvo_list (z : Nat) (A : Nat → Nat) (v : Value) (l : List Value) : (rvo z A v).toList ++ l.map (cvv A) = (back z v l).map (cvv A) := by
  unfold rvo back
  by_cases h : mR z = none
  · rw [if_pos h, if_pos h]; rfl
  · rw [if_neg h, if_neg h]; rfl
theorem take_drop {k : Nat} {st rest : List Value} (h : st.drop k = rest) : st = (takeA k st).reverse ++ rest := by
  unfold takeA
  rw [List.reverse_reverse, ← h, List.take_append_drop]
theorem takeA_len {k : Nat} {st : List Value} (h : k ≤ st.length) : (takeA k st).length = k := by
  unfold takeA
  rw [List.length_reverse, List.length_take]
  omega
theorem okS_take {k : Nat} {st : List Value} {h : Hp} (hs : okS h st) : okS h (takeA k st) := by
  intro v hv
  exact hs v (List.mem_of_mem_take (List.mem_reverse.mp hv))
theorem okS_drop {k : Nat} {st : List Value} {h : Hp} (hs : okS h st) : okS h (st.drop k) := fun v hv => hs v (List.mem_of_mem_drop hv)
theorem lsR.toZ {z y0 : Nat} {A A1 : Nat → Nat} {h h1 : Hp} {ls : List Value} {arr : Array Slot} (P : Pres z A A1 h h1) (hl : okS h ls) (hg : mv z = true → ng ls = true) (hr : lsR y0 A ls arr) : lsR y0 A1 ls arr := by
  have e := (okS.to P hl hg).2
  have key : ∀ k, k < ls.length → cvv A1 (gt ls k) = cvv A (gt ls k) := by
    intro k hk
    have := congrArg (fun l : List Value => l[k]?) e
    simp only [List.getElem?_map] at this
    unfold gt
    rw [List.getElem?_eq_getElem hk] at this ⊢
    simpa using this
  refine ⟨⟨hr.1.1, hr.1.2.1, fun q hq => ?_⟩, hr.2⟩
  obtain ⟨q1, q2, q3⟩ := mem_held.mp hq
  exact hr.1.2.2 q (mem_held.mpr ⟨q1, q2, by rw [q3]; exact key _ q1⟩)
section SIMC
variable {D : va_G} {cI : ClassId} {cA : Nat → ClassId} {base : Nat} {p : Program} {l : Launch} {e : Env} {R : Room} {s : State} {m : MethodId} {args : Array Value} {below : List Frame} {meth : Method} {c : Code} {Q : State → Prop} {y : Nat} {vf : Value} {hf : Hp}
/-- what a call of the method z is to give -/
def RunP (D : va_G) (cI : ClassId) (cA : Nat → ClassId) (base : Nat) (p : Program) (l : Launch) (e : Env) (R : Room) (s : State) (m : MethodId) (args : Array Value) (below : List Frame) (meth : Method) (c : Code) (y z pc : Nat) (A : Nat → Nat) (h : Hp) (arr : Array Slot) (H : Heap) (locs : List Loc) (cells slots : Nat) (st rest a : List Value) : Prop :=
  ∀ (h2 : Hp) (v : Value), z < 99 → z ≠ 1 → Met l (mY z) (wsM z) (rmM z (ck h2 - ck h) (cu h2 - cu h)) (Pm D cI cA base A h a) (Qm D cI cA base z A h h2 v) (ck h2 - ck h) (cu h2 - cu h) (fun q => base ≤ q) → mF z + 1 ≤ R.frames ∧ 8 + (mL z + 11) + mLc z ≤ R.locals →
    (∀ l2 : List Value, 2 * (F0 m pc arr l2).monitorRoom + ((rest.map (cvv A)).map fun v => v.category).sum ≤ 8) → cells + (ck h2 - ck h) ≤ R.cells ∧ slots + (cu h2 - cu h) ≤ R.slots →
    va_Run p l e R s m args below meth c H locs cells slots (ck h2 - ck h) (cu h2 - cu h) (F0 m pc arr (st.map (cvv A))) (rest.map (cvv A)) (Qm D cI cA base z A h h2 v (a.map (cvv A)).toArray) (fun q => base ≤ q)
theorem cll_on {n z pc : Nat} {ls st rest a : List Value} {h : Hp} {A : Nat → Nat} {arr : Array Slot} {H : Heap} {locs : List Loc} {cells slots : Nat} (M : MetP D cI cA base l n) (ih : IH D cI cA base p l e R s m args below meth c Q y vf hf n)
    (he : cll y pc z ls rest h (exec n y) (fun y a h' => exec n y 0 (ent y a) [] h') a = some (vf, hf)) (S : Stt D cI cA base s R y hf A h ls st arr H locs cells slots) (K : Fin D cI cA base p l e R s m args below meth c Q y vf hf A h cells slots)
    (hoa : okS h a) (hor : okS h rest) (hr : RunP D cI cA base p l e R s m args below meth c y z pc A h arr H locs cells slots st rest a) : W p l e R s m args below meth c H locs cells slots Q (F0 m pc arr (st.map (cvv A))) := by
  obtain ⟨hR, hl, ho, hs, hloc, hce, hsl, hfr, hlo⟩ := S
  unfold cll at he
  obtain ⟨hg, he⟩ := gd_some he
  simp only [okc, Bool.and_eq_true, decide_eq_true_eq, Bool.or_eq_true, bne_iff_ne, Bool.not_eq_true'] at hg
  obtain ⟨⟨⟨⟨⟨⟨⟨hm1, hm2⟩, hz⟩, hz1⟩, hlen⟩, hnl⟩, hlay⟩, hmv⟩ := hg
  split at he
  · rename_i v h2 heq
    have mo1 := exec_mono _ _ _ _ _ _ _ _ heq
    have mo2 := exec_mono _ _ _ _ _ _ _ _ he
    have M1 := M z a h h2 v A hz hz1 heq hoa (fun hn w hw => by
      rcases hnl with hnl | hnl
      · rw [hn] at hnl; cases hnl
      · have := List.all_eq_true.mp hnl w hw
        simpa using this) hlay
    have hmz : mv z = true → (mv y = true ∧ ng ls = true) ∧ ng rest = true := fun q => by
      rcases hmv with h1 | h1
      · rw [q] at h1; cases h1
      · exact h1
    have hr := hr h2 v hz hz1 M1 ⟨by omega, by omega⟩ (fun l2 => lv_room (by
      have h1 := cat_sum (rest.map (cvv A))
      rw [List.length_map] at h1
      omega)) ⟨by omega, by omega⟩
    intro T hT X
    obtain ⟨v0, st0, t, T', L, h0, X', hL, e1, e2, ⟨A', q1, q2, q3, q4⟩, st⟩ := hr T hT X
    have q5 : v0 = rvo z A' v := by cases q4; rfl
    have hR2 : Rep D cI cA base A' h2 s T'.heap := by
      rw [e1]
      refine Rep.moved ?_ q2
      rw [← e2]
      exact Vm.Alike.symm X'.warmed.alike
    have P2 : Pres y A A' h h2 := fun r hr hgy => q1 r hr (fun q => hgy (hmz q).1.1)
    have o3 := okS.to q1 hor (fun q => (hmz q).2)
    have o4 := okS.to q1 ho (fun q => (hmz q).1.2)
    have hob : okS h2 (back z v rest) := by
      unfold back
      split
      · exact o3.1
      · exact okS_cons.mpr ⟨q3, o3.1⟩
    have hlocs : ∀ q ∈ locs ++ L, base ≤ q.base := by
      intro q hq
      rcases List.mem_append.mp hq with h1 | h1
      · exact hloc q h1
      · exact hL q h1
    have w := ih (pc + 3) ls (back z v rest) h2 A' arr T'.heap (locs ++ L) (cells + (ck h2 - ck h)) (slots + (cu h2 - cu h)) he
      ⟨hR2, hl.toZ q1 ho (fun q => (hmz q).1.2), o4.1, hob, hlocs, by omega, by omega, hfr, hlo⟩ (K.step P2 (by omega) (by omega))
    rw [← rvo_list, o3.2, ← q5] at w
    obtain ⟨t2, a1, b1⟩ := w T' rfl X'
    exact ⟨t2, st t2 a1, b1⟩
  · cases he
theorem Pm_blind {A : Nat → Nat} {h : Hp} {a : List Value} : FrameBlind (Pm D cI cA base A h a) := fun a U g mk q => ⟨q.1, Rep.moved (u := U) (U := U.calling g mk a) (Vm.Alike.refl U.vm) q.2.1, KF.moved (U := U.calling g mk a) (State.WarmedH.refl U) q.2.2⟩
theorem Pm_at {A : Nat → Nat} {h : Hp} {H : Heap} {a : List Value} (hR : Rep D cI cA base A h s H) (hKF : KF D cI cA s) : ∀ U : State, U.heap = H → s.WarmedH U.vm → Pm D cI cA base A h a (a.map (cvv A)).toArray U := fun U hU hW => ⟨rfl, by rw [hU]; exact Rep.moved hW.alike hR, KF.moved hW hKF⟩
theorem Pm_S {A : Nat → Nat} {h : Hp} {H : Heap} {a : List Value} (hR : Rep D cI cA base A h s H) (hKF : KF D cI cA s) : PreS s H (Pm D cI cA base A h a) (a.map (cvv A)) := ⟨Pm_blind, Pm_at hR hKF⟩
theorem Pm_V {A : Nat → Nat} {h : Hp} {H : Heap} {a : List Value} {r ci : Nat} (hR : Rep D cI cA base A h s H) (hKF : KF D cI cA s) (ht : tg h r = ci + 1) (hci : ci < 12) : PreV s H (cn ci) (A r) (Pm D cI cA base A h (.ref r :: a)) (a.map (cvv A)) := by
  refine ⟨Pm_blind, ?_, Pm_at hR hKF⟩
  obtain ⟨cell, q1, q2, q3, q4⟩ := (hR.2.1 r (by omega)).1 ci ht hci
  obtain ⟨hS, hfc, kC, hkC, hkind⟩ := hKF.1.1 ci _ (cl_at hci)
  exact ⟨cell, q1, by rw [q3]; rfl, by rw [q2]; exact hfc⟩
/-- the receiver on the stack -/
theorem onobj_some {z : Nat} {st : List Value} {f : Nat → List Value → List Value → Rs} {q : Value × Hp} (h : onobj z st f = some q) : ∃ r rest, st = (takeA (mA z) st).reverse ++ .ref r :: rest ∧ mA z ≤ st.length ∧ st.drop (mA z) = .ref r :: rest ∧ f r (takeA (mA z) st) rest = some q := by
  obtain ⟨r, t, h1, h2⟩ := r1_some h
  obtain ⟨h3, h4⟩ := gd_some h2
  exact ⟨r, t, take_drop h1, of_decide_eq_true h3, h1, h4⟩
theorem stk_map {A : Nat → Nat} {as rest : List Value} {r : Nat} {st : List Value} (h : st = as.reverse ++ .ref r :: rest) : st.map (cvv A) = (as.map (cvv A)).reverse ++ .ref (A r) :: rest.map (cvv A) := by
  rw [h, List.map_append, List.map_reverse]
  rfl
theorem stk_mapS {A : Nat → Nat} {as rest : List Value} {st : List Value} (h : st = as.reverse ++ rest) : st.map (cvv A) = (as.map (cvv A)).reverse ++ rest.map (cvv A) := by
  rw [h, List.map_append, List.map_reverse]
theorem sim_static {n : Nat} (E : EnvM D cI cA p s m args meth c y) (M : MetP D cI cA base l n) (ih : IH D cI cA base p l e R s m args below meth c Q y vf hf n) {pc len : Nat} {ls st : List Value} {h : Hp} {A : Nat → Nat} {arr : Array Slot} {H : Heap} {locs : List Loc} {cells slots : Nat}  {j : Nat} 
    (hd : decode (mB y) pc = .ok (.invokestatic j, len)) (hok : okl (.invokestatic j) len = true) (he : stp y pc len ls st h (exec n y) (fun y a h' => exec n y 0 (ent y a) [] h') (.invokestatic j) = some (vf, hf)) (S : Stt D cI cA base s R y hf A h ls st arr H locs cells slots) (K : Fin D cI cA base p l e R s m args below meth c Q y vf hf A h cells slots) :
    W p l e R s m args below meth c H locs cells slots Q (F0 m pc arr (st.map (cvv A))) := by
  obtain ⟨hx, hb, hml, hown, hts, hKF, hnm⟩ := E
  obtain ⟨hR, hl, ho, hs, hloc, hce, hsl, hfr, hlo⟩ := S
  obtain rfl : len = 3 := by simpa [okl] using hok
  simp only [stp] at he
  split at he
  · rename_i z hq
    obtain ⟨h1, he⟩ := gd_some he
    have h1 := of_decide_eq_true h1
    refine cll_on M ih he ⟨hR, hl, ho, hs, hloc, hce, hsl, hfr, hlo⟩ K (okS_take hs) (okS_drop hs) fun h2 v hz hz1 M1 hr1 hr2 hr3 => ?_
    obtain ⟨x, ok, -⟩ := cal_row hq
    obtain ⟨n1, n2, n3, -⟩ := cod_ok hz hz1
    simp only [okCal, Bool.and_eq_true] at ok
    have hG : GoodIn goodWs (va_wsS (on (mO y)) j (mY z) (wsM z)) := good_in (by
      intro w hw
      simp only [va_wsS, List.cons_append, List.nil_append, List.mem_cons] at hw
      rcases hw with rfl | rfl | rfl | hw
      · exact good_at (wAt_eq ok.1) rfl
      · exact good_at (wAt_eq ok.2) rfl
      · exact n1
      · exact wsM_in hz w hw)
    exact va_runS (Ts := goodWs) (nL := mL y) ⟨hx, hb, hml, hown, hts⟩ M1 (va_cwS (mA z) hts hG rfl rfl rfl ⟨n2.1, n2.2, n3⟩ hr1) (Pm_S hR hKF) rfl (by rw [List.length_map]; exact takeA_len h1) hl.1.1 (stk_mapS (take_drop rfl)) (hr2 _) hd hr3
  · rename_i z hq
    obtain ⟨h1, he⟩ := gd_some he
    have h1 := of_decide_eq_true h1
    refine cll_on M ih he ⟨hR, hl, ho, hs, hloc, hce, hsl, hfr, hlo⟩ K (okS_take hs) (okS_drop hs) fun h2 v hz hz1 M1 hr1 hr2 hr3 => ?_
    obtain ⟨x, ok, -⟩ := cal_row hq
    obtain ⟨n1, n2, n3, -⟩ := cod_ok hz hz1
    simp only [okCal, Bool.and_eq_true] at ok
    exact va_runSN (Ts := goodWs) (nL := mL y) ⟨hx, hb, hml, hown, hts⟩ M1 ⟨va_cnB (mA z) hts (good_in (wsM_in hz)) rfl rfl rfl (hKF.2 _ (nest_at (wAt_eq ok.1) rfl)) (hts _ n1) ⟨n2.1, n2.2, n3⟩ hr1, hts _ (good_at (wAt_eq ok.2) rfl), trivial⟩ (Pm_S hR hKF) rfl (by rw [List.length_map]; exact takeA_len h1) hl.1.1 (stk_mapS (take_drop rfl)) (hr2 _) hd hr3
  · cases he
theorem sim_special {n : Nat} (E : EnvM D cI cA p s m args meth c y) (M : MetP D cI cA base l n) (ih : IH D cI cA base p l e R s m args below meth c Q y vf hf n) {pc len : Nat} {ls st : List Value} {h : Hp} {A : Nat → Nat} {arr : Array Slot} {H : Heap} {locs : List Loc} {cells slots : Nat}  {j : Nat} 
    (hd : decode (mB y) pc = .ok (.invokespecial j, len)) (hok : okl (.invokespecial j) len = true) (he : stp y pc len ls st h (exec n y) (fun y a h' => exec n y 0 (ent y a) [] h') (.invokespecial j) = some (vf, hf)) (S : Stt D cI cA base s R y hf A h ls st arr H locs cells slots) (K : Fin D cI cA base p l e R s m args below meth c Q y vf hf A h cells slots) :
    W p l e R s m args below meth c H locs cells slots Q (F0 m pc arr (st.map (cvv A))) := by
  obtain ⟨hx, hb, hml, hown, hts, hKF, hnm⟩ := E
  obtain ⟨hR, hl, ho, hs, hloc, hce, hsl, hfr, hlo⟩ := S
  obtain rfl : len = 3 := by simpa [okl] using hok
  simp only [stp] at he
  split at he
  · rename_i z hq
    obtain ⟨r, t, rfl, he⟩ := r1_some he
    obtain ⟨h1, he⟩ := gd_some he
    simp only [Bool.and_eq_true, decide_eq_true_eq] at h1
    obtain ⟨x, ok, -⟩ := cal_row hq
    simp only [okCal] at ok
    refine W.objInit hx hb hown (hts _ (good_at (wAt_eq ok) rfl)) (hts _ (good_at (wAt_eq okObj_0) rfl)) (hts _ (good_at (wAt_eq okObj_1) rfl)) rfl (by rw [hml]; exact hl.1.1) (a := A r) (rest := t.map (cvv A)) rfl hd (by omega) (by
      have h1 := cat_sum (t.map (cvv A))
      rw [List.length_map] at h1
      show 2 * 0 + _ + 12 ≤ _
      omega) ?_
    exact ih _ _ t _ _ _ _ _ _ _ he ⟨hR, hl, ho, (okS_cons.mp hs).2, hloc, hce, hsl, hfr, hlo⟩ K
  · rename_i z hq
    obtain ⟨r, t, h1, h2, h3, he⟩ := onobj_some he
    have o1 := okS_cons.mp (h3 ▸ okS_drop (k := mA z) hs)
    refine cll_on M ih he ⟨hR, hl, ho, hs, hloc, hce, hsl, hfr, hlo⟩ K (okS_cons.mpr ⟨o1.1, okS_take hs⟩) o1.2 fun h2 v hz hz1 M1 hr1 hr2 hr3 => ?_
    obtain ⟨x, ok, -⟩ := cal_row hq
    obtain ⟨n1, n2, n3, -⟩ := cod_ok hz hz1
    simp only [okCal, Bool.and_eq_true, decide_eq_true_eq] at ok
    have ew : wsM z = Cond.code (mY z) (mB z) (mL z) none :: goodWs := by unfold wsM; rw [ok.2]
    exact va_runI (Ts := goodWs) (nL := mL y) ⟨hx, hb, hml, hown, hts⟩ M1 (cwI (mA z) hts (good_in (wsM_in hz)) ew rfl rfl (hts _ n1) (hts _ (good_at (wAt_eq ok.1.1.1) rfl)) (hts _ (good_at (wAt_eq ok.1.1.2) rfl)) ok.1.2 ⟨n2.1, n2.2, n3⟩ hr1) (Pm_S (a := .ref r :: takeA (mA z) st) hR hKF) rfl (by rw [List.length_map]; exact takeA_len (by assumption)) hl.1.1 (stk_map h1) (hr2 _) hd hr3
  · rename_i z hq
    obtain ⟨r, t, h1, h2, h3, he⟩ := onobj_some he
    have o1 := okS_cons.mp (h3 ▸ okS_drop (k := mA z) hs)
    refine cll_on M ih he ⟨hR, hl, ho, hs, hloc, hce, hsl, hfr, hlo⟩ K (okS_cons.mpr ⟨o1.1, okS_take hs⟩) o1.2 fun h2 v hz hz1 M1 hr1 hr2 hr3 => ?_
    obtain ⟨x, ok, -⟩ := cal_row hq
    obtain ⟨n1, n2, n3, -⟩ := cod_ok hz hz1
    simp only [okCal, Bool.and_eq_true, decide_eq_true_eq] at ok
    have ew : wsM z = Cond.code (mY z) (mB z) (mL z) none :: goodWs := by unfold wsM; rw [ok.2]
    exact va_runIN (Ts := goodWs) (nL := mL y) ⟨hx, hb, hml, hown, hts⟩ M1 ⟨va_cnB (mA z) hts (good_in (wsM_in hz)) ew rfl rfl (hKF.2 _ (nest_at (wAt_eq ok.1.1.1) rfl)) (hts _ n1) ⟨n2.1, n2.2, n3⟩ hr1, ok.1.2, hts _ (good_at (wAt_eq ok.1.1.2) rfl)⟩ (Pm_S (a := .ref r :: takeA (mA z) st) hR hKF) rfl (by rw [List.length_map]; exact takeA_len (by assumption)) hl.1.1 (stk_map h1) (hr2 _) hd hr3
  · rename_i z hq
    obtain ⟨r, t, h1, h2, h3, he⟩ := onobj_some he
    obtain ⟨ht, he⟩ := gd_some he
    have ht : tg h r = mO y + 1 := by simpa using ht
    have o1 := okS_cons.mp (h3 ▸ okS_drop (k := mA z) hs)
    refine cll_on M ih he ⟨hR, hl, ho, hs, hloc, hce, hsl, hfr, hlo⟩ K (okS_cons.mpr ⟨o1.1, okS_take hs⟩) o1.2 fun h2 v hz hz1 M1 hr1 hr2 hr3 => ?_
    obtain ⟨x, ok, hin⟩ := cal_row hq
    obtain ⟨n1, n2, n3, -⟩ := cod_ok hz hz1
    simp only [okCal, Bool.and_eq_true, decide_eq_true_eq] at ok
    have hsup := List.all_eq_true.mp supX_all _ hin
    simp only [bne_self_eq_false, Bool.false_or, List.any_eq_true, Bool.and_eq_true, beq_iff_eq] at hsup
    obtain ⟨q, hqm, ⟨g1, g2⟩, g3⟩ := hsup
    have hsu := List.all_eq_true.mp okSup_all q hqm
    simp only [okSup, Bool.and_eq_true, decide_eq_true_eq] at hsu
    rw [g1, g3] at hsu
    have hG : GoodIn goodWs (va_wsSU (on (mO y)) j (mY z) (wsM z)) := good_in (by
      intro w hw
      simp only [va_wsSU, List.cons_append, List.nil_append, List.mem_cons] at hw
      rcases hw with rfl | rfl | rfl | rfl | rfl | hw
      · exact good_at (wAt_eq ok.1.1) rfl
      · exact good_at (wAt_eq hsu.1.1.1) rfl
      · exact good_at (wAt_eq hsu.1.1.2) rfl
      · exact good_at (wAt_eq ok.1.2) rfl
      · exact n1
      · exact wsM_in hz w hw)
    exact va_runSU (Ts := goodWs) (nL := mL y) (hKF.1.1 (mO y) _ (cl_at ok.2)).2 ⟨hx, hb, hml, hown, hts⟩ M1 (va_cwSU (mA z) hts hG rfl rfl rfl ⟨hsu.1.2, n3⟩ hr1) (Pm_V hR hKF ht ok.2) rfl (by rw [List.length_map]; exact takeA_len (by assumption)) hl.1.1 (stk_map h1) (hr2 _) hd hr3
  · cases he
theorem sim_virtual {n : Nat} (E : EnvM D cI cA p s m args meth c y) (M : MetP D cI cA base l n) (ih : IH D cI cA base p l e R s m args below meth c Q y vf hf n) {pc len : Nat} {ls st : List Value} {h : Hp} {A : Nat → Nat} {arr : Array Slot} {H : Heap} {locs : List Loc} {cells slots : Nat}  {j : Nat} 
    (hd : decode (mB y) pc = .ok (.invokevirtual j, len)) (hok : okl (.invokevirtual j) len = true) (he : stp y pc len ls st h (exec n y) (fun y a h' => exec n y 0 (ent y a) [] h') (.invokevirtual j) = some (vf, hf)) (S : Stt D cI cA base s R y hf A h ls st arr H locs cells slots) (K : Fin D cI cA base p l e R s m args below meth c Q y vf hf A h cells slots) :
    W p l e R s m args below meth c H locs cells slots Q (F0 m pc arr (st.map (cvv A))) := by
  obtain ⟨hx, hb, hml, hown, hts, hKF, hnm⟩ := E
  obtain ⟨hR, hl, ho, hs, hloc, hce, hsl, hfr, hlo⟩ := S
  obtain rfl : len = 3 := by simpa [okl] using hok
  simp only [stp] at he
  split at he
  · rename_i z hq
    obtain ⟨r, t, h1, h2, h3, he⟩ := onobj_some he
    obtain ⟨ht, he⟩ := gd_some he
    have ht : tg h r = mO z + 1 := by simpa using ht
    have o1 := okS_cons.mp (h3 ▸ okS_drop (k := mA z) hs)
    refine cll_on M ih he ⟨hR, hl, ho, hs, hloc, hce, hsl, hfr, hlo⟩ K (okS_cons.mpr ⟨o1.1, okS_take hs⟩) o1.2 fun h2 v hz hz1 M1 hr1 hr2 hr3 => ?_
    obtain ⟨x, ok, -⟩ := cal_row hq
    obtain ⟨n1, n2, n3, -⟩ := cod_ok hz hz1
    simp only [okCal, Bool.and_eq_true, decide_eq_true_eq] at ok
    have ec : (mY z).cls = cn (mO z) := on_cn ok.2
    have hG : GoodIn goodWs (wsV (on (mO y)) j (cn (mO z)) (mY z) (wsM z)) := good_in (by
      intro w hw
      rw [← ec] at hw
      simp only [wsV, List.cons_append, List.nil_append, List.mem_cons] at hw
      rcases hw with rfl | rfl | rfl | rfl | hw
      · exact good_at (wAt_eq ok.1.1.1) rfl
      · exact good_at (wAt_eq ok.1.1.2) rfl
      · exact good_at (wAt_eq ok.1.2) rfl
      · exact n1
      · exact wsM_in hz w hw)
    exact va_runV (Ts := goodWs) (nL := mL y) ⟨hx, hb, hml, hown, hts⟩ M1 (cwV (mA z) hts hG rfl rfl rfl ⟨ec, n2.1, n2.2, n3⟩ hr1) (Pm_V hR hKF ht ok.2) rfl (by rw [List.length_map]; exact takeA_len (by assumption)) hl.1.1 (stk_map h1) (hr2 _) hd hr3
  · rename_i y1 hq
    obtain ⟨r, t, h1, h2, h3, he⟩ := onobj_some he
    have o1 := okS_cons.mp (h3 ▸ okS_drop (k := mA y1) hs)
    split at he
    · rename_i z hv
      refine cll_on M ih he ⟨hR, hl, ho, hs, hloc, hce, hsl, hfr, hlo⟩ K (okS_cons.mpr ⟨o1.1, okS_take hs⟩) o1.2 fun h2 v hz hz1 M1 hr1 hr2 hr3 => ?_
      obtain ⟨n1, n2, n3, -⟩ := cod_ok hz hz1
      unfold vir at hv
      obtain ⟨q0, hq0, he0⟩ := Option.map_eq_some_iff.mp hv
      have g1 := List.find?_some hq0
      have g2 := List.mem_of_find?_eq_some hq0
      rw [virX_all] at g2
      obtain ⟨q, g3, rfl⟩ := List.mem_map.mp g2
      have ok := List.all_eq_true.mp okVir_all q g3
      obtain ⟨o', j', t', z', y0, oc, w1, w2, w3⟩ := q
      simp only [Bool.and_eq_true, beq_iff_eq] at g1
      obtain ⟨⟨i1, i2⟩, i3⟩ := g1
      have he0 : z' = z := he0
      simp only [i1, i2, i3, he0] at ok
      simp only [okVir, Bool.and_eq_true, decide_eq_true_eq] at ok
      obtain ⟨⟨⟨⟨⟨⟨⟨⟨k1, k2⟩, k3⟩, k4⟩, k5⟩, k6⟩, k7⟩, k8⟩, k9⟩ := ok
      have hy0 : y0 ≠ 1 := fun e => by rw [e] at k7; rw [k8] at k7; revert k7; decide
      obtain ⟨-, m2, m3, -⟩ := cod_ok k6 hy0
      have ht : tg h r = (tg h r - 1) + 1 := by omega
      have hG : GoodIn goodWs (va_wsO (on (mO y)) j (cn (tg h r - 1)) (mY y0).cls ⟨on oc, (mY y0).name, (mY y0).desc⟩ (mY z) (wsM z)) := good_in (by
        intro w hw
        simp only [va_wsO, List.cons_append, List.nil_append, List.mem_cons] at hw
        rcases hw with rfl | rfl | rfl | rfl | rfl | rfl | hw
        · exact good_at (wAt_eq k1) rfl
        · exact good_at (wAt_eq k2) rfl
        · exact good_at (wAt_eq k4) rfl
        · exact good_at (wAt_eq k3) rfl
        · exact good_at (wAt_eq k5) rfl
        · exact n1
        · exact wsM_in hz w hw)
      exact va_runU (Ts := goodWs) (nL := mL y) ⟨hx, hb, hml, hown, hts⟩ M1 (va_cwO (mA y0) hts hG rfl rfl rfl (cod_in k6) ⟨m2.1, m2.2, m3⟩ hr1) (Pm_V hR hKF ht (by omega)) rfl (by rw [List.length_map]; rw [takeA_len (by assumption), cal5 hq, k7, k8]) hl.1.1 (stk_map h1) (hr2 _) hd hr3
    · cases he
  · cases he
end SIMC
end
section
/-! The machine over roles and the machine agree: every method of the tables. -/
theorem lg_sl_cons (v : Value) (l : List Value) : lg_sl (v :: l) = (if v.category = 2 then [.val v, .second] else [.val v]) ++ lg_sl l := rfl
theorem isL_iff {v : Value} : isL v = true ↔ v.category = 2 := by
  unfold isL
  exact beq_iff_eq
theorem lay_len (A : Nat → Nat) : ∀ a : List Value, (lg_sl (a.map (cvv A))).length = (lay a).length
  | [] => rfl
  | v :: l => by
    rw [List.map_cons, lg_sl_cons, lay, cvv_cat, List.length_append, lay_len A l]
    by_cases h : isL v = true
    · rw [if_pos h, if_pos (isL_iff.mp h)]
      simp only [List.length_cons, List.length_nil]
      omega
    · rw [if_neg h, if_neg (fun q => h (isL_iff.mpr q))]
      simp only [List.length_cons, List.length_nil]
      omega
theorem lay_sl (A : Nat → Nat) : ∀ (a : List Value) (k : Nat) (v : Value), (lay a)[k]? = some v → v ≠ .retAddr 0 → (lg_sl (a.map (cvv A)))[k]? = some (.val (cvv A v))
  | [], k, v, h, _ => by simp [lay] at h
  | x :: l, k, v, h, hv => by
    rw [List.map_cons, lg_sl_cons, cvv_cat]
    rw [lay] at h
    by_cases hx : isL x = true
    · rw [if_pos hx] at h
      rw [if_pos (isL_iff.mp hx)]
      cases k with
      | zero => cases h; rfl
      | succ k =>
        cases k with
        | zero => cases h; exact absurd rfl hv
        | succ k => exact lay_sl A l k v h hv
    · rw [if_neg hx] at h
      rw [if_neg (fun q => hx (isL_iff.mpr q))]
      cases k with
      | zero => cases h; rfl
      | succ k => exact lay_sl A l k v h hv
theorem lay_mem : ∀ (a : List Value) (v : Value), v ∈ lay a → v ∈ a ∨ v = .retAddr 0
  | [], v, h => by cases h
  | x :: l, v, h => by
    rw [lay] at h
    by_cases hx : isL x = true
    · rw [if_pos hx] at h
      rcases List.mem_cons.mp h with h | h
      · exact Or.inl (h ▸ List.mem_cons_self)
      · rcases List.mem_cons.mp h with h | h
        · exact Or.inr h
        · exact (lay_mem l v h).imp (List.mem_cons_of_mem _) id
    · rw [if_neg hx] at h
      rcases List.mem_cons.mp h with h | h
      · exact Or.inl (h ▸ List.mem_cons_self)
      · exact (lay_mem l v h).imp (List.mem_cons_of_mem _) id
theorem ent_mem {z : Nat} {a : List Value} {v : Value} (h : v ∈ ent z a) : v ∈ a ∨ v = .retAddr 0 := by
  rcases List.mem_append.mp h with h | h
  · exact lay_mem a v h
  · exact Or.inr (List.eq_of_mem_replicate h)
theorem ent_len {z : Nat} {a : List Value} (h : (lay a).length ≤ mL z) : (ent z a).length = mL z := by
  unfold ent
  rw [List.length_append, List.length_replicate]
  omega
theorem lsR_ent {z : Nat} {a : List Value} (A : Nat → Nat) (h : (lay a).length ≤ mL z) (hn : nol z = true → ∀ w ∈ a, isL w = false) : lsR z A (ent z a) ((lg_sl (a.map (cvv A)) ++ List.replicate (mL z - (lg_sl (a.map (cvv A))).length) Slot.unset).toArray) := by
  have h1 := lv_entry (a.map (cvv A)) (n := mL z) (by rw [lay_len]; exact h)
  refine ⟨⟨h1.1, h1.2.1, fun q hq => ?_⟩, ent_len h, fun hz v hv => ?_⟩
  · obtain ⟨q1, q2, q3⟩ := mem_held.mp hq
    have hk : q.1 < (lay a).length := by
      apply Nat.lt_of_not_le
      intro hle
      apply q2
      unfold gt ent
      rw [List.getElem?_append_right hle]
      cases hr : (List.replicate (mL z - (lay a).length) (Value.retAddr 0))[q.1 - (lay a).length]? with
      | none => rfl
      | some w =>
        have := List.mem_of_getElem? hr
        rw [List.eq_of_mem_replicate this]
        rfl
    have e : gt (ent z a) q.1 = (lay a)[q.1] := by
      unfold gt ent
      rw [List.getElem?_append_left hk, List.getElem?_eq_getElem hk]
      rfl
    have h2 := lay_sl A a q.1 (lay a)[q.1] (List.getElem?_eq_getElem hk) (by rw [← e]; exact q2)
    rw [q3, e, List.getElem?_toArray, List.getElem?_append_left (by rw [lay_len]; exact hk), h2]
  · rcases ent_mem hv with h2 | h2
    · exact hn hz v h2
    · rw [h2]; rfl
section MAIN
variable {D : va_G} {cI : ClassId} {cA : Nat → ClassId} {base : Nat} {l : Launch}
theorem met_of {n : Nat} (hI : ∀ (p : Program) (e : Env) (R : Room) (s : State) (m : MethodId) (args : Array Value) (below : List Frame) (meth : Method) (c : Code) (Q : State → Prop) (y : Nat) (vf : Value) (hf : Hp), EnvM D cI cA p s m args meth c y → IH D cI cA base p l e R s m args below meth c Q y vf hf n) : MetP D cI cA base l n := by
  intro z a h h' v A hz hz1 he hoa hnl hlay
  obtain ⟨-, -, -, hpl⟩ := cod_ok hz hz1
  refine va_MetF hpl rfl fun p e s m args below meth c s₁ B hml hP => ?_
  obtain ⟨hargs, hR, hKF⟩ := hP
  have hws := atoms_spec (ws := wsM z) B.pre
  have E : EnvM D cI cA p s m args meth c z := ⟨B.exec, B.bytes, hml, findClass_of_methodNamed B.named, fun w hw => hws w (List.mem_cons_of_mem _ hw), hKF, (name_of_methodNamed B.named B.method).1⟩
  subst hargs
  have mo := exec_mono _ _ _ _ _ _ _ _ he
  rw [lg_entry_eq]
  refine hI p e _ s m _ below meth c _ z v h' E 0 (ent z a) [] h A _ s.heap [] 0 0 he ⟨hR, lsR_ent A hlay hnl, fun w hw => ?_, fun _ hw => by (cases hw), fun _ hq => by (cases hq), ?_, ?_, Nat.le_refl _, Nat.le_refl _⟩ ?_
  · rcases ent_mem hw with h2 | h2
    · exact hoa w h2
    · rw [h2]; exact trivial
  · show 0 + ck h' ≤ (ck h' - ck h) + ck h
    omega
  · show 0 + cu h' ≤ (cu h' - cu h) + cu h
    omega
  · intro A' H' locs' cells' slots' pc' arr' hP' hR' hov hlo hc hs hret
    obtain rfl : cells' = ck h' - ck h := by omega
    obtain rfl : slots' = cu h' - cu h := by omega
    have fin : ∀ (t : State), t.heap = H' → s.WarmedH t.vm → Rep D cI cA base A' h' t t.heap := fun t ht hW => by rw [ht]; exact Rep.moved hW.alike hR'
    unfold retI at hret
    unfold rst
    rcases hret with ⟨h1, hd⟩ | ⟨x, rfl, hd, h1 | ⟨h1, h2⟩⟩ | ⟨x, rfl, hd, h1⟩ | ⟨h1, hd, h2⟩
    · rw [if_pos h1]
      exact W.vret B.exec B.bytes (B.returns.trans h1) (fun t ht hW => ⟨A', hP', fin t ht hW, hov, by unfold rvo; rw [if_pos h1]⟩) hlo hd B.notSynchronized
    · rw [if_neg (by rw [h1]; exact fun q => by cases q)]
      exact W.iret B.exec B.bytes (B.returns.trans h1) (fun t ht hW => ⟨A', hP', fin t ht hW, hov, by unfold rvo; rw [if_neg (by rw [h1]; exact fun q => by cases q)]; rfl⟩) hlo hd B.notSynchronized
    · rw [if_neg (by rw [h1]; exact fun q => by cases q)]
      exact W.zret B.exec B.bytes (B.returns.trans h1) (fit_int (Or.inr ⟨rfl, h2⟩)).1 (fun t ht hW => ⟨A', hP', fin t ht hW, hov, by unfold rvo; rw [if_neg (by rw [h1]; exact fun q => by cases q)]; rfl⟩) hlo hd B.notSynchronized
    · rw [if_neg (by rw [h1]; exact fun q => by cases q)]
      exact W.lret B.exec B.bytes (B.returns.trans h1) (fun t ht hW => ⟨A', hP', fin t ht hW, hov, by unfold rvo; rw [if_neg (by rw [h1]; exact fun q => by cases q)]; rfl⟩) hlo hd B.notSynchronized
    · have hne : ¬ mR z = none := by
        rcases h2 with ⟨n, h2⟩ | ⟨n, h2⟩ <;> rw [h2] <;> exact fun q => by cases q
      rw [if_neg hne]
      have hv : cvv A' v = .null ∨ ∃ a, cvv A' v = .ref a := by
        rcases isR_some h1 with rfl | ⟨x, rfl⟩
        · exact Or.inl rfl
        · exact Or.inr ⟨_, rfl⟩
      have hq : ∀ t : State, t.heap = H' → s.WarmedH t.vm → Qm D cI cA base z A h h' v (a.map (cvv A)).toArray s (.returned (some (cvv A' v))) t := fun t ht hW => ⟨A', hP', fin t ht hW, hov, by unfold rvo; rw [if_neg hne]⟩
      rcases h2 with ⟨n, h2⟩ | ⟨n, h2⟩
      · exact W.aret B.exec B.bytes (B.returns.trans h2) (Or.inl ⟨n, rfl⟩) hv hq hlo hd B.notSynchronized
      · exact W.aret B.exec B.bytes (B.returns.trans h2) (Or.inr ⟨n, rfl⟩) hv hq hlo hd B.notSynchronized
theorem sim_all (D : va_G) (cI : ClassId) (cA : Nat → ClassId) (base : Nat) (l : Launch) : ∀ (n : Nat) (p : Program) (e : Env) (R : Room) (s : State) (m : MethodId) (args : Array Value) (below : List Frame) (meth : Method) (c : Code) (Q : State → Prop) (y : Nat) (vf : Value) (hf : Hp), EnvM D cI cA p s m args meth c y → IH D cI cA base p l e R s m args below meth c Q y vf hf n := by
  intro n
  induction n with
  | zero =>
    intro p e R s m args below meth c Q y vf hf E pc ls st h A arr H locs cells slots he
    simp [exec] at he
  | succ n ih =>
    intro p e R s m args below meth c Q y vf hf E pc ls st h A arr H locs cells slots he S K
    have M : MetP D cI cA base l n := met_of ih
    have I1 := ih p e R s m args below meth c Q y vf hf E
    rw [exec] at he
    split at he
    · rename_i i len hd
      obtain ⟨hok, he⟩ := gd_some he
      by_cases hp : plainI i = true
      · exact sim_plain E I1 hd hok he S K hp
      · cases i <;> first
          | exact absurd rfl hp
          | exact sim_getfield E I1 hd hok he S K
          | exact sim_putfield E I1 hd hok he S K
          | exact sim_getstatic E I1 hd hok he S K
          | exact sim_iaload E I1 hd hok he S K
          | exact sim_iastore E I1 hd hok he S K
          | exact sim_aaload E I1 hd hok he S K
          | exact sim_aastore E I1 hd hok he S K
          | exact sim_arraylength E I1 hd hok he S K
          | exact sim_new E I1 hd hok he S K
          | exact sim_newarray E I1 hd hok he S K
          | exact sim_anewarray E I1 hd hok he S K
          | exact sim_ldc E I1 hd hok he S K
          | exact sim_ldc_w E I1 hd hok he S K
          | exact sim_ldc2_w E I1 hd hok he S K
          | exact sim_static E M I1 hd hok he S K
          | exact sim_special E M I1 hd hok he S K
          | exact sim_virtual E M I1 hd hok he S K
    · cases he
end MAIN
end
section
/-! Runs: from a place the method comes to its end, and then P. -/
theorem gd_t {r : Rs} : gd true r = r := rfl
/-- more steps do no harm -/
theorem stp_le {y pc len : Nat} {ls st : List Value} {h : Hp} {go go2 : Go} {call call2 : Nat → List Value → Hp → Rs} {i : Instr} {r : Value × Hp}
    (hg : ∀ pc' ls' st' h1 r, go pc' ls' st' h1 = some r → go2 pc' ls' st' h1 = some r) (hc : ∀ z a h1 r, call z a h1 = some r → call2 z a h1 = some r) (he : stp y pc len ls st h go call i = some r) : stp y pc len ls st h go2 call2 i = some r := by
  have hgd : ∀ (b : Bool) pc' ls' st' h1, gd b (go pc' ls' st' h1) = some r → gd b (go2 pc' ls' st' h1) = some r := by
    intro b pc1 ls1 st1 h1 q
    obtain ⟨rfl, q⟩ := gd_some q
    exact hg _ _ _ _ _ q
  have hj : ∀ off ls' st' h1, jmp pc off (fun t => go t ls' st' h1) = some r → jmp pc off (fun t => go2 t ls' st' h1) = some r := fun off ls1 st1 h1 q => hgd _ _ _ _ _ q
  have hbr : ∀ c x z (t1 t2 : Nat) l1 s1 h1 l2 s2 h2, brn c x z (go t1 l1 s1 h1) (go t2 l2 s2 h2) = some r → brn c x z (go2 t1 l1 s1 h1) (go2 t2 l2 s2 h2) = some r := by
    intro c x z t1 t2 l1 s1 h1 l2 s2 h2 q
    cases c <;> simp only [brn] at q ⊢ <;> split at q <;> rename_i hcc <;> (first | rw [if_pos hcc] | rw [if_neg hcc]) <;> exact hg _ _ _ _ _ q
  have hcll : ∀ z lz sz a, cll y pc z lz sz h go call a = some r → cll y pc z lz sz h go2 call2 a = some r := by
    intro z lz sz a q
    unfold cll at q ⊢
    obtain ⟨q1, q⟩ := gd_some q
    split at q
    · rename_i w h2 heq
      rw [hc _ _ _ _ heq, q1]
      exact hg _ _ _ _ _ q
    · cases q
  cases i <;> simp only [stp] at he ⊢
  case iconst n =>
    exact hg _ _ _ _ _ he
  case bipush n =>
    exact hg _ _ _ _ _ he
  case sipush n =>
    exact hg _ _ _ _ _ he
  case lconst n =>
    exact hg _ _ _ _ _ he
  case aconst_null =>
    exact hg _ _ _ _ _ he
  case ldc j =>
    split at he
    · exact hg _ _ _ _ _ he
    · cases he
  case ldc_w j =>
    split at he
    · exact hg _ _ _ _ _ he
    · cases he
  case ldc2_w j =>
    cases he
  case iload k =>
    exact hgd _ _ _ _ _ he
  case iload_n k =>
    exact hgd _ _ _ _ _ he
  case lload k =>
    exact hgd _ _ _ _ _ he
  case lload_n k =>
    exact hgd _ _ _ _ _ he
  case aload k =>
    exact hgd _ _ _ _ _ he
  case aload_n k =>
    exact hgd _ _ _ _ _ he
  case istore k =>
    obtain ⟨x, t, rfl, he⟩ := i1_some he
    exact hgd _ _ _ _ _ he
  case istore_n k =>
    obtain ⟨x, t, rfl, he⟩ := i1_some he
    exact hgd _ _ _ _ _ he
  case astore k =>
    obtain ⟨x, t, rfl, he⟩ := v1_some he
    exact hgd _ _ _ _ _ he
  case astore_n k =>
    obtain ⟨x, t, rfl, he⟩ := v1_some he
    exact hgd _ _ _ _ _ he
  case lstore k =>
    obtain ⟨x, t, rfl, he⟩ := l1_some he
    exact hgd _ _ _ _ _ he
  case lstore_n k =>
    obtain ⟨x, t, rfl, he⟩ := l1_some he
    exact hgd _ _ _ _ _ he
  case iinc k j =>
    split at he
    · exact hgd _ _ _ _ _ he
    · cases he
  case iadd =>
    obtain ⟨x, z, t, rfl, he⟩ := i2_some he
    exact hg _ _ _ _ _ he
  case isub =>
    obtain ⟨x, z, t, rfl, he⟩ := i2_some he
    exact hg _ _ _ _ _ he
  case imul =>
    obtain ⟨x, z, t, rfl, he⟩ := i2_some he
    exact hg _ _ _ _ _ he
  case ishl =>
    obtain ⟨x, z, t, rfl, he⟩ := i2_some he
    exact hg _ _ _ _ _ he
  case ishr =>
    obtain ⟨x, z, t, rfl, he⟩ := i2_some he
    exact hg _ _ _ _ _ he
  case iushr =>
    obtain ⟨x, z, t, rfl, he⟩ := i2_some he
    exact hg _ _ _ _ _ he
  case iand =>
    obtain ⟨x, z, t, rfl, he⟩ := i2_some he
    exact hg _ _ _ _ _ he
  case ior =>
    obtain ⟨x, z, t, rfl, he⟩ := i2_some he
    exact hg _ _ _ _ _ he
  case ixor =>
    obtain ⟨x, z, t, rfl, he⟩ := i2_some he
    exact hg _ _ _ _ _ he
  case idiv =>
    obtain ⟨x, z, t, rfl, he⟩ := i2_some he
    exact hgd _ _ _ _ _ he
  case irem =>
    obtain ⟨x, z, t, rfl, he⟩ := i2_some he
    exact hgd _ _ _ _ _ he
  case ineg =>
    obtain ⟨x, t, rfl, he⟩ := i1_some he
    exact hg _ _ _ _ _ he
  case i2l =>
    obtain ⟨x, t, rfl, he⟩ := i1_some he
    exact hg _ _ _ _ _ he
  case i2b =>
    obtain ⟨x, t, rfl, he⟩ := i1_some he
    exact hg _ _ _ _ _ he
  case i2s =>
    obtain ⟨x, t, rfl, he⟩ := i1_some he
    exact hg _ _ _ _ _ he
  case ldiv =>
    obtain ⟨x, z, t, rfl, he⟩ := l2_some he
    exact hgd _ _ _ _ _ he
  case lrem =>
    obtain ⟨x, z, t, rfl, he⟩ := l2_some he
    exact hgd _ _ _ _ _ he
  case lcmp =>
    obtain ⟨x, z, t, rfl, he⟩ := l2_some he
    exact hg _ _ _ _ _ he
  case pop =>
    obtain ⟨x, t, rfl, he⟩ := v1_some he
    exact hgd _ _ _ _ _ he
  case dup =>
    obtain ⟨x, t, rfl, he⟩ := v1_some he
    exact hgd _ _ _ _ _ he
  case dup2 =>
    obtain ⟨x, t, rfl, he⟩ := v1_some he
    obtain ⟨x2, t2, rfl, he⟩ := v1_some (st := t) he
    exact hgd _ _ _ _ _ he
  case goto off =>
    exact hj _ _ _ _ he
  case ifCond cc off =>
    obtain ⟨x, t, rfl, he⟩ := i1_some he
    obtain ⟨q1, he⟩ := gd_some he
    show gd _ _ = _
    rw [q1]
    exact hbr _ _ _ _ _ _ _ _ _ _ _ he
  case if_icmp cc off =>
    obtain ⟨x, z, t, rfl, he⟩ := i2_some he
    obtain ⟨q1, he⟩ := gd_some he
    show gd _ _ = _
    rw [q1]
    exact hbr _ _ _ _ _ _ _ _ _ _ _ he
  case ifnull off =>
    split at he
    · exact hj _ _ _ _ he
    · exact hg _ _ _ _ _ he
    · cases he
  case ifnonnull off =>
    split at he
    · exact hg _ _ _ _ _ he
    · exact hj _ _ _ _ he
    · cases he
  case tableswitch d lo hi offs =>
    obtain ⟨x, t, rfl, he⟩ := i1_some he
    show (if _ then _ else _) = _
    change (if _ then _ else _) = some r at he
    split at he
    · rename_i hcc
      rw [if_pos hcc]
      exact hj _ _ _ _ he
    · rename_i hcc
      rw [if_neg hcc]
      split at he
      · exact hj _ _ _ _ he
      · cases he
  case lookupswitch d ps =>
    obtain ⟨x, t, rfl, he⟩ := i1_some he
    obtain ⟨q1, he⟩ := gd_some he
    show gd _ _ = _
    rw [q1]
    exact hj _ _ _ _ he
  case getfield j =>
    split at he
    · obtain ⟨x, t, rfl, he⟩ := r1_some he
      obtain ⟨q1, he⟩ := gd_some he
      show gd _ _ = _
      rw [q1]
      show (if _ then _ else _) = _
      split at he
      · rename_i hcc
        rw [if_pos hcc]
        exact hgd _ _ _ _ _ he
      · rename_i hcc
        rw [if_neg hcc]
        exact hg _ _ _ _ _ he
    · cases he
  case putfield j =>
    split at he
    · obtain ⟨q1, he⟩ := gd_some he
      rw [q1, gd_t]
      split at he
      · exact hgd _ _ _ _ _ he
      · obtain ⟨q2, he⟩ := gd_some he
        show gd _ _ = _
        rw [q2]
        show (if _ then _ else _) = _
        split at he
        · rename_i hcc
          rw [if_pos hcc]
          exact hg _ _ _ _ _ he
        · rename_i hcc
          rw [if_neg hcc]
          exact hgd _ _ _ _ _ he
      · cases he
    · cases he
  case getstatic j =>
    split at he
    · exact hgd _ _ _ _ _ he
    · cases he
  case iaload =>
    obtain ⟨x, i, t, rfl, he⟩ := ri_some he
    exact hgd _ _ _ _ _ he
  case iastore =>
    obtain ⟨x, i, z, t, rfl, he⟩ := rii_some he
    exact hgd _ _ _ _ _ he
  case aaload =>
    obtain ⟨x, i, t, rfl, he⟩ := ri_some he
    exact hgd _ _ _ _ _ he
  case aastore =>
    obtain ⟨x, i, z, t, rfl, he⟩ := rir_some he
    obtain ⟨q2, he⟩ := gd_some he
    show gd _ _ = _
    rw [q2]
    show (if _ then _ else _) = _
    split at he
    · rename_i hcc
      rw [if_pos hcc]
      exact hg _ _ _ _ _ he
    · rename_i hcc
      rw [if_neg hcc]
      exact hgd _ _ _ _ _ he
  case arraylength =>
    obtain ⟨x, t, rfl, he⟩ := r1_some he
    exact hgd _ _ _ _ _ he
  case new j =>
    split at he
    · exact hgd _ _ _ _ _ he
    · cases he
  case newarray j =>
    obtain ⟨x, t, rfl, he⟩ := i1_some he
    exact hgd _ _ _ _ _ he
  case anewarray j =>
    split at he
    · obtain ⟨x, t, rfl, he⟩ := i1_some he
      exact hgd _ _ _ _ _ he
    · cases he
  case invokestatic j =>
    split at he
    · obtain ⟨q1, he⟩ := gd_some he
      rw [q1]
      exact hcll _ _ _ _ he
    · obtain ⟨q1, he⟩ := gd_some he
      rw [q1]
      exact hcll _ _ _ _ he
    · cases he
  case invokespecial j =>
    have hon : ∀ z sz (f f2 : Nat → List Value → List Value → Rs), (∀ r0 a s, f r0 a s = some r → f2 r0 a s = some r) → onobj z sz f = some r → onobj z sz f2 = some r := by
      intro z sz f f2 hf q
      obtain ⟨r0, t, e, q⟩ := r1_some q
      obtain ⟨q1, q⟩ := gd_some q
      unfold onobj
      rw [e]
      show gd _ _ = _
      rw [q1]
      exact hf _ _ _ q
    split at he
    · obtain ⟨x, t, rfl, he⟩ := r1_some he
      exact hgd _ _ _ _ _ he
    · exact hon _ _ _ _ (fun _ _ _ q => hcll _ _ _ _ q) he
    · exact hon _ _ _ _ (fun _ _ _ q => hcll _ _ _ _ q) he
    · refine hon _ _ _ _ (fun _ _ _ q => ?_) he
      obtain ⟨q1, q⟩ := gd_some q
      rw [q1]
      exact hcll _ _ _ _ q
    · cases he
  case invokevirtual j =>
    have hon : ∀ z sz (f f2 : Nat → List Value → List Value → Rs), (∀ r0 a s, f r0 a s = some r → f2 r0 a s = some r) → onobj z sz f = some r → onobj z sz f2 = some r := by
      intro z sz f f2 hf q
      obtain ⟨r0, t, e, q⟩ := r1_some q
      obtain ⟨q1, q⟩ := gd_some q
      unfold onobj
      rw [e]
      show gd _ _ = _
      rw [q1]
      exact hf _ _ _ q
    split at he
    · refine hon _ _ _ _ (fun _ _ _ q => ?_) he
      obtain ⟨q1, q⟩ := gd_some q
      rw [q1]
      exact hcll _ _ _ _ q
    · refine hon _ _ _ _ (fun _ _ _ q => ?_) he
      split at q
      · exact hcll _ _ _ _ q
      · cases q
    · cases he
  case ireturn =>
    exact he
  case lreturn =>
    exact he
  case areturn =>
    exact he
  case return_ =>
    exact he
  all_goals (cases he)
theorem exec_le : ∀ (n k y pc : Nat) (ls st : List Value) (h : Hp) (r : Value × Hp), n ≤ k → exec n y pc ls st h = some r → exec k y pc ls st h = some r := by
  intro n
  induction n with
  | zero => intro k y pc ls st h r _ he; simp [exec] at he
  | succ n ih =>
    intro k y pc ls st h r hk he
    cases k with
    | zero => omega
    | succ k =>
      rw [exec] at he ⊢
      split at he
      · obtain ⟨q1, he⟩ := gd_some he
        rw [q1]
        exact stp_le (fun _ _ _ _ _ q => ih k _ _ _ _ _ _ (by omega) q) (fun _ _ _ _ q => ih k _ _ _ _ _ _ (by omega) q) he
      · cases he
def R (m pc : Nat) (ls st : List Value) (h : Hp) (P : Value → Hp → Prop) : Prop := ∃ (n : Nat) (v : Value) (h' : Hp), exec n m pc ls st h = some (v, h') ∧ P v h'
theorem R.imp {m pc : Nat} {ls st : List Value} {h : Hp} {P Q : Value → Hp → Prop} (hr : R m pc ls st h P) (hq : ∀ v h', P v h' → Q v h') : R m pc ls st h Q := by
  obtain ⟨n, v, h', e, p⟩ := hr
  exact ⟨n, v, h', e, hq _ _ p⟩
def Dd (m pc : Nat) (i : Instr) (len : Nat) : Prop := decode (mB m) pc = .ok (i, len) ∧ okl i len = true
def Dall (m : Nat) (l : List (Nat × Instr × Nat)) : Bool := l.all (fun q => decide (decode (mB m) q.1 = .ok (q.2.1, q.2.2)) && okl q.2.1 q.2.2)
theorem Dat {m : Nat} {l : List (Nat × Instr × Nat)} (h : Dall m l = true) (k : Nat) {pc len : Nat} {i : Instr} (hq : l[k]? = some (pc, i, len)) : Dd m pc i len := by
  have h1 := List.all_eq_true.mp h _ (List.mem_of_getElem? hq)
  rw [Bool.and_eq_true, decide_eq_true_eq] at h1
  exact h1
theorem R_go {m pc len pc' : Nat} {ls st ls' st' : List Value} {h h' : Hp} {i : Instr} {P : Value → Hp → Prop} (hd : Dd m pc i len) (he : ∀ go call, stp m pc len ls st h go call i = go pc' ls' st' h') (k : R m pc' ls' st' h' P) : R m pc ls st h P := by
  obtain ⟨n, v, h2, e, p⟩ := k
  refine ⟨n + 1, v, h2, ?_, p⟩
  rw [exec, hd.1]
  show gd _ _ = _
  rw [hd.2, he]
  exact e
theorem R_end {m pc len : Nat} {ls st : List Value} {h h' : Hp} {v : Value} {i : Instr} {P : Value → Hp → Prop} (hd : Dd m pc i len) (he : ∀ go call, stp m pc len ls st h go call i = some (v, h')) (k : P v h') : R m pc ls st h P := by
  refine ⟨1, v, h', ?_, k⟩
  rw [exec, hd.1]
  show gd _ _ = _
  rw [hd.2, he]
  rfl
def okg (m y : Nat) (ls s a : List Value) : Bool := okc m y && decide (s.length ≤ 4) && (!nol y || a.all (fun v => !isL v)) && decide ((lay a).length ≤ mL y) && (!mv y || (mv m && ng ls && ng s))
theorem R_cll {m pc len y : Nat} {ls st s a e : List Value} {h : Hp} {i : Instr} {P : Value → Hp → Prop} (hd : Dd m pc i len) (he : ∀ go call, stp m pc len ls st h go call i = cll m pc y ls s h go call a) (hg : okg m y ls s a = true) (hent : ent y a = e)
    (k : R y 0 e [] h (fun v h2 => R m (pc + 3) ls (back y v s) h2 P)) : R m pc ls st h P := by
  obtain ⟨n, v, h2, e1, n2, v2, h3, e2, p⟩ := k
  refine ⟨n + n2 + 1, v2, h3, ?_, p⟩
  rw [exec, hd.1]
  show gd _ _ = _
  rw [hd.2, he]
  show gd true _ = _
  unfold gd cll
  rw [if_pos rfl]
  have hg2 : (okc m y && decide (s.length ≤ 4) && (!nol y || a.all (fun v => !isL v)) && decide ((lay a).length ≤ mL y) && (!mv y || (mv m && ng ls && ng s))) = true := hg
  rw [hg2]
  show (match exec (n + n2) y 0 (ent y a) [] h with | some (v, h') => exec (n + n2) m (pc + 3) ls (back y v s) h' | none => none) = _
  rw [hent, exec_le n (n + n2) _ _ _ _ _ _ (by omega) e1]
  exact exec_le n2 (n + n2) _ _ _ _ _ _ (by omega) e2
/-! numbers -/
def J (z : Int) : Int64 := Int64.ofInt z
abbrev rng (z : Int) : Prop := -2147483648 ≤ z ∧ z < 2147483648
def wr (z : Int) : Int := (I z).toInt
theorem I_toInt {z : Int} (h : rng z) : (I z).toInt = z := Int32.toInt_ofInt_of_le h.1 h.2
theorem wr_eq {z : Int} (h : rng z) : wr z = z := I_toInt h
theorem wr_rng (z : Int) : rng (wr z) := ⟨Int32.le_toInt _, Int32.toInt_lt _⟩
theorem I_wr (z : Int) : I (wr z) = I z := by unfold wr I; exact Int32.ofInt_toInt _
theorem I_add (a b : Int) : I a + I b = I (a + b) := (Int32.ofInt_add a b).symm
theorem I_sub (a b : Int) : I a - I b = I (a - b) := (Int32.ofInt_sub a b).symm
theorem I_mul (a b : Int) : I a * I b = I (a * b) := (Int32.ofInt_mul a b).symm
theorem I_neg (a : Int) : -I a = I (-a) := (Int32.ofInt_neg a).symm
theorem I_inj {a b : Int} (ha : rng a) (hb : rng b) : I a = I b ↔ a = b := by
  constructor
  · intro h
    have := congrArg Int32.toInt h
    rwa [I_toInt ha, I_toInt hb] at this
  · intro h; rw [h]
theorem I_lt {a b : Int} (ha : rng a) (hb : rng b) : I a < I b ↔ a < b := by
  rw [Int32.lt_iff_toInt_lt, I_toInt ha, I_toInt hb]
theorem I_div {a b : Int} (ha : 0 ≤ a ∧ a < 2147483648) (hb : 0 < b ∧ b < 2147483648) : I a / I b = I (a / b) := by
  apply Int32.toInt_inj.mp
  have h1 : 0 ≤ a / b := Int.ediv_nonneg ha.1 (by omega)
  have h2 : a / b ≤ a := Int.ediv_le_self _ ha.1
  rw [Int32.toInt_div, I_toInt ⟨by omega, ha.2⟩, I_toInt ⟨by omega, hb.2⟩, I_toInt ⟨by omega, by omega⟩, Int.tdiv_eq_ediv_of_nonneg ha.1]
  exact Int.bmod_eq_of_le (by omega) (by omega)
theorem I_mod {a b : Int} (ha : 0 ≤ a ∧ a < 2147483648) (hb : 0 < b ∧ b < 2147483648) : I a % I b = I (a % b) := by
  apply Int32.toInt_inj.mp
  have h1 : 0 ≤ a % b := Int.emod_nonneg _ (by omega)
  have h2 : a % b < b := Int.emod_lt_of_pos _ hb.1
  rw [Int32.toInt_mod, I_toInt ⟨by omega, ha.2⟩, I_toInt ⟨by omega, hb.2⟩, I_toInt ⟨by omega, by omega⟩, Int.tmod_eq_emod_of_nonneg ha.1]
def band (a b : Int) : Int := (I a &&& I b).toInt
def bor (a b : Int) : Int := (I a ||| I b).toInt
def bxor (a b : Int) : Int := (I a ^^^ I b).toInt
def shl (a k : Int) : Int := (I a <<< (I k &&& 31)).toInt
def shr (a k : Int) : Int := (I a >>> (I k &&& 31)).toInt
def ushr (a k : Int) : Int := (((I a).toUInt32 >>> ((I k).toUInt32 &&& Int32.toUInt32 31)).toInt32).toInt
def b8 (a : Int) : Int := ((I a).toInt8.toInt32).toInt
def b16 (a : Int) : Int := ((I a).toInt16.toInt32).toInt
theorem I_of (x : Int32) : I x.toInt = x := Int32.ofInt_toInt _

theorem R_iconst {m pc : Nat} {ls st : List Value} {h : Hp} {P : Value → Hp → Prop} {n : Int} (hd : Dd m pc (.iconst n) 1) (k : R m (pc + 1) ls (.int (I n) :: st) h P) : R m pc ls (st) h P := R_go hd (fun _ _ => rfl) k
theorem R_bipush {m pc : Nat} {ls st : List Value} {h : Hp} {P : Value → Hp → Prop} {n a : Int} (hd : Dd m pc (.bipush n) 2) (hn : (Int8.ofInt n).toInt32 = I a) (k : R m (pc + 2) ls (.int (I a) :: st) h P) : R m pc ls (st) h P := by
  rw [← hn] at k
  exact R_go hd (fun _ _ => rfl) k
theorem R_sipush {m pc : Nat} {ls st : List Value} {h : Hp} {P : Value → Hp → Prop} {n a : Int} (hd : Dd m pc (.sipush n) 3) (hn : (Int16.ofInt n).toInt32 = I a) (k : R m (pc + 3) ls (.int (I a) :: st) h P) : R m pc ls (st) h P := by
  rw [← hn] at k
  exact R_go hd (fun _ _ => rfl) k
theorem R_lconst {m pc : Nat} {ls st : List Value} {h : Hp} {P : Value → Hp → Prop} {n : _root_.Fin 2} (hd : Dd m pc (.lconst n) 1) (k : R m (pc + 1) ls (.long (J (n : Nat)) :: st) h P) : R m pc ls (st) h P := R_go hd (fun _ _ => rfl) k
theorem R_null {m pc : Nat} {ls st : List Value} {h : Hp} {P : Value → Hp → Prop} (hd : Dd m pc (.aconst_null) 1) (k : R m (pc + 1) ls (.null :: st) h P) : R m pc ls (st) h P := R_go hd (fun _ _ => rfl) k
theorem R_ldc {m pc : Nat} {ls st : List Value} {h : Hp} {P : Value → Hp → Prop} {j : Nat} {a : Int} (hd : Dd m pc (.ldc j) 2) (hv : ldct (mO m) j = some (I a)) (k : R m (pc + 2) ls (.int (I a) :: st) h P) : R m pc ls (st) h P := R_go hd (fun _ _ => by simp only [stp, hv]) k
theorem R_ldc_w {m pc : Nat} {ls st : List Value} {h : Hp} {P : Value → Hp → Prop} {j : Nat} {a : Int} (hd : Dd m pc (.ldc_w j) 3) (hv : ldct (mO m) j = some (I a)) (k : R m (pc + 3) ls (.int (I a) :: st) h P) : R m pc ls (st) h P := R_go hd (fun _ _ => by simp only [stp, hv]) k
theorem R_ldc2_w {m pc : Nat} {ls st : List Value} {h : Hp} {P : Value → Hp → Prop} {j : Nat} {a : Int} (hd : Dd m pc (.ldc2_w j) 3) (hv : ld2t (mO m) j = some (J a)) (k : R m (pc + 3) ls (.long (J a) :: st) h P) : R m pc ls (st) h P := R_go hd (fun _ _ => by simp only [stp, hv]) k
theorem R_iload {m pc : Nat} {ls st : List Value} {h : Hp} {P : Value → Hp → Prop} {kk : Nat} {x : Int32} (hd : Dd m pc (.iload kk) 2) (hg : gt ls kk = .int x) (k : R m (pc + 2) ls (.int x :: st) h P) : R m pc ls (st) h P := R_go hd (fun _ _ => by simp only [stp, hg]; rfl) k
theorem R_lload {m pc : Nat} {ls st : List Value} {h : Hp} {P : Value → Hp → Prop} {kk : Nat} {x : Int64} (hd : Dd m pc (.lload kk) 2) (hg : gt ls kk = .long x) (k : R m (pc + 2) ls (.long x :: st) h P) : R m pc ls (st) h P := R_go hd (fun _ _ => by simp only [stp, hg]; rfl) k
theorem R_aload {m pc : Nat} {ls st : List Value} {h : Hp} {P : Value → Hp → Prop} {kk : Nat} {x : Value} (hd : Dd m pc (.aload kk) 2) (hg : gt ls kk = x) (hx : isR x = true) (k : R m (pc + 2) ls (x :: st) h P) : R m pc ls (st) h P := R_go hd (fun _ _ => by simp only [stp, hg, hx]; rfl) k
theorem R_iload_n {m pc : Nat} {ls st : List Value} {h : Hp} {P : Value → Hp → Prop} {kk : _root_.Fin 4} {x : Int32} (hd : Dd m pc (.iload_n kk) 1) (hg : gt ls (kk : Nat) = .int x) (k : R m (pc + 1) ls (.int x :: st) h P) : R m pc ls (st) h P := R_go hd (fun _ _ => by simp only [stp, hg]; rfl) k
theorem R_lload_n {m pc : Nat} {ls st : List Value} {h : Hp} {P : Value → Hp → Prop} {kk : _root_.Fin 4} {x : Int64} (hd : Dd m pc (.lload_n kk) 1) (hg : gt ls (kk : Nat) = .long x) (k : R m (pc + 1) ls (.long x :: st) h P) : R m pc ls (st) h P := R_go hd (fun _ _ => by simp only [stp, hg]; rfl) k
theorem R_aload_n {m pc : Nat} {ls st : List Value} {h : Hp} {P : Value → Hp → Prop} {kk : _root_.Fin 4} {x : Value} (hd : Dd m pc (.aload_n kk) 1) (hg : gt ls (kk : Nat) = x) (hx : isR x = true) (k : R m (pc + 1) ls (x :: st) h P) : R m pc ls (st) h P := R_go hd (fun _ _ => by simp only [stp, hg, hx]; rfl) k
theorem R_istore {m pc : Nat} {ls st : List Value} {h : Hp} {P : Value → Hp → Prop} {kk : Nat} {x : Int32} {ls1 : List Value} (hd : Dd m pc (.istore kk) 2) (hg : okst m ls kk = true) (hl : ls.set kk (.int x) = ls1) (k : R m (pc + 2) ls1 (st) h P) : R m pc ls (.int x :: st) h P := by
  rw [← hl] at k
  exact R_go hd (fun _ _ => by simp only [stp, i1, hg]; rfl) k
theorem R_astore {m pc : Nat} {ls st : List Value} {h : Hp} {P : Value → Hp → Prop} {kk : Nat} {x : Value} {ls1 : List Value} (hd : Dd m pc (.astore kk) 2) (hg : okst m ls kk = true) (hx : isR x = true) (hl : ls.set kk x = ls1) (k : R m (pc + 2) ls1 (st) h P) : R m pc ls (x :: st) h P := by
  rw [← hl] at k
  exact R_go hd (fun _ _ => by simp only [stp, v1, hg, hx]; rfl) k
theorem R_lstore {m pc : Nat} {ls st : List Value} {h : Hp} {P : Value → Hp → Prop} {kk : Nat} {x : Int64} {ls1 : List Value} (hd : Dd m pc (.lstore kk) 2) (hg : (!nol m && okst m ls kk && decide (kk + 1 < ls.length)) = true) (hl : (ls.set kk (.long x)).set (kk + 1) (.retAddr 0) = ls1) (k : R m (pc + 2) ls1 (st) h P) : R m pc ls (.long x :: st) h P := by
  rw [← hl] at k
  exact R_go hd (fun _ _ => by simp only [stp, l1, hg]; rfl) k
theorem R_istore_n {m pc : Nat} {ls st : List Value} {h : Hp} {P : Value → Hp → Prop} {kk : _root_.Fin 4} {x : Int32} {ls1 : List Value} (hd : Dd m pc (.istore_n kk) 1) (hg : okst m ls (kk : Nat) = true) (hl : ls.set (kk : Nat) (.int x) = ls1) (k : R m (pc + 1) ls1 (st) h P) : R m pc ls (.int x :: st) h P := by
  rw [← hl] at k
  exact R_go hd (fun _ _ => by simp only [stp, i1, hg]; rfl) k
theorem R_astore_n {m pc : Nat} {ls st : List Value} {h : Hp} {P : Value → Hp → Prop} {kk : _root_.Fin 4} {x : Value} {ls1 : List Value} (hd : Dd m pc (.astore_n kk) 1) (hg : okst m ls (kk : Nat) = true) (hx : isR x = true) (hl : ls.set (kk : Nat) x = ls1) (k : R m (pc + 1) ls1 (st) h P) : R m pc ls (x :: st) h P := by
  rw [← hl] at k
  exact R_go hd (fun _ _ => by simp only [stp, v1, hg, hx]; rfl) k
theorem R_lstore_n {m pc : Nat} {ls st : List Value} {h : Hp} {P : Value → Hp → Prop} {kk : _root_.Fin 4} {x : Int64} {ls1 : List Value} (hd : Dd m pc (.lstore_n kk) 1) (hg : (!nol m && okst m ls (kk : Nat) && decide ((kk : Nat) + 1 < ls.length)) = true) (hl : (ls.set (kk : Nat) (.long x)).set ((kk : Nat) + 1) (.retAddr 0) = ls1) (k : R m (pc + 1) ls1 (st) h P) : R m pc ls (.long x :: st) h P := by
  rw [← hl] at k
  exact R_go hd (fun _ _ => by simp only [stp, l1, hg]; rfl) k
theorem R_iinc {m pc : Nat} {ls st : List Value} {h : Hp} {P : Value → Hp → Prop} {j : Nat} {c : Int} {x : Int} {ls1 : List Value} (hd : Dd m pc (.iinc j c) 3) (hx : gt ls j = .int (I x)) (hg : okst m ls j = true) (hl : ls.set j (.int (I (x + c))) = ls1) (k : R m (pc + 3) ls1 (st) h P) : R m pc ls (st) h P := by
  rw [← hl, ← I_add] at k
  exact R_go hd (fun _ _ => by simp only [stp, hx, hg]; rfl) k
theorem R_iadd {m pc : Nat} {ls st : List Value} {h : Hp} {P : Value → Hp → Prop} {a b : Int} (hd : Dd m pc (.iadd) 1) (k : R m (pc + 1) ls (.int (I (a + b)) :: st) h P) : R m pc ls (.int (I b) :: .int (I a) :: st) h P := by
  rw [← I_add] at k
  exact R_go hd (fun _ _ => rfl) k
theorem R_isub {m pc : Nat} {ls st : List Value} {h : Hp} {P : Value → Hp → Prop} {a b : Int} (hd : Dd m pc (.isub) 1) (k : R m (pc + 1) ls (.int (I (a - b)) :: st) h P) : R m pc ls (.int (I b) :: .int (I a) :: st) h P := by
  rw [← I_sub] at k
  exact R_go hd (fun _ _ => rfl) k
theorem R_imul {m pc : Nat} {ls st : List Value} {h : Hp} {P : Value → Hp → Prop} {a b : Int} (hd : Dd m pc (.imul) 1) (k : R m (pc + 1) ls (.int (I (a * b)) :: st) h P) : R m pc ls (.int (I b) :: .int (I a) :: st) h P := by
  rw [← I_mul] at k
  exact R_go hd (fun _ _ => rfl) k
theorem R_idiv {m pc : Nat} {ls st : List Value} {h : Hp} {P : Value → Hp → Prop} {a b : Int} (hd : Dd m pc (.idiv) 1) (ha : 0 ≤ a ∧ a < 2147483648) (hb : 0 < b ∧ b < 2147483648) (k : R m (pc + 1) ls (.int (I (a / b)) :: st) h P) : R m pc ls (.int (I b) :: .int (I a) :: st) h P := by
  rw [← I_div ha hb] at k
  have hne : (I b != 0) = true := by
    rw [bne_iff_ne]
    exact fun q => by
      have := (I_inj ⟨by omega, hb.2⟩ (b := 0) ⟨by decide, by decide⟩).mp q
      omega
  exact R_go hd (fun _ _ => by simp only [stp, i2, hne]; rfl) k
theorem R_irem {m pc : Nat} {ls st : List Value} {h : Hp} {P : Value → Hp → Prop} {a b : Int} (hd : Dd m pc (.irem) 1) (ha : 0 ≤ a ∧ a < 2147483648) (hb : 0 < b ∧ b < 2147483648) (k : R m (pc + 1) ls (.int (I (a % b)) :: st) h P) : R m pc ls (.int (I b) :: .int (I a) :: st) h P := by
  rw [← I_mod ha hb] at k
  have hne : (I b != 0) = true := by
    rw [bne_iff_ne]
    exact fun q => by
      have := (I_inj ⟨by omega, hb.2⟩ (b := 0) ⟨by decide, by decide⟩).mp q
      omega
  exact R_go hd (fun _ _ => by simp only [stp, i2, hne]; rfl) k
theorem R_iand {m pc : Nat} {ls st : List Value} {h : Hp} {P : Value → Hp → Prop} {a b : Int} (hd : Dd m pc (.iand) 1) (k : R m (pc + 1) ls (.int (I (band a b)) :: st) h P) : R m pc ls (.int (I b) :: .int (I a) :: st) h P := by
  have e : I (band a b) = I a &&& I b := I_of _
  rw [e] at k
  exact R_go hd (fun _ _ => rfl) k
theorem R_ior {m pc : Nat} {ls st : List Value} {h : Hp} {P : Value → Hp → Prop} {a b : Int} (hd : Dd m pc (.ior) 1) (k : R m (pc + 1) ls (.int (I (bor a b)) :: st) h P) : R m pc ls (.int (I b) :: .int (I a) :: st) h P := by
  have e : I (bor a b) = I a ||| I b := I_of _
  rw [e] at k
  exact R_go hd (fun _ _ => rfl) k
theorem R_ixor {m pc : Nat} {ls st : List Value} {h : Hp} {P : Value → Hp → Prop} {a b : Int} (hd : Dd m pc (.ixor) 1) (k : R m (pc + 1) ls (.int (I (bxor a b)) :: st) h P) : R m pc ls (.int (I b) :: .int (I a) :: st) h P := by
  have e : I (bxor a b) = I a ^^^ I b := I_of _
  rw [e] at k
  exact R_go hd (fun _ _ => rfl) k
theorem R_ishl {m pc : Nat} {ls st : List Value} {h : Hp} {P : Value → Hp → Prop} {a b : Int} (hd : Dd m pc (.ishl) 1) (k : R m (pc + 1) ls (.int (I (shl a b)) :: st) h P) : R m pc ls (.int (I b) :: .int (I a) :: st) h P := by
  unfold shl at k
  rw [I_of] at k
  exact R_go hd (fun _ _ => rfl) k
theorem R_ishr {m pc : Nat} {ls st : List Value} {h : Hp} {P : Value → Hp → Prop} {a b : Int} (hd : Dd m pc (.ishr) 1) (k : R m (pc + 1) ls (.int (I (shr a b)) :: st) h P) : R m pc ls (.int (I b) :: .int (I a) :: st) h P := by
  unfold shr at k
  rw [I_of] at k
  exact R_go hd (fun _ _ => rfl) k
theorem R_iushr {m pc : Nat} {ls st : List Value} {h : Hp} {P : Value → Hp → Prop} {a b : Int} (hd : Dd m pc (.iushr) 1) (k : R m (pc + 1) ls (.int (I (ushr a b)) :: st) h P) : R m pc ls (.int (I b) :: .int (I a) :: st) h P := by
  unfold ushr at k
  rw [I_of] at k
  exact R_go hd (fun _ _ => rfl) k
theorem R_ineg {m pc : Nat} {ls st : List Value} {h : Hp} {P : Value → Hp → Prop} {a : Int} (hd : Dd m pc (.ineg) 1) (k : R m (pc + 1) ls (.int (I (-a)) :: st) h P) : R m pc ls (.int (I a) :: st) h P := by
  rw [← I_neg] at k
  exact R_go hd (fun _ _ => rfl) k
theorem R_i2b {m pc : Nat} {ls st : List Value} {h : Hp} {P : Value → Hp → Prop} {a : Int} (hd : Dd m pc (.i2b) 1) (k : R m (pc + 1) ls (.int (I (b8 a)) :: st) h P) : R m pc ls (.int (I a) :: st) h P := by
  unfold b8 at k
  rw [I_of] at k
  exact R_go hd (fun _ _ => rfl) k
theorem R_i2s {m pc : Nat} {ls st : List Value} {h : Hp} {P : Value → Hp → Prop} {a : Int} (hd : Dd m pc (.i2s) 1) (k : R m (pc + 1) ls (.int (I (b16 a)) :: st) h P) : R m pc ls (.int (I a) :: st) h P := by
  unfold b16 at k
  rw [I_of] at k
  exact R_go hd (fun _ _ => rfl) k
theorem J_toInt {z : Int} (h : -9223372036854775808 ≤ z ∧ z < 9223372036854775808) : (J z).toInt = z := Int64.toInt_ofInt_of_le h.1 h.2
theorem I_long {a : Int} (h : rng a) : (I a).toInt64 = J a := by
  apply Int64.toInt_inj.mp
  rw [Int32.toInt_toInt64, I_toInt h, J_toInt ⟨by omega, by omega⟩]
theorem R_i2l {m pc : Nat} {ls st : List Value} {h : Hp} {P : Value → Hp → Prop} {a : Int} (hd : Dd m pc (.i2l) 1) (ha : rng a) (k : R m (pc + 1) ls (.long (J a) :: st) h P) : R m pc ls (.int (I a) :: st) h P := by
  rw [← I_long ha] at k
  exact R_go hd (fun _ _ => rfl) k
theorem J_div {a b : Int} (ha : 0 ≤ a ∧ a < 2147483648) (hb : 0 < b ∧ b < 2147483648) : J a / J b = J (a / b) := by
  apply Int64.toInt_inj.mp
  have h1 : 0 ≤ a / b := Int.ediv_nonneg ha.1 (by omega)
  have h2 : a / b ≤ a := Int.ediv_le_self _ ha.1
  rw [Int64.toInt_div, J_toInt ⟨by omega, by omega⟩, J_toInt ⟨by omega, by omega⟩, J_toInt ⟨by omega, by omega⟩, Int.tdiv_eq_ediv_of_nonneg ha.1]
  exact Int.bmod_eq_of_le (by omega) (by omega)
theorem J_mod {a b : Int} (ha : 0 ≤ a ∧ a < 2147483648) (hb : 0 < b ∧ b < 2147483648) : J a % J b = J (a % b) := by
  apply Int64.toInt_inj.mp
  have h1 : 0 ≤ a % b := Int.emod_nonneg _ (by omega)
  have h2 : a % b < b := Int.emod_lt_of_pos _ hb.1
  rw [Int64.toInt_mod, J_toInt ⟨by omega, by omega⟩, J_toInt ⟨by omega, by omega⟩, J_toInt ⟨by omega, by omega⟩, Int.tmod_eq_emod_of_nonneg ha.1]
abbrev lrg (z : Int) : Prop := -9223372036854775808 ≤ z ∧ z < 9223372036854775808
theorem J_inj {a b : Int} (ha : lrg a) (hb : lrg b) : J a = J b ↔ a = b := by
  constructor
  · intro h
    have := congrArg Int64.toInt h
    rwa [J_toInt ha, J_toInt hb] at this
  · intro h; rw [h]
theorem J_lt {a b : Int} (ha : lrg a) (hb : lrg b) : J a < J b ↔ a < b := by
  rw [Int64.lt_iff_toInt_lt, J_toInt ha, J_toInt hb]
def lcp (a b : Int) : Int := (lg_cmp (J a) (J b)).toInt
theorem R_ldiv {m pc : Nat} {ls st : List Value} {h : Hp} {P : Value → Hp → Prop} {a b : Int} (hd : Dd m pc (.ldiv) 1) (ha : 0 ≤ a ∧ a < 2147483648) (hb : 0 < b ∧ b < 2147483648) (k : R m (pc + 1) ls (.long (J (a / b)) :: st) h P) : R m pc ls (.long (J b) :: .long (J a) :: st) h P := by
  rw [← J_div ha hb] at k
  have hne : (J b != 0) = true := by
    rw [bne_iff_ne]
    exact fun q => by
      have := (J_inj ⟨by omega, by omega⟩ (b := 0) ⟨by decide, by decide⟩).mp q
      omega
  exact R_go hd (fun _ _ => by simp only [stp, l2, hne]; rfl) k
theorem R_lrem {m pc : Nat} {ls st : List Value} {h : Hp} {P : Value → Hp → Prop} {a b : Int} (hd : Dd m pc (.lrem) 1) (ha : 0 ≤ a ∧ a < 2147483648) (hb : 0 < b ∧ b < 2147483648) (k : R m (pc + 1) ls (.long (J (a % b)) :: st) h P) : R m pc ls (.long (J b) :: .long (J a) :: st) h P := by
  rw [← J_mod ha hb] at k
  have hne : (J b != 0) = true := by
    rw [bne_iff_ne]
    exact fun q => by
      have := (J_inj ⟨by omega, by omega⟩ (b := 0) ⟨by decide, by decide⟩).mp q
      omega
  exact R_go hd (fun _ _ => by simp only [stp, l2, hne]; rfl) k
theorem R_lcmp {m pc : Nat} {ls st : List Value} {h : Hp} {P : Value → Hp → Prop} {a b : Int} (hd : Dd m pc (.lcmp) 1) (k : R m (pc + 1) ls (.int (I (lcp a b)) :: st) h P) : R m pc ls (.long (J b) :: .long (J a) :: st) h P := by
  unfold lcp at k
  rw [I_of] at k
  exact R_go hd (fun _ _ => rfl) k
theorem R_pop {m pc : Nat} {ls st : List Value} {h : Hp} {P : Value → Hp → Prop} {v : Value} (hd : Dd m pc (.pop) 1) (hv : (!isL v && (isI v || isR v)) = true) (k : R m (pc + 1) ls (st) h P) : R m pc ls (v :: st) h P := R_go hd (fun _ _ => by simp only [stp, v1, hv]; rfl) k
theorem R_dup {m pc : Nat} {ls st : List Value} {h : Hp} {P : Value → Hp → Prop} {v : Value} (hd : Dd m pc (.dup) 1) (hv : (!isL v && (isI v || isR v)) = true) (k : R m (pc + 1) ls (v :: v :: st) h P) : R m pc ls (v :: st) h P := R_go hd (fun _ _ => by simp only [stp, v1, hv]; rfl) k
theorem R_dup2 {m pc : Nat} {ls st : List Value} {h : Hp} {P : Value → Hp → Prop} {v w : Value} (hd : Dd m pc (.dup2) 1) (hv : (!isL v && (isI v || isR v) && (!isL w && (isI w || isR w))) = true) (k : R m (pc + 1) ls (v :: w :: v :: w :: st) h P) : R m pc ls (v :: w :: st) h P := R_go hd (fun _ _ => by simp only [stp, v1, hv]; rfl) k
theorem jmp_go {pc t : Nat} {off : Int} {go : Nat → Rs} (h : (pc : Int) + off = (t : Int)) : jmp pc off go = go t := by
  unfold jmp
  have e : ((pc : Int) + off).toNat = t := by omega
  have e2 : decide (0 ≤ (pc : Int) + off) = true := decide_eq_true (by omega)
  rw [e, e2]
  rfl
theorem R_goto {m pc : Nat} {ls st : List Value} {h : Hp} {P : Value → Hp → Prop} {t : Nat} {off : Int} (hd : Dd m pc (.goto off) 3) (ht : (pc : Int) + off = (t : Int)) (k : R m t ls st h P) : R m pc ls st h P := R_go hd (fun _ _ => by simp only [stp]; exact jmp_go ht) k
theorem R_ic_eq {m pc : Nat} {ls st : List Value} {h : Hp} {P : Value → Hp → Prop} {a b off : Int} {t : Nat} (hd : Dd m pc (.if_icmp .eq off) 3) (ht : (pc : Int) + off = (t : Int)) (ha : rng a) (hb : rng b) (k1 : a = b → R m t ls st h P) (k2 : ¬ a = b → R m (pc + 3) ls st h P) : R m pc ls (.int (I b) :: .int (I a) :: st) h P := by
  have e1 : ((pc : Int) + off).toNat = t := by omega
  have e2 : decide (0 ≤ (pc : Int) + off) = true := decide_eq_true (by omega)
  by_cases q : a = b
  · exact R_go hd (fun go call => by
      have q2 := (I_inj ha hb).mpr q
      simp only [stp, i2, e2, e1, gd, brn]
      exact (if_pos trivial).trans (if_pos q2)) (k1 q)
  · exact R_go hd (fun go call => by
      have q2 := fun z => q ((I_inj ha hb).mp z)
      simp only [stp, i2, e2, e1, gd, brn]
      exact (if_pos trivial).trans (if_neg q2)) (k2 q)
theorem R_if_eq {m pc : Nat} {ls st : List Value} {h : Hp} {P : Value → Hp → Prop} {a off : Int} {t : Nat} (hd : Dd m pc (.ifCond .eq off) 3) (ht : (pc : Int) + off = (t : Int)) (ha : rng a) (k1 : a = 0 → R m t ls st h P) (k2 : ¬ a = 0 → R m (pc + 3) ls st h P) : R m pc ls (.int (I a) :: st) h P := by
  have e1 : ((pc : Int) + off).toNat = t := by omega
  have e2 : decide (0 ≤ (pc : Int) + off) = true := decide_eq_true (by omega)
  have b0 : rng 0 := ⟨by decide, by decide⟩
  by_cases q : a = 0
  · exact R_go hd (fun go call => by
      have q2 := (I_inj ha (b0)).mpr q
      simp only [stp, i1, e2, e1, gd, brn]
      exact (if_pos trivial).trans (if_pos q2)) (k1 q)
  · exact R_go hd (fun go call => by
      have q2 := fun z => q ((I_inj ha (b0)).mp z)
      simp only [stp, i1, e2, e1, gd, brn]
      exact (if_pos trivial).trans (if_neg q2)) (k2 q)
theorem R_ic_ne {m pc : Nat} {ls st : List Value} {h : Hp} {P : Value → Hp → Prop} {a b off : Int} {t : Nat} (hd : Dd m pc (.if_icmp .ne off) 3) (ht : (pc : Int) + off = (t : Int)) (ha : rng a) (hb : rng b) (k1 : a = b → R m (pc + 3) ls st h P) (k2 : ¬ a = b → R m t ls st h P) : R m pc ls (.int (I b) :: .int (I a) :: st) h P := by
  have e1 : ((pc : Int) + off).toNat = t := by omega
  have e2 : decide (0 ≤ (pc : Int) + off) = true := decide_eq_true (by omega)
  by_cases q : a = b
  · exact R_go hd (fun go call => by
      have q2 := (I_inj ha hb).mpr q
      simp only [stp, i2, e2, e1, gd, brn]
      exact (if_pos trivial).trans (if_pos q2)) (k1 q)
  · exact R_go hd (fun go call => by
      have q2 := fun z => q ((I_inj ha hb).mp z)
      simp only [stp, i2, e2, e1, gd, brn]
      exact (if_pos trivial).trans (if_neg q2)) (k2 q)
theorem R_if_ne {m pc : Nat} {ls st : List Value} {h : Hp} {P : Value → Hp → Prop} {a off : Int} {t : Nat} (hd : Dd m pc (.ifCond .ne off) 3) (ht : (pc : Int) + off = (t : Int)) (ha : rng a) (k1 : a = 0 → R m (pc + 3) ls st h P) (k2 : ¬ a = 0 → R m t ls st h P) : R m pc ls (.int (I a) :: st) h P := by
  have e1 : ((pc : Int) + off).toNat = t := by omega
  have e2 : decide (0 ≤ (pc : Int) + off) = true := decide_eq_true (by omega)
  have b0 : rng 0 := ⟨by decide, by decide⟩
  by_cases q : a = 0
  · exact R_go hd (fun go call => by
      have q2 := (I_inj ha (b0)).mpr q
      simp only [stp, i1, e2, e1, gd, brn]
      exact (if_pos trivial).trans (if_pos q2)) (k1 q)
  · exact R_go hd (fun go call => by
      have q2 := fun z => q ((I_inj ha (b0)).mp z)
      simp only [stp, i1, e2, e1, gd, brn]
      exact (if_pos trivial).trans (if_neg q2)) (k2 q)
theorem R_ic_lt {m pc : Nat} {ls st : List Value} {h : Hp} {P : Value → Hp → Prop} {a b off : Int} {t : Nat} (hd : Dd m pc (.if_icmp .lt off) 3) (ht : (pc : Int) + off = (t : Int)) (ha : rng a) (hb : rng b) (k1 : a < b → R m t ls st h P) (k2 : ¬ a < b → R m (pc + 3) ls st h P) : R m pc ls (.int (I b) :: .int (I a) :: st) h P := by
  have e1 : ((pc : Int) + off).toNat = t := by omega
  have e2 : decide (0 ≤ (pc : Int) + off) = true := decide_eq_true (by omega)
  by_cases q : a < b
  · exact R_go hd (fun go call => by
      have q2 := (I_lt ha hb).mpr q
      simp only [stp, i2, e2, e1, gd, brn]
      exact (if_pos trivial).trans (if_pos q2)) (k1 q)
  · exact R_go hd (fun go call => by
      have q2 := fun z => q ((I_lt ha hb).mp z)
      simp only [stp, i2, e2, e1, gd, brn]
      exact (if_pos trivial).trans (if_neg q2)) (k2 q)
theorem R_if_lt {m pc : Nat} {ls st : List Value} {h : Hp} {P : Value → Hp → Prop} {a off : Int} {t : Nat} (hd : Dd m pc (.ifCond .lt off) 3) (ht : (pc : Int) + off = (t : Int)) (ha : rng a) (k1 : a < 0 → R m t ls st h P) (k2 : ¬ a < 0 → R m (pc + 3) ls st h P) : R m pc ls (.int (I a) :: st) h P := by
  have e1 : ((pc : Int) + off).toNat = t := by omega
  have e2 : decide (0 ≤ (pc : Int) + off) = true := decide_eq_true (by omega)
  have b0 : rng 0 := ⟨by decide, by decide⟩
  by_cases q : a < 0
  · exact R_go hd (fun go call => by
      have q2 := (I_lt ha (b0)).mpr q
      simp only [stp, i1, e2, e1, gd, brn]
      exact (if_pos trivial).trans (if_pos q2)) (k1 q)
  · exact R_go hd (fun go call => by
      have q2 := fun z => q ((I_lt ha (b0)).mp z)
      simp only [stp, i1, e2, e1, gd, brn]
      exact (if_pos trivial).trans (if_neg q2)) (k2 q)
theorem R_ic_ge {m pc : Nat} {ls st : List Value} {h : Hp} {P : Value → Hp → Prop} {a b off : Int} {t : Nat} (hd : Dd m pc (.if_icmp .ge off) 3) (ht : (pc : Int) + off = (t : Int)) (ha : rng a) (hb : rng b) (k1 : a < b → R m (pc + 3) ls st h P) (k2 : ¬ a < b → R m t ls st h P) : R m pc ls (.int (I b) :: .int (I a) :: st) h P := by
  have e1 : ((pc : Int) + off).toNat = t := by omega
  have e2 : decide (0 ≤ (pc : Int) + off) = true := decide_eq_true (by omega)
  by_cases q : a < b
  · exact R_go hd (fun go call => by
      have q2 := (I_lt ha hb).mpr q
      simp only [stp, i2, e2, e1, gd, brn]
      exact (if_pos trivial).trans (if_pos q2)) (k1 q)
  · exact R_go hd (fun go call => by
      have q2 := fun z => q ((I_lt ha hb).mp z)
      simp only [stp, i2, e2, e1, gd, brn]
      exact (if_pos trivial).trans (if_neg q2)) (k2 q)
theorem R_if_ge {m pc : Nat} {ls st : List Value} {h : Hp} {P : Value → Hp → Prop} {a off : Int} {t : Nat} (hd : Dd m pc (.ifCond .ge off) 3) (ht : (pc : Int) + off = (t : Int)) (ha : rng a) (k1 : a < 0 → R m (pc + 3) ls st h P) (k2 : ¬ a < 0 → R m t ls st h P) : R m pc ls (.int (I a) :: st) h P := by
  have e1 : ((pc : Int) + off).toNat = t := by omega
  have e2 : decide (0 ≤ (pc : Int) + off) = true := decide_eq_true (by omega)
  have b0 : rng 0 := ⟨by decide, by decide⟩
  by_cases q : a < 0
  · exact R_go hd (fun go call => by
      have q2 := (I_lt ha (b0)).mpr q
      simp only [stp, i1, e2, e1, gd, brn]
      exact (if_pos trivial).trans (if_pos q2)) (k1 q)
  · exact R_go hd (fun go call => by
      have q2 := fun z => q ((I_lt ha (b0)).mp z)
      simp only [stp, i1, e2, e1, gd, brn]
      exact (if_pos trivial).trans (if_neg q2)) (k2 q)
theorem R_ic_gt {m pc : Nat} {ls st : List Value} {h : Hp} {P : Value → Hp → Prop} {a b off : Int} {t : Nat} (hd : Dd m pc (.if_icmp .gt off) 3) (ht : (pc : Int) + off = (t : Int)) (ha : rng a) (hb : rng b) (k1 : b < a → R m t ls st h P) (k2 : ¬ b < a → R m (pc + 3) ls st h P) : R m pc ls (.int (I b) :: .int (I a) :: st) h P := by
  have e1 : ((pc : Int) + off).toNat = t := by omega
  have e2 : decide (0 ≤ (pc : Int) + off) = true := decide_eq_true (by omega)
  by_cases q : b < a
  · exact R_go hd (fun go call => by
      have q2 := (I_lt hb ha).mpr q
      simp only [stp, i2, e2, e1, gd, brn]
      exact (if_pos trivial).trans (if_pos q2)) (k1 q)
  · exact R_go hd (fun go call => by
      have q2 := fun z => q ((I_lt hb ha).mp z)
      simp only [stp, i2, e2, e1, gd, brn]
      exact (if_pos trivial).trans (if_neg q2)) (k2 q)
theorem R_if_gt {m pc : Nat} {ls st : List Value} {h : Hp} {P : Value → Hp → Prop} {a off : Int} {t : Nat} (hd : Dd m pc (.ifCond .gt off) 3) (ht : (pc : Int) + off = (t : Int)) (ha : rng a) (k1 : 0 < a → R m t ls st h P) (k2 : ¬ 0 < a → R m (pc + 3) ls st h P) : R m pc ls (.int (I a) :: st) h P := by
  have e1 : ((pc : Int) + off).toNat = t := by omega
  have e2 : decide (0 ≤ (pc : Int) + off) = true := decide_eq_true (by omega)
  have b0 : rng 0 := ⟨by decide, by decide⟩
  by_cases q : 0 < a
  · exact R_go hd (fun go call => by
      have q2 := (I_lt (b0) ha).mpr q
      simp only [stp, i1, e2, e1, gd, brn]
      exact (if_pos trivial).trans (if_pos q2)) (k1 q)
  · exact R_go hd (fun go call => by
      have q2 := fun z => q ((I_lt (b0) ha).mp z)
      simp only [stp, i1, e2, e1, gd, brn]
      exact (if_pos trivial).trans (if_neg q2)) (k2 q)
theorem R_ic_le {m pc : Nat} {ls st : List Value} {h : Hp} {P : Value → Hp → Prop} {a b off : Int} {t : Nat} (hd : Dd m pc (.if_icmp .le off) 3) (ht : (pc : Int) + off = (t : Int)) (ha : rng a) (hb : rng b) (k1 : b < a → R m (pc + 3) ls st h P) (k2 : ¬ b < a → R m t ls st h P) : R m pc ls (.int (I b) :: .int (I a) :: st) h P := by
  have e1 : ((pc : Int) + off).toNat = t := by omega
  have e2 : decide (0 ≤ (pc : Int) + off) = true := decide_eq_true (by omega)
  by_cases q : b < a
  · exact R_go hd (fun go call => by
      have q2 := (I_lt hb ha).mpr q
      simp only [stp, i2, e2, e1, gd, brn]
      exact (if_pos trivial).trans (if_pos q2)) (k1 q)
  · exact R_go hd (fun go call => by
      have q2 := fun z => q ((I_lt hb ha).mp z)
      simp only [stp, i2, e2, e1, gd, brn]
      exact (if_pos trivial).trans (if_neg q2)) (k2 q)
theorem R_if_le {m pc : Nat} {ls st : List Value} {h : Hp} {P : Value → Hp → Prop} {a off : Int} {t : Nat} (hd : Dd m pc (.ifCond .le off) 3) (ht : (pc : Int) + off = (t : Int)) (ha : rng a) (k1 : 0 < a → R m (pc + 3) ls st h P) (k2 : ¬ 0 < a → R m t ls st h P) : R m pc ls (.int (I a) :: st) h P := by
  have e1 : ((pc : Int) + off).toNat = t := by omega
  have e2 : decide (0 ≤ (pc : Int) + off) = true := decide_eq_true (by omega)
  have b0 : rng 0 := ⟨by decide, by decide⟩
  by_cases q : 0 < a
  · exact R_go hd (fun go call => by
      have q2 := (I_lt (b0) ha).mpr q
      simp only [stp, i1, e2, e1, gd, brn]
      exact (if_pos trivial).trans (if_pos q2)) (k1 q)
  · exact R_go hd (fun go call => by
      have q2 := fun z => q ((I_lt (b0) ha).mp z)
      simp only [stp, i1, e2, e1, gd, brn]
      exact (if_pos trivial).trans (if_neg q2)) (k2 q)
theorem R_ifnull0 {m pc : Nat} {ls st : List Value} {h : Hp} {P : Value → Hp → Prop} {t : Nat} {off : Int} (hd : Dd m pc (.ifnull off) 3) (ht : (pc : Int) + off = (t : Int)) (k : R m t ls st h P) : R m pc ls (.null :: st) h P := R_go hd (fun _ _ => by simp only [stp]; exact jmp_go ht) k
theorem R_ifnull1 {m pc : Nat} {ls st : List Value} {h : Hp} {P : Value → Hp → Prop} {r : Nat} {off : Int} (hd : Dd m pc (.ifnull off) 3) (k : R m (pc + 3) ls st h P) : R m pc ls (.ref r :: st) h P := R_go hd (fun _ _ => rfl) k
theorem R_ifnn0 {m pc : Nat} {ls st : List Value} {h : Hp} {P : Value → Hp → Prop} {off : Int} (hd : Dd m pc (.ifnonnull off) 3) (k : R m (pc + 3) ls st h P) : R m pc ls (.null :: st) h P := R_go hd (fun _ _ => rfl) k
theorem R_ifnn1 {m pc : Nat} {ls st : List Value} {h : Hp} {P : Value → Hp → Prop} {r t : Nat} {off : Int} (hd : Dd m pc (.ifnonnull off) 3) (ht : (pc : Int) + off = (t : Int)) (k : R m t ls st h P) : R m pc ls (.ref r :: st) h P := R_go hd (fun _ _ => by simp only [stp]; exact jmp_go ht) k
theorem R_tsw {m pc : Nat} {ls st : List Value} {h : Hp} {P : Value → Hp → Prop} {d lo hi : Int} {offs : Array Int} {len : Nat} {a : Int} {td : Nat} {ts : List Nat} (hd : Dd m pc (.tableswitch d lo hi offs) len) (ha : rng a) (hn : offs.size = ts.length) (hlo : hi = lo + (ts.length : Int) - 1) (hts : ((List.range ts.length).all (fun i => decide ((pc : Int) + offs[i]! = (ts[i]! : Nat)))) = true) (htd : (pc : Int) + d = (td : Int))
    (k : ∀ i : Nat, i < ts.length → a = lo + (i : Int) → R m ts[i]! ls st h P) (kd : a < lo ∨ hi < a → R m td ls st h P) : R m pc ls (.int (I a) :: st) h P := by
  by_cases q : a < lo ∨ hi < a
  · exact R_go hd (fun go call => by
      simp only [stp, i1, I_toInt ha, if_pos q]
      exact jmp_go htd) (kd q)
  · have hi2 : (a - lo).toNat < ts.length := by omega
    have h3 := range_all hts hi2
    rw [decide_eq_true_eq, getElem!_pos offs _ (by omega)] at h3
    refine R_go hd (fun go call => ?_) (k (a - lo).toNat hi2 (by omega))
    simp only [stp, i1, I_toInt ha, if_neg q]
    rw [Array.getElem?_eq_getElem (by omega)]
    exact jmp_go h3
theorem R_geti {m pc : Nat} {ls st : List Value} {h : Hp} {P : Value → Hp → Prop} {j ci kk r : Nat} (hd : Dd m pc (.getfield j) 3) (hf : fld (mO m) j = some (ci, kk)) (hr : rfs ci kk = false) (ht : tagok ci (tg h r) = true) (k : R m (pc + 3) ls (.int (I (iv h r (kk : Nat))) :: st) h P) : R m pc ls (.ref r :: st) h P := by
  refine R_go hd (fun go call => ?_) k
  simp only [stp, hf, r1, ht, gd, hr]
  rfl
theorem R_getr {m pc : Nat} {ls st : List Value} {h : Hp} {P : Value → Hp → Prop} {j ci kk r q : Nat} (hd : Dd m pc (.getfield j) 3) (hf : fld (mO m) j = some (ci, kk)) (hr : rfs ci kk = true) (ht : tagok ci (tg h r) = true) (hl : fl h r kk = true) (hq : child r kk = q) (hz : tg h q ≠ 0) (k : R m (pc + 3) ls (.ref q :: st) h P) : R m pc ls (.ref r :: st) h P := by
  subst hq
  refine R_go hd (fun go call => ?_) k
  have e : (fl h r kk && tg h (child r kk) != 0) = true := by rw [hl]; exact bne_iff_ne.mpr hz
  simp only [stp, hf, r1, ht, hr, e]
  rfl
theorem R_puti {m pc : Nat} {ls st : List Value} {h : Hp} {P : Value → Hp → Prop} {j ci kk r : Nat} {a v : Int} (hd : Dd m pc (.putfield j) 3) (hf : fld (mO m) j = some (ci, kk)) (hp : pok m ci kk = true) (hr : rfs ci kk = false) (ht : tagok ci (tg h r) = true) (hb : (cTy ci kk == .int || bz (I a)) = true) (hv : wr a = v) (k : R m (pc + 3) ls (st) (setI h r (kk : Nat) v) P) : R m pc ls (.int (I a) :: .ref r :: st) h P := by
  subst hv
  refine R_go hd (fun go call => ?_) k
  simp only [stp, hf, hp, gd, ht, hr, hb]
  rfl
theorem R_putr {m pc : Nat} {ls st : List Value} {h : Hp} {P : Value → Hp → Prop} {j ci kk r q : Nat} (hd : Dd m pc (.putfield j) 3) (hf : fld (mO m) j = some (ci, kk)) (hp : pok m ci kk = true) (hr : rfs ci kk = true) (ht : tagok ci (tg h r) = true) (hq : child r kk = q) (k : R m (pc + 3) ls (st) (setF h r kk) P) : R m pc ls (.ref q :: .ref r :: st) h P := by
  subst hq
  refine R_go hd (fun go call => ?_) k
  simp only [stp, hf, hp, gd, ht, hr]
  rfl
theorem R_putm {m pc : Nat} {ls st : List Value} {h : Hp} {P : Value → Hp → Prop} {j ci kk r q : Nat} (hd : Dd m pc (.putfield j) 3) (hf : fld (mO m) j = some (ci, kk)) (hp : pok m ci kk = true) (hr : rfs ci kk = true) (ht : tagok ci (tg h r) = true) (hq : child r kk = q) (hne : q ≠ 38) (hg : (mv m && gw q && !gw r && decide (q < 37 ∨ 38 < q) && tg h 38 == 20 && ng ls && ng st) = true) (k : R m (pc + 3) ls (st) (mov h r kk q 38) P) : R m pc ls (.ref 38 :: .ref r :: st) h P := by
  subst hq
  refine R_go hd (fun go call => ?_) k
  simp only [Bool.and_eq_true] at hg
  obtain ⟨⟨⟨⟨⟨⟨g1, g2⟩, g3⟩, g4⟩, g5⟩, g6⟩, g7⟩ := hg
  simp only [stp, hf, hp, gd, ht, hr, g1, g2, g3, g4, g5, g6, g7, if_neg (Ne.symm hne)]
  rfl
theorem R_getst {m pc : Nat} {ls st : List Value} {h : Hp} {P : Value → Hp → Prop} {j r : Nat} (hd : Dd m pc (.getstatic j) 3) (hf : stf (mO m) j = some r) (ht : tg h r = 30) (k : R m (pc + 3) ls (.ref r :: st) h P) : R m pc ls (st) h P := by
  refine R_go hd (fun go call => ?_) k
  simp only [stp, hf, ht]
  rfl
theorem inr_I {i : Int} {n : Nat} (h1 : 0 ≤ i) (h2 : i < n) (h3 : (n : Int) ≤ 2147483648) : inr (I i) n = true ∧ (I i).toInt = i := by
  have e : (I i).toInt = i := I_toInt ⟨by omega, by omega⟩
  refine ⟨?_, e⟩
  unfold inr
  rw [e, decide_eq_true h1, decide_eq_true h2]
  rfl
theorem R_iaload {m pc : Nat} {ls st : List Value} {h : Hp} {P : Value → Hp → Prop} {r : Nat} {i : Int} (hd : Dd m pc (.iaload) 1) (ht : tg h r = 20 ∨ tg h r = 30) (hn : (ln h r : Int) ≤ 2147483648) (h1 : 0 ≤ i) (h2 : i < ln h r) (k : R m (pc + 1) ls (.int (I (iv h r i)) :: st) h P) : R m pc ls (.int (I i) :: .ref r :: st) h P := by
  obtain ⟨e1, e2⟩ := inr_I h1 h2 hn
  have e3 : ((tg h r == 20 || tg h r == 30) && inr (I i) (ln h r)) = true := by rw [e1]; rcases ht with q | q <;> rw [q] <;> rfl
  rw [← e2] at k
  refine R_go hd (fun go call => ?_) k
  simp only [stp, ri, e3]
  rw [e2]
  rfl
theorem R_iastore {m pc : Nat} {ls st : List Value} {h : Hp} {P : Value → Hp → Prop} {r : Nat} {i a v : Int} (hd : Dd m pc (.iastore) 1) (ht : tg h r = 20) (hn : (ln h r : Int) ≤ 2147483648) (h1 : 0 ≤ i) (h2 : i < ln h r) (hv : wr a = v) (k : R m (pc + 1) ls (st) (setI h r i v) P) : R m pc ls (.int (I a) :: .int (I i) :: .ref r :: st) h P := by
  obtain ⟨e1, e2⟩ := inr_I h1 h2 hn
  subst hv
  have e3 : (tg h r == 20 && inr (I i) (ln h r)) = true := by rw [e1, ht]; rfl
  refine R_go hd (fun go call => ?_) k
  simp only [stp, rii, e3, e2]
  rfl
theorem R_aaload {m pc : Nat} {ls st : List Value} {h : Hp} {P : Value → Hp → Prop} {r q : Nat} {i : Int} (hd : Dd m pc (.aaload) 1) (ht : 21 ≤ tg h r ∧ tg h r ≤ 25) (hn : (ln h r : Int) ≤ 2147483648) (h1 : 0 ≤ i) (h2 : i < ln h r) (hl : fl h r i.toNat = true) (hq : child r i.toNat = q) (hz : tg h q ≠ 0) (k : R m (pc + 1) ls (.ref q :: st) h P) : R m pc ls (.int (I i) :: .ref r :: st) h P := by
  obtain ⟨e1, e2⟩ := inr_I h1 h2 hn
  subst hq
  refine R_go hd (fun go call => ?_) k
  have e3 : (decide (21 ≤ tg h r) && decide (tg h r ≤ 25) && inr (I i) (ln h r) && fl h r (I i).toInt.toNat && tg h (child r (I i).toInt.toNat) != 0) = true := by
    rw [e1, e2, hl, decide_eq_true ht.1, decide_eq_true ht.2]
    exact bne_iff_ne.mpr hz
  simp only [stp, ri, e3]
  rw [e2]
  rfl
theorem R_aastore {m pc : Nat} {ls st : List Value} {h : Hp} {P : Value → Hp → Prop} {r q : Nat} {i : Int} (hd : Dd m pc (.aastore) 1) (he : elok (tg h r) (tg h q) = true) (hn : (ln h r : Int) ≤ 2147483648) (h1 : 0 ≤ i) (h2 : i < ln h r) (hq : child r i.toNat = q) (k : R m (pc + 1) ls (st) (setF h r i.toNat) P) : R m pc ls (.ref q :: .int (I i) :: .ref r :: st) h P := by
  obtain ⟨e1, e2⟩ := inr_I h1 h2 hn
  refine R_go hd (fun go call => ?_) k
  simp only [stp, rir, he, e1, e2, gd]
  rw [if_pos hq.symm]
  rfl
theorem R_aastorem {m pc : Nat} {ls st : List Value} {h : Hp} {P : Value → Hp → Prop} {r q : Nat} {i : Int} (hd : Dd m pc (.aastore) 1) (he : elok (tg h r) (tg h 37) = true) (hn : (ln h r : Int) ≤ 2147483648) (h1 : 0 ≤ i) (h2 : i < ln h r) (hq : child r i.toNat = q) (hg : (tg h r == 21 && mv m && gw q && !gw r && decide (q < 37) && ng ls && ng st) = true) (k : R m (pc + 1) ls (st) (mov h r i.toNat q 37) P) : R m pc ls (.ref 37 :: .int (I i) :: .ref r :: st) h P := by
  obtain ⟨e1, e2⟩ := inr_I h1 h2 hn
  subst hq
  simp only [Bool.and_eq_true] at hg
  obtain ⟨⟨⟨⟨⟨⟨g1, g2⟩, g3⟩, g4⟩, g5⟩, g6⟩, g7⟩ := hg
  have hne : ¬ 37 = child r i.toNat := Ne.symm (child_ne _ _).1
  refine R_go hd (fun go call => ?_) k
  simp only [stp, rir, he, e1, e2, gd, g1, g2, g3, g4, g5, g6, g7, if_neg hne]
  rfl
theorem R_alen {m pc : Nat} {ls st : List Value} {h : Hp} {P : Value → Hp → Prop} {r : Nat} (hd : Dd m pc (.arraylength) 1) (ht : (20 ≤ tg h r ∧ tg h r ≤ 25) ∨ tg h r = 30) (k : R m (pc + 1) ls (.int (I (ln h r : Nat)) :: st) h P) : R m pc ls (.ref r :: st) h P := by
  have e : (decide (20 ≤ tg h r) && decide (tg h r ≤ 25) || tg h r == 30) = true := by
    rcases ht with q | q
    · rw [decide_eq_true q.1, decide_eq_true q.2]; rfl
    · rw [q]; rfl
  refine R_go hd (fun go call => ?_) k
  simp only [stp, r1, e]
  rfl
theorem R_new {m pc : Nat} {ls st : List Value} {h : Hp} {P : Value → Hp → Prop} {j ci q : Nat} (hd : Dd m pc (.new j) 3) (hf : newt (mO m) j = some ci) (hm : mv m = true) (hq : site m pc ls h = q) (h0 : tg h q = 0) (h5 : q < 500 ∨ 10000 ≤ q) (k : R m (pc + 3) ls (.ref q :: st) (mk h q (ci + 1) 0 (cSz ci)) P) : R m pc ls (st) h P := by
  subst hq
  have e : (mv m && tg h (site m pc ls h) == 0 && decide (site m pc ls h < 500 ∨ 10000 ≤ site m pc ls h)) = true := by rw [hm, h0, decide_eq_true h5]; rfl
  refine R_go hd (fun go call => ?_) k
  simp only [stp, hf, e]
  rfl
theorem R_newa {m pc : Nat} {ls st : List Value} {h : Hp} {P : Value → Hp → Prop} {q : Nat} {a : Int} (hd : Dd m pc (.newarray .int) 2) (hm : mv m = true) (hq : site m pc ls h = q) (h0 : tg h q = 0) (h5 : q < 500 ∨ 10000 ≤ q) (h1 : 0 ≤ a) (h2 : a < 1000000) (k : R m (pc + 2) ls (.ref q :: st) (mk h q 20 a.toNat a.toNat) P) : R m pc ls (.int (I a) :: st) h P := by
  subst hq
  have e0 : (I a).toInt = a := I_toInt ⟨by omega, by omega⟩
  have e : (mv m && ArrayType.int == .int && decide (0 ≤ (I a).toInt) && decide ((I a).toInt < 1000000) && tg h (site m pc ls h) == 0 && decide (site m pc ls h < 500 ∨ 10000 ≤ site m pc ls h)) = true := by
    rw [hm, h0, e0, decide_eq_true h5, decide_eq_true h1, decide_eq_true h2]
    rfl
  refine R_go hd (fun go call => ?_) k
  simp only [stp, i1, e]
  rw [e0]
  rfl
theorem R_anew {m pc : Nat} {ls st : List Value} {h : Hp} {P : Value → Hp → Prop} {j t : Nat} {q : Nat} {a : Int} (hd : Dd m pc (.anewarray j) 3) (hf : anwt (mO m) j = some t) (hm : mv m = true) (hq : site m pc ls h = q) (h0 : tg h q = 0) (h5 : q < 500 ∨ 10000 ≤ q) (h1 : 0 ≤ a) (h2 : a < 1000000) (k : R m (pc + 3) ls (.ref q :: st) (mk h q t a.toNat a.toNat) P) : R m pc ls (.int (I a) :: st) h P := by
  subst hq
  have e0 : (I a).toInt = a := I_toInt ⟨by omega, by omega⟩
  have e : (mv m && decide (0 ≤ (I a).toInt) && decide ((I a).toInt < 1000000) && tg h (site m pc ls h) == 0 && decide (site m pc ls h < 500 ∨ 10000 ≤ site m pc ls h)) = true := by
    rw [hm, h0, e0, decide_eq_true h5, decide_eq_true h1, decide_eq_true h2]
    rfl
  refine R_go hd (fun go call => ?_) k
  simp only [stp, hf, i1, e]
  rw [e0]
  rfl
theorem R_ireturn {m pc : Nat} {ls : List Value} {h : Hp} {P : Value → Hp → Prop} {x : Int32} (hd : Dd m pc .ireturn 1) (hr : (mR m == some .int || (mR m == some .boolean && bz x)) = true) (k : P (.int x) h) : R m pc ls [.int x] h P := R_end hd (fun _ _ => by simp only [stp, hr]; rfl) k
theorem R_lreturn {m pc : Nat} {ls : List Value} {h : Hp} {P : Value → Hp → Prop} {x : Int64} (hd : Dd m pc .lreturn 1) (hr : (mR m == some .long) = true) (k : P (.long x) h) : R m pc ls [.long x] h P := R_end hd (fun _ _ => by simp only [stp, hr]; rfl) k
theorem R_areturn {m pc : Nat} {ls : List Value} {h : Hp} {P : Value → Hp → Prop} {v : Value} (hd : Dd m pc .areturn 1) (hr : (isR v && (match mR m with | some (.object _) => true | some (.array _) => true | _ => false)) = true) (k : P v h) : R m pc ls [v] h P := R_end hd (fun _ _ => by simp only [stp]; exact (congrArg (fun b => gd b _) hr).trans rfl) k
theorem R_return {m pc : Nat} {ls : List Value} {h : Hp} {P : Value → Hp → Prop} (hd : Dd m pc .return_ 1) (hr : (mR m == none) = true) (k : P .null h) : R m pc ls [] h P := R_end hd (fun _ _ => by simp only [stp, hr]; rfl) k
theorem R_call0 {m pc : Nat} {ls st : List Value} {h : Hp} {P : Value → Hp → Prop} {j y : Nat} {s a e : List Value} (hd : Dd m pc (.invokestatic j) 3) (hc : cal (mO m) j = some (0, y)) (hs : decide (mA y ≤ st.length) = true) (h1 : st.drop (mA y) = s) (h2 : takeA (mA y) st = a) (hg : okg m y ls s a = true) (hent : ent y a = e)
    (k : R y 0 e [] h (fun v h2 => R m (pc + 3) ls (back y v s) h2 P)) : R m pc ls st h P := R_cll hd (fun go call => by
  simp only [stp, hc, h1, h2, hs, gd]
  rfl) hg hent k
theorem R_call3 {m pc : Nat} {ls st : List Value} {h : Hp} {P : Value → Hp → Prop} {j y : Nat} {s a e : List Value} (hd : Dd m pc (.invokestatic j) 3) (hc : cal (mO m) j = some (3, y)) (hs : decide (mA y ≤ st.length) = true) (h1 : st.drop (mA y) = s) (h2 : takeA (mA y) st = a) (hg : okg m y ls s a = true) (hent : ent y a = e)
    (k : R y 0 e [] h (fun v h2 => R m (pc + 3) ls (back y v s) h2 P)) : R m pc ls st h P := R_cll hd (fun go call => by
  simp only [stp, hc, h1, h2, hs, gd]
  rfl) hg hent k
theorem R_call1 {m pc : Nat} {ls st : List Value} {h : Hp} {P : Value → Hp → Prop} {j y r : Nat} {s a e : List Value} (hd : Dd m pc (.invokevirtual j) 3) (hc : cal (mO m) j = some (1, y)) (ht : tg h r = mO y + 1) (hs : decide (mA y ≤ st.length) = true) (h1 : st.drop (mA y) = .ref r :: s) (h2 : takeA (mA y) st = a) (hg : okg m y ls s (.ref r :: a) = true) (hent : ent y (.ref r :: a) = e)
    (k : R y 0 e [] h (fun v h2 => R m (pc + 3) ls (back y v s) h2 P)) : R m pc ls st h P := R_cll hd (fun go call => by
  have e1 : (tg h r == mO y + 1) = true := beq_iff_eq.mpr ht
  simp only [stp, hc, onobj, r1, h1, h2, hs, gd, e1]
  rfl) hg hent k
theorem R_call2 {m pc : Nat} {ls st : List Value} {h : Hp} {P : Value → Hp → Prop} {j y r : Nat} {s a e : List Value} (hd : Dd m pc (.invokespecial j) 3) (hc : cal (mO m) j = some (2, y)) (hs : decide (mA y ≤ st.length) = true) (h1 : st.drop (mA y) = .ref r :: s) (h2 : takeA (mA y) st = a) (hg : okg m y ls s (.ref r :: a) = true) (hent : ent y (.ref r :: a) = e)
    (k : R y 0 e [] h (fun v h2 => R m (pc + 3) ls (back y v s) h2 P)) : R m pc ls st h P := R_cll hd (fun go call => by
  simp only [stp, hc, onobj, r1, h1, h2, hs, gd]
  rfl) hg hent k
theorem R_call4 {m pc : Nat} {ls st : List Value} {h : Hp} {P : Value → Hp → Prop} {j y r : Nat} {s a e : List Value} (hd : Dd m pc (.invokespecial j) 3) (hc : cal (mO m) j = some (4, y)) (hs : decide (mA y ≤ st.length) = true) (h1 : st.drop (mA y) = .ref r :: s) (h2 : takeA (mA y) st = a) (hg : okg m y ls s (.ref r :: a) = true) (hent : ent y (.ref r :: a) = e)
    (k : R y 0 e [] h (fun v h2 => R m (pc + 3) ls (back y v s) h2 P)) : R m pc ls st h P := R_cll hd (fun go call => by
  simp only [stp, hc, onobj, r1, h1, h2, hs, gd]
  rfl) hg hent k
theorem R_call6 {m pc : Nat} {ls st : List Value} {h : Hp} {P : Value → Hp → Prop} {j y r : Nat} {s a e : List Value} (hd : Dd m pc (.invokespecial j) 3) (hc : cal (mO m) j = some (6, y)) (ht : tg h r = mO m + 1) (hs : decide (mA y ≤ st.length) = true) (h1 : st.drop (mA y) = .ref r :: s) (h2 : takeA (mA y) st = a) (hg : okg m y ls s (.ref r :: a) = true) (hent : ent y (.ref r :: a) = e)
    (k : R y 0 e [] h (fun v h2 => R m (pc + 3) ls (back y v s) h2 P)) : R m pc ls st h P := R_cll hd (fun go call => by
  have e1 : (tg h r == mO m + 1) = true := beq_iff_eq.mpr ht
  simp only [stp, hc, onobj, r1, h1, h2, hs, gd, e1]
  rfl) hg hent k
theorem R_call5 {m pc : Nat} {ls st : List Value} {h : Hp} {P : Value → Hp → Prop} {j y z r : Nat} {s a e : List Value} (hd : Dd m pc (.invokevirtual j) 3) (hc : cal (mO m) j = some (5, y)) (hv : vir (mO m) j (tg h r) = some z) (hs : decide (mA y ≤ st.length) = true) (h1 : st.drop (mA y) = .ref r :: s) (h2 : takeA (mA y) st = a) (hg : okg m z ls s (.ref r :: a) = true) (hent : ent z (.ref r :: a) = e)
    (k : R z 0 e [] h (fun v h2 => R m (pc + 3) ls (back z v s) h2 P)) : R m pc ls st h P := R_cll hd (fun go call => by
  simp only [stp, hc, onobj, r1, h1, h2, hs, gd, hv]
  rfl) hg hent k
theorem R_call8 {m pc : Nat} {ls st : List Value} {h : Hp} {P : Value → Hp → Prop} {j y r : Nat} (hd : Dd m pc (.invokespecial j) 3) (hc : cal (mO m) j = some (8, y)) (hg : (decide (1 ≤ mF m) && decide (20 ≤ mLc m) && decide (st.length ≤ 4)) = true) (k : R m (pc + 3) ls (st) h P) : R m pc ls (.ref r :: st) h P := R_go hd (fun _ _ => by simp only [stp, hc, r1, hg]; rfl) k
end
section
/-! What the roles of the two hold throughout. -/
theorem tok {ci t : Nat} (h : t = ci + 1) : tagok ci t = true := by rw [h]; unfold tagok; rw [beq_self_eq_true]; rfl
theorem tnz {t c : Nat} (h : t = c + 1) : t ≠ 0 := by omega
theorem lnle {a b : Nat} (h : a = b) (hb : (b : Int) ≤ 2147483648) : (a : Int) ≤ 2147483648 := by rw [h]; exact hb
theorem lnlt {a b : Nat} {i : Int} (h : a = b) (hb : i < (b : Int)) : i < (a : Int) := by rw [h]; exact hb
def XS (h : Hp) : Prop := (∀ q ∈ ([(0, 12), (1, 1), (2, 21), (3, 20), (4, 22), (5, 20), (6, 20), (7, 23), (8, 10), (9, 10), (10, 10), (11, 10), (12, 20), (13, 20), (14, 20), (15, 20), (16, 11), (17, 8), (18, 20), (19, 9), (20, 20), (21, 20), (22, 20), (23, 20), (24, 20), (25, 20), (26, 20), (500, 30), (501, 30)] : List (Nat × Nat)), tg h q.1 = q.2) ∧ (∀ q ∈ ([(0, 0), (0, 1), (0, 6), (0, 7), (0, 9), (0, 10), (0, 12), (0, 13), (0, 14), (0, 15), (0, 16), (1, 0), (1, 4), (7, 0), (7, 1), (7, 2), (7, 3), (8, 0), (9, 0), (10, 0), (11, 0), (17, 0), (19, 0), (19, 1), (19, 2), (19, 3)] : List (Nat × Nat)), fl h q.1 q.2 = true) ∧ (∀ q ∈ ([(2, 7), (4, 4), (5, 8), (6, 8), (7, 4), (12, 60), (13, 60), (14, 60), (15, 60), (18, 64), (500, 8), (501, 6)] : List (Nat × Nat)), ln h q.1 = q.2)
theorem XS.t0 {h : Hp} (S : XS h) : tg h 0 = 12 := S.1 (0, 12) (by decide)
theorem XS.t1 {h : Hp} (S : XS h) : tg h 1 = 1 := S.1 (1, 1) (by decide)
theorem XS.t2 {h : Hp} (S : XS h) : tg h 2 = 21 := S.1 (2, 21) (by decide)
theorem XS.t3 {h : Hp} (S : XS h) : tg h 3 = 20 := S.1 (3, 20) (by decide)
theorem XS.t4 {h : Hp} (S : XS h) : tg h 4 = 22 := S.1 (4, 22) (by decide)
theorem XS.t5 {h : Hp} (S : XS h) : tg h 5 = 20 := S.1 (5, 20) (by decide)
theorem XS.t6 {h : Hp} (S : XS h) : tg h 6 = 20 := S.1 (6, 20) (by decide)
theorem XS.t7 {h : Hp} (S : XS h) : tg h 7 = 23 := S.1 (7, 23) (by decide)
theorem XS.t8 {h : Hp} (S : XS h) : tg h 8 = 10 := S.1 (8, 10) (by decide)
theorem XS.t9 {h : Hp} (S : XS h) : tg h 9 = 10 := S.1 (9, 10) (by decide)
theorem XS.t10 {h : Hp} (S : XS h) : tg h 10 = 10 := S.1 (10, 10) (by decide)
theorem XS.t11 {h : Hp} (S : XS h) : tg h 11 = 10 := S.1 (11, 10) (by decide)
theorem XS.t12 {h : Hp} (S : XS h) : tg h 12 = 20 := S.1 (12, 20) (by decide)
theorem XS.t13 {h : Hp} (S : XS h) : tg h 13 = 20 := S.1 (13, 20) (by decide)
theorem XS.t14 {h : Hp} (S : XS h) : tg h 14 = 20 := S.1 (14, 20) (by decide)
theorem XS.t15 {h : Hp} (S : XS h) : tg h 15 = 20 := S.1 (15, 20) (by decide)
theorem XS.t16 {h : Hp} (S : XS h) : tg h 16 = 11 := S.1 (16, 11) (by decide)
theorem XS.t17 {h : Hp} (S : XS h) : tg h 17 = 8 := S.1 (17, 8) (by decide)
theorem XS.t18 {h : Hp} (S : XS h) : tg h 18 = 20 := S.1 (18, 20) (by decide)
theorem XS.t19 {h : Hp} (S : XS h) : tg h 19 = 9 := S.1 (19, 9) (by decide)
theorem XS.t20 {h : Hp} (S : XS h) : tg h 20 = 20 := S.1 (20, 20) (by decide)
theorem XS.t21 {h : Hp} (S : XS h) : tg h 21 = 20 := S.1 (21, 20) (by decide)
theorem XS.t22 {h : Hp} (S : XS h) : tg h 22 = 20 := S.1 (22, 20) (by decide)
theorem XS.t23 {h : Hp} (S : XS h) : tg h 23 = 20 := S.1 (23, 20) (by decide)
theorem XS.t24 {h : Hp} (S : XS h) : tg h 24 = 20 := S.1 (24, 20) (by decide)
theorem XS.t25 {h : Hp} (S : XS h) : tg h 25 = 20 := S.1 (25, 20) (by decide)
theorem XS.t26 {h : Hp} (S : XS h) : tg h 26 = 20 := S.1 (26, 20) (by decide)
theorem XS.t500 {h : Hp} (S : XS h) : tg h 500 = 30 := S.1 (500, 30) (by decide)
theorem XS.t501 {h : Hp} (S : XS h) : tg h 501 = 30 := S.1 (501, 30) (by decide)
theorem XS.f0_0 {h : Hp} (S : XS h) : fl h 0 0 = true := S.2.1 (0, 0) (by decide)
theorem XS.f0_1 {h : Hp} (S : XS h) : fl h 0 1 = true := S.2.1 (0, 1) (by decide)
theorem XS.f0_6 {h : Hp} (S : XS h) : fl h 0 6 = true := S.2.1 (0, 6) (by decide)
theorem XS.f0_7 {h : Hp} (S : XS h) : fl h 0 7 = true := S.2.1 (0, 7) (by decide)
theorem XS.f0_9 {h : Hp} (S : XS h) : fl h 0 9 = true := S.2.1 (0, 9) (by decide)
theorem XS.f0_10 {h : Hp} (S : XS h) : fl h 0 10 = true := S.2.1 (0, 10) (by decide)
theorem XS.f0_12 {h : Hp} (S : XS h) : fl h 0 12 = true := S.2.1 (0, 12) (by decide)
theorem XS.f0_13 {h : Hp} (S : XS h) : fl h 0 13 = true := S.2.1 (0, 13) (by decide)
theorem XS.f0_14 {h : Hp} (S : XS h) : fl h 0 14 = true := S.2.1 (0, 14) (by decide)
theorem XS.f0_15 {h : Hp} (S : XS h) : fl h 0 15 = true := S.2.1 (0, 15) (by decide)
theorem XS.f0_16 {h : Hp} (S : XS h) : fl h 0 16 = true := S.2.1 (0, 16) (by decide)
theorem XS.f1_0 {h : Hp} (S : XS h) : fl h 1 0 = true := S.2.1 (1, 0) (by decide)
theorem XS.f1_4 {h : Hp} (S : XS h) : fl h 1 4 = true := S.2.1 (1, 4) (by decide)
theorem XS.f7_0 {h : Hp} (S : XS h) : fl h 7 0 = true := S.2.1 (7, 0) (by decide)
theorem XS.f7_1 {h : Hp} (S : XS h) : fl h 7 1 = true := S.2.1 (7, 1) (by decide)
theorem XS.f7_2 {h : Hp} (S : XS h) : fl h 7 2 = true := S.2.1 (7, 2) (by decide)
theorem XS.f7_3 {h : Hp} (S : XS h) : fl h 7 3 = true := S.2.1 (7, 3) (by decide)
theorem XS.f8_0 {h : Hp} (S : XS h) : fl h 8 0 = true := S.2.1 (8, 0) (by decide)
theorem XS.f9_0 {h : Hp} (S : XS h) : fl h 9 0 = true := S.2.1 (9, 0) (by decide)
theorem XS.f10_0 {h : Hp} (S : XS h) : fl h 10 0 = true := S.2.1 (10, 0) (by decide)
theorem XS.f11_0 {h : Hp} (S : XS h) : fl h 11 0 = true := S.2.1 (11, 0) (by decide)
theorem XS.f17_0 {h : Hp} (S : XS h) : fl h 17 0 = true := S.2.1 (17, 0) (by decide)
theorem XS.f19_0 {h : Hp} (S : XS h) : fl h 19 0 = true := S.2.1 (19, 0) (by decide)
theorem XS.f19_1 {h : Hp} (S : XS h) : fl h 19 1 = true := S.2.1 (19, 1) (by decide)
theorem XS.f19_2 {h : Hp} (S : XS h) : fl h 19 2 = true := S.2.1 (19, 2) (by decide)
theorem XS.f19_3 {h : Hp} (S : XS h) : fl h 19 3 = true := S.2.1 (19, 3) (by decide)
theorem XS.l2 {h : Hp} (S : XS h) : ln h 2 = 7 := S.2.2 (2, 7) (by decide)
theorem XS.l4 {h : Hp} (S : XS h) : ln h 4 = 4 := S.2.2 (4, 4) (by decide)
theorem XS.l5 {h : Hp} (S : XS h) : ln h 5 = 8 := S.2.2 (5, 8) (by decide)
theorem XS.l6 {h : Hp} (S : XS h) : ln h 6 = 8 := S.2.2 (6, 8) (by decide)
theorem XS.l7 {h : Hp} (S : XS h) : ln h 7 = 4 := S.2.2 (7, 4) (by decide)
theorem XS.l12 {h : Hp} (S : XS h) : ln h 12 = 60 := S.2.2 (12, 60) (by decide)
theorem XS.l13 {h : Hp} (S : XS h) : ln h 13 = 60 := S.2.2 (13, 60) (by decide)
theorem XS.l14 {h : Hp} (S : XS h) : ln h 14 = 60 := S.2.2 (14, 60) (by decide)
theorem XS.l15 {h : Hp} (S : XS h) : ln h 15 = 60 := S.2.2 (15, 60) (by decide)
theorem XS.l18 {h : Hp} (S : XS h) : ln h 18 = 64 := S.2.2 (18, 64) (by decide)
theorem XS.l500 {h : Hp} (S : XS h) : ln h 500 = 8 := S.2.2 (500, 8) (by decide)
theorem XS.l501 {h : Hp} (S : XS h) : ln h 501 = 6 := S.2.2 (501, 6) (by decide)
end
section
def dl_Box_init : List (Nat × Instr × Nat) := [(0, .aload_n 0, 1), (1, .invokespecial 3, 3), (4, .aload_n 0, 1), (5, .bipush 7, 2), (7, .anewarray 9, 3), (10, .putfield 11, 3), (13, .aload_n 0, 1), (14, .iconst 0, 1), (15, .newarray .int, 2), (17, .putfield 17, 3), (20, .return_, 1)]
theorem dd_Box_init : Dall 2 dl_Box_init = true := by decide +kernel
theorem t_Box_init {h : Hp} {P : Value → Hp → Prop}  (T : (tg h 2 = 0) ∧ (tg (mk h 2 21 (7 : Int).toNat (7 : Int).toNat) 1 = 1) ∧ (tg (setF (mk h 2 21 (7 : Int).toNat (7 : Int).toNat) 1 0) 3 = 0) ∧ (tg (mk (setF (mk h 2 21 (7 : Int).toNat (7 : Int).toNat) 1 0) 3 20 (0 : Int).toNat (0 : Int).toNat) 1 = 1) ∧ P .null (setF (mk (setF (mk h 2 21 (7 : Int).toNat (7 : Int).toNat) 1 0) 3 20 (0 : Int).toNat (0 : Int).toNat) 1 4)) : R 2 0 [.ref 1] [] h P := by
  refine R_aload_n (Dat dd_Box_init 0 rfl) rfl rfl ?_
  refine R_call8 (Dat dd_Box_init 1 rfl) rfl rfl ?_
  refine R_aload_n (Dat dd_Box_init 2 rfl) rfl rfl ?_
  refine R_bipush (Dat dd_Box_init 3 rfl) (a := 7) rfl ?_
  obtain ⟨g1, T⟩ := T
  refine R_anew (Dat dd_Box_init 4 rfl) (t := 21) rfl rfl (q := 2) rfl g1 (Or.inl (by decide)) (by decide) (by decide) ?_
  obtain ⟨g2, T⟩ := T
  refine R_putr (Dat dd_Box_init 5 rfl) rfl rfl rfl (tok g2) rfl ?_
  refine R_aload_n (Dat dd_Box_init 6 rfl) rfl rfl ?_
  refine R_iconst (Dat dd_Box_init 7 rfl) ?_
  obtain ⟨g3, T⟩ := T
  refine R_newa (Dat dd_Box_init 8 rfl) rfl (q := 3) rfl g3 (Or.inl (by decide)) (by decide) (by decide) ?_
  obtain ⟨g4, T⟩ := T
  refine R_putr (Dat dd_Box_init 9 rfl) rfl rfl rfl (tok g4) rfl ?_
  exact R_return (Dat dd_Box_init 10 rfl) rfl T
def dl_Rule_init : List (Nat × Instr × Nat) := [(0, .aload_n 0, 1), (1, .invokespecial 3, 3), (4, .aload_n 0, 1), (5, .bipush 64, 2), (7, .newarray .int, 2), (9, .putfield 9, 3), (12, .return_, 1)]
theorem dd_Rule_init : Dall 4 dl_Rule_init = true := by decide +kernel
theorem t_Rule_init {h : Hp} {P : Value → Hp → Prop} {r : Nat} (T : (tg h (r + 1) = 0) ∧ ((r + 1) < 500) ∧ (tg (mk h (r + 1) 20 (64 : Int).toNat (64 : Int).toNat) r = 8) ∧ (child r 0 = (r + 1)) ∧ P .null (setF (mk h (r + 1) 20 (64 : Int).toNat (64 : Int).toNat) r 0)) : R 4 0 [.ref r] [] h P := by
  refine R_aload_n (Dat dd_Rule_init 0 rfl) rfl rfl ?_
  refine R_call8 (Dat dd_Rule_init 1 rfl) rfl rfl ?_
  refine R_aload_n (Dat dd_Rule_init 2 rfl) rfl rfl ?_
  refine R_bipush (Dat dd_Rule_init 3 rfl) (a := 64) rfl ?_
  obtain ⟨g1, T⟩ := T
  obtain ⟨g2, T⟩ := T
  refine R_newa (Dat dd_Rule_init 4 rfl) rfl (q := r + 1) rfl g1 (Or.inl g2) (by decide) (by decide) ?_
  obtain ⟨g3, T⟩ := T
  obtain ⟨g4, T⟩ := T
  refine R_putr (Dat dd_Rule_init 5 rfl) rfl rfl rfl (tok g3) g4 ?_
  exact R_return (Dat dd_Rule_init 6 rfl) rfl T
def dl_Box_firstFault : List (Nat × Instr × Nat) := [(0, .iconst 0, 1), (1, .istore_n 3, 1), (2, .iconst 0, 1), (3, .istore 4, 2), (5, .iconst 0, 1), (6, .istore 5, 2), (8, .iload 5, 2), (10, .iload_n 2, 1), (11, .if_icmp .ge 44, 3), (14, .iload_n 3, 1), (15, .aload_n 0, 1), (16, .iload_n 1, 1), (17, .iload 5, 2), (19, .iadd, 1), (20, .iaload, 1), (21, .iload 4, 2), (23, .invokestatic 21, 3), (26, .istore_n 3, 1), (27, .iload_n 3, 1), (28, .ifCond .ge 6, 3), (31, .iload 5, 2), (33, .ireturn, 1), (34, .iload 4, 2), (36, .iload_n 3, 1), (37, .iconst 3, 1), (38, .if_icmp .ne 7, 3), (41, .iconst 1, 1), (42, .goto 4, 3), (45, .iconst 0, 1), (46, .iadd, 1), (47, .istore 4, 2), (49, .iinc 5 1, 3), (52, .goto (-44), 3), (55, .iload_n 3, 1), (56, .iconst 3, 1), (57, .if_icmp .lt 13, 3), (60, .iload 4, 2), (62, .iconst 2, 1), (63, .if_icmp .lt 7, 3), (66, .iconst (-1), 1), (67, .goto 4, 3), (70, .iload_n 2, 1), (71, .ireturn, 1)]
theorem dd_Box_firstFault : Dall 13 dl_Box_firstFault = true := by decide +kernel
theorem t_Box_firstFault {h : Hp} {P : Value → Hp → Prop} {p1 p2 : Int} {p0 : Nat} (T : R 13 8 [.ref p0, .int (I p1), .int (I p2), .int (I 0), .int (I 0), .int (I 0)] [] h P) : R 13 0 [.ref p0, .int (I p1), .int (I p2), .retAddr 0, .retAddr 0, .retAddr 0] [] h P := by
  refine R_iconst (Dat dd_Box_firstFault 0 rfl) ?_
  refine R_istore_n (Dat dd_Box_firstFault 1 rfl) rfl rfl ?_
  refine R_iconst (Dat dd_Box_firstFault 2 rfl) ?_
  refine R_istore (Dat dd_Box_firstFault 3 rfl) rfl rfl ?_
  refine R_iconst (Dat dd_Box_firstFault 4 rfl) ?_
  refine R_istore (Dat dd_Box_firstFault 5 rfl) rfl rfl ?_
  exact T
theorem t_Box_firstFault_8 {h : Hp} {P : Value → Hp → Prop} {a1 a2 a3 a4 a5 : Int} {a0 : Nat} (T : (rng a5) ∧ (rng a2) ∧ ((a5 < a2 → (tg h a0 = 20 ∨ tg h a0 = 30) ∧ ((ln h a0 : Int) ≤ 2147483648) ∧ (0 ≤ (a1 + a5)) ∧ ((a1 + a5) < ln h a0) ∧ R 14 0 [.int (I a3), .int (I (iv h a0 (a1 + a5))), .int (I a4)] [] h (fun v h2 => R 13 26 [.ref a0, .int (I a1), .int (I a2), .int (I a3), .int (I a4), .int (I a5)] (v :: []) h2 P)) ∧ (¬ a5 < a2 → (rng a3) ∧ ((a3 < 3 → P (.int (I a2)) h) ∧ (¬ a3 < 3 → (rng a4) ∧ ((a4 < 2 → P (.int (I a2)) h) ∧ (¬ a4 < 2 → P (.int (I (-1))) h))))))) : R 13 8 [.ref a0, .int (I a1), .int (I a2), .int (I a3), .int (I a4), .int (I a5)] [] h P := by
  refine R_iload (Dat dd_Box_firstFault 6 rfl) rfl ?_
  refine R_iload_n (Dat dd_Box_firstFault 7 rfl) rfl ?_
  obtain ⟨g1, T⟩ := T
  obtain ⟨g2, T⟩ := T
  refine R_ic_ge (Dat dd_Box_firstFault 8 rfl) rfl g1 g2 (fun c => ?_) (fun c => ?_)
  · replace T := T.1 c
    refine R_iload_n (Dat dd_Box_firstFault 9 rfl) rfl ?_
    refine R_aload_n (Dat dd_Box_firstFault 10 rfl) rfl rfl ?_
    refine R_iload_n (Dat dd_Box_firstFault 11 rfl) rfl ?_
    refine R_iload (Dat dd_Box_firstFault 12 rfl) rfl ?_
    refine R_iadd (Dat dd_Box_firstFault 13 rfl) ?_
    obtain ⟨g3, T⟩ := T
    obtain ⟨g4, T⟩ := T
    obtain ⟨g5, T⟩ := T
    obtain ⟨g6, T⟩ := T
    refine R_iaload (Dat dd_Box_firstFault 14 rfl) g3 g4 g5 g6 ?_
    refine R_iload (Dat dd_Box_firstFault 15 rfl) rfl ?_
    exact R_call0 (Dat dd_Box_firstFault 16 rfl) rfl rfl rfl rfl rfl rfl T
  · replace T := T.2 c
    refine R_iload_n (Dat dd_Box_firstFault 33 rfl) rfl ?_
    refine R_iconst (Dat dd_Box_firstFault 34 rfl) ?_
    obtain ⟨g7, T⟩ := T
    refine R_ic_lt (Dat dd_Box_firstFault 35 rfl) rfl g7 (by decide) (fun c => ?_) (fun c => ?_)
    · replace T := T.1 c
      refine R_iload_n (Dat dd_Box_firstFault 41 rfl) rfl ?_
      exact R_ireturn (Dat dd_Box_firstFault 42 rfl) rfl T
    · replace T := T.2 c
      refine R_iload (Dat dd_Box_firstFault 36 rfl) rfl ?_
      refine R_iconst (Dat dd_Box_firstFault 37 rfl) ?_
      obtain ⟨g8, T⟩ := T
      refine R_ic_lt (Dat dd_Box_firstFault 38 rfl) rfl g8 (by decide) (fun c => ?_) (fun c => ?_)
      · replace T := T.1 c
        refine R_iload_n (Dat dd_Box_firstFault 41 rfl) rfl ?_
        exact R_ireturn (Dat dd_Box_firstFault 42 rfl) rfl T
      · replace T := T.2 c
        refine R_iconst (Dat dd_Box_firstFault 39 rfl) ?_
        refine R_goto (Dat dd_Box_firstFault 40 rfl) rfl ?_
        exact R_ireturn (Dat dd_Box_firstFault 42 rfl) rfl T
theorem t_Box_firstFault_26 {h : Hp} {P : Value → Hp → Prop} {a1 a2 a4 a5 s0 : Int} {a0 : Nat} {a3 : Value} (T : (rng s0) ∧ ((s0 < 0 → P (.int (I a5)) h) ∧ (¬ s0 < 0 → (rng s0) ∧ ((s0 = 3 → R 13 8 [.ref a0, .int (I a1), .int (I a2), .int (I s0), .int (I (a4 + 1)), .int (I (a5 + 1))] [] h P) ∧ (¬ s0 = 3 → R 13 8 [.ref a0, .int (I a1), .int (I a2), .int (I s0), .int (I (a4 + 0)), .int (I (a5 + 1))] [] h P))))) : R 13 26 [.ref a0, .int (I a1), .int (I a2), a3, .int (I a4), .int (I a5)] [.int (I s0)] h P := by
  refine R_istore_n (Dat dd_Box_firstFault 17 rfl) rfl rfl ?_
  refine R_iload_n (Dat dd_Box_firstFault 18 rfl) rfl ?_
  obtain ⟨g1, T⟩ := T
  refine R_if_ge (Dat dd_Box_firstFault 19 rfl) rfl g1  (fun c => ?_) (fun c => ?_)
  · replace T := T.1 c
    refine R_iload (Dat dd_Box_firstFault 20 rfl) rfl ?_
    exact R_ireturn (Dat dd_Box_firstFault 21 rfl) rfl T
  · replace T := T.2 c
    refine R_iload (Dat dd_Box_firstFault 22 rfl) rfl ?_
    refine R_iload_n (Dat dd_Box_firstFault 23 rfl) rfl ?_
    refine R_iconst (Dat dd_Box_firstFault 24 rfl) ?_
    obtain ⟨g2, T⟩ := T
    refine R_ic_ne (Dat dd_Box_firstFault 25 rfl) rfl g2 (by decide) (fun c => ?_) (fun c => ?_)
    · replace T := T.1 c
      refine R_iconst (Dat dd_Box_firstFault 26 rfl) ?_
      refine R_goto (Dat dd_Box_firstFault 27 rfl) rfl ?_
      refine R_iadd (Dat dd_Box_firstFault 29 rfl) ?_
      refine R_istore (Dat dd_Box_firstFault 30 rfl) rfl rfl ?_
      refine R_iinc (Dat dd_Box_firstFault 31 rfl) rfl rfl rfl ?_
      refine R_goto (Dat dd_Box_firstFault 32 rfl) rfl ?_
      exact T
    · replace T := T.2 c
      refine R_iconst (Dat dd_Box_firstFault 28 rfl) ?_
      refine R_iadd (Dat dd_Box_firstFault 29 rfl) ?_
      refine R_istore (Dat dd_Box_firstFault 30 rfl) rfl rfl ?_
      refine R_iinc (Dat dd_Box_firstFault 31 rfl) rfl rfl rfl ?_
      refine R_goto (Dat dd_Box_firstFault 32 rfl) rfl ?_
      exact T
def dl_Box_stateBehind : List (Nat × Instr × Nat) := [(0, .iload_n 0, 1), (1, .ifCond .ne 15, 3), (4, .iload_n 1, 1), (5, .bipush 103, 2), (7, .if_icmp .ne 7, 3), (10, .iconst 1, 1), (11, .goto 4, 3), (14, .iconst (-1), 1), (15, .ireturn, 1), (16, .iload_n 0, 1), (17, .iconst 3, 1), (18, .if_icmp .ge 23, 3), (21, .iload_n 1, 1), (22, .bipush 49, 2), (24, .if_icmp .lt 15, 3), (27, .iload_n 1, 1), (28, .bipush 57, 2), (30, .if_icmp .gt 9, 3), (33, .iload_n 0, 1), (34, .iconst 1, 1), (35, .iadd, 1), (36, .goto 4, 3), (39, .iconst (-1), 1), (40, .ireturn, 1), (41, .iload_n 1, 1), (42, .bipush 59, 2), (44, .if_icmp .ne 15, 3), (47, .iload_n 2, 1), (48, .bipush 7, 2), (50, .if_icmp .ge 7, 3), (53, .iconst 0, 1), (54, .goto 4, 3), (57, .iconst (-1), 1), (58, .ireturn, 1), (59, .iload_n 0, 1), (60, .iconst 3, 1), (61, .if_icmp .ne 11, 3), (64, .iload_n 1, 1), (65, .bipush 108, 2), (67, .if_icmp .ne 5, 3), (70, .iconst 4, 1), (71, .ireturn, 1), (72, .iload_n 0, 1), (73, .iconst 4, 1), (74, .if_icmp .ne 13, 3), (77, .iload_n 1, 1), (78, .bipush 111, 2), (80, .if_icmp .ne 7, 3), (83, .iconst 5, 1), (84, .goto 4, 3), (87, .iconst (-1), 1), (88, .ireturn, 1)]
theorem dd_Box_stateBehind : Dall 14 dl_Box_stateBehind = true := by decide +kernel
theorem t_Box_stateBehind {h : Hp} {P : Value → Hp → Prop} {p0 p1 p2 : Int} (T : (rng p0) ∧ ((p0 = 0 → (rng p1) ∧ ((p1 = 103 → P (.int (I 1)) h) ∧ (¬ p1 = 103 → P (.int (I (-1))) h))) ∧ (¬ p0 = 0 → (rng p0) ∧ ((p0 < 3 → (rng p1) ∧ ((p1 < 49 → P (.int (I (-1))) h) ∧ (¬ p1 < 49 → (rng p1) ∧ (((57 : Int) < p1 → P (.int (I (-1))) h) ∧ (¬ (57 : Int) < p1 → P (.int (I (p0 + 1))) h))))) ∧ (¬ p0 < 3 → (rng p1) ∧ ((p1 = 59 → (rng p2) ∧ ((p2 < 7 → P (.int (I 0)) h) ∧ (¬ p2 < 7 → P (.int (I (-1))) h))) ∧ (¬ p1 = 59 → (rng p0) ∧ ((p0 = 3 → (rng p1) ∧ ((p1 = 108 → P (.int (I 4)) h) ∧ (¬ p1 = 108 → (rng p0) ∧ ((p0 = 4 → (rng p1) ∧ ((p1 = 111 → P (.int (I 5)) h) ∧ (¬ p1 = 111 → P (.int (I (-1))) h))) ∧ (¬ p0 = 4 → P (.int (I (-1))) h))))) ∧ (¬ p0 = 3 → (rng p0) ∧ ((p0 = 4 → (rng p1) ∧ ((p1 = 111 → P (.int (I 5)) h) ∧ (¬ p1 = 111 → P (.int (I (-1))) h))) ∧ (¬ p0 = 4 → P (.int (I (-1))) h))))))))))) : R 14 0 [.int (I p0), .int (I p1), .int (I p2)] [] h P := by
  refine R_iload_n (Dat dd_Box_stateBehind 0 rfl) rfl ?_
  obtain ⟨g1, T⟩ := T
  refine R_if_ne (Dat dd_Box_stateBehind 1 rfl) rfl g1  (fun c => ?_) (fun c => ?_)
  · replace T := T.1 c
    refine R_iload_n (Dat dd_Box_stateBehind 2 rfl) rfl ?_
    refine R_bipush (Dat dd_Box_stateBehind 3 rfl) (a := 103) rfl ?_
    obtain ⟨g2, T⟩ := T
    refine R_ic_ne (Dat dd_Box_stateBehind 4 rfl) rfl g2 (by decide) (fun c => ?_) (fun c => ?_)
    · replace T := T.1 c
      refine R_iconst (Dat dd_Box_stateBehind 5 rfl) ?_
      refine R_goto (Dat dd_Box_stateBehind 6 rfl) rfl ?_
      exact R_ireturn (Dat dd_Box_stateBehind 8 rfl) rfl T
    · replace T := T.2 c
      refine R_iconst (Dat dd_Box_stateBehind 7 rfl) ?_
      exact R_ireturn (Dat dd_Box_stateBehind 8 rfl) rfl T
  · replace T := T.2 c
    refine R_iload_n (Dat dd_Box_stateBehind 9 rfl) rfl ?_
    refine R_iconst (Dat dd_Box_stateBehind 10 rfl) ?_
    obtain ⟨g3, T⟩ := T
    refine R_ic_ge (Dat dd_Box_stateBehind 11 rfl) rfl g3 (by decide) (fun c => ?_) (fun c => ?_)
    · replace T := T.1 c
      refine R_iload_n (Dat dd_Box_stateBehind 12 rfl) rfl ?_
      refine R_bipush (Dat dd_Box_stateBehind 13 rfl) (a := 49) rfl ?_
      obtain ⟨g4, T⟩ := T
      refine R_ic_lt (Dat dd_Box_stateBehind 14 rfl) rfl g4 (by decide) (fun c => ?_) (fun c => ?_)
      · replace T := T.1 c
        refine R_iconst (Dat dd_Box_stateBehind 22 rfl) ?_
        exact R_ireturn (Dat dd_Box_stateBehind 23 rfl) rfl T
      · replace T := T.2 c
        refine R_iload_n (Dat dd_Box_stateBehind 15 rfl) rfl ?_
        refine R_bipush (Dat dd_Box_stateBehind 16 rfl) (a := 57) rfl ?_
        obtain ⟨g5, T⟩ := T
        refine R_ic_gt (Dat dd_Box_stateBehind 17 rfl) rfl g5 (by decide) (fun c => ?_) (fun c => ?_)
        · replace T := T.1 c
          refine R_iconst (Dat dd_Box_stateBehind 22 rfl) ?_
          exact R_ireturn (Dat dd_Box_stateBehind 23 rfl) rfl T
        · replace T := T.2 c
          refine R_iload_n (Dat dd_Box_stateBehind 18 rfl) rfl ?_
          refine R_iconst (Dat dd_Box_stateBehind 19 rfl) ?_
          refine R_iadd (Dat dd_Box_stateBehind 20 rfl) ?_
          refine R_goto (Dat dd_Box_stateBehind 21 rfl) rfl ?_
          exact R_ireturn (Dat dd_Box_stateBehind 23 rfl) rfl T
    · replace T := T.2 c
      refine R_iload_n (Dat dd_Box_stateBehind 24 rfl) rfl ?_
      refine R_bipush (Dat dd_Box_stateBehind 25 rfl) (a := 59) rfl ?_
      obtain ⟨g6, T⟩ := T
      refine R_ic_ne (Dat dd_Box_stateBehind 26 rfl) rfl g6 (by decide) (fun c => ?_) (fun c => ?_)
      · replace T := T.1 c
        refine R_iload_n (Dat dd_Box_stateBehind 27 rfl) rfl ?_
        refine R_bipush (Dat dd_Box_stateBehind 28 rfl) (a := 7) rfl ?_
        obtain ⟨g7, T⟩ := T
        refine R_ic_ge (Dat dd_Box_stateBehind 29 rfl) rfl g7 (by decide) (fun c => ?_) (fun c => ?_)
        · replace T := T.1 c
          refine R_iconst (Dat dd_Box_stateBehind 30 rfl) ?_
          refine R_goto (Dat dd_Box_stateBehind 31 rfl) rfl ?_
          exact R_ireturn (Dat dd_Box_stateBehind 33 rfl) rfl T
        · replace T := T.2 c
          refine R_iconst (Dat dd_Box_stateBehind 32 rfl) ?_
          exact R_ireturn (Dat dd_Box_stateBehind 33 rfl) rfl T
      · replace T := T.2 c
        refine R_iload_n (Dat dd_Box_stateBehind 34 rfl) rfl ?_
        refine R_iconst (Dat dd_Box_stateBehind 35 rfl) ?_
        obtain ⟨g8, T⟩ := T
        refine R_ic_ne (Dat dd_Box_stateBehind 36 rfl) rfl g8 (by decide) (fun c => ?_) (fun c => ?_)
        · replace T := T.1 c
          refine R_iload_n (Dat dd_Box_stateBehind 37 rfl) rfl ?_
          refine R_bipush (Dat dd_Box_stateBehind 38 rfl) (a := 108) rfl ?_
          obtain ⟨g9, T⟩ := T
          refine R_ic_ne (Dat dd_Box_stateBehind 39 rfl) rfl g9 (by decide) (fun c => ?_) (fun c => ?_)
          · replace T := T.1 c
            refine R_iconst (Dat dd_Box_stateBehind 40 rfl) ?_
            exact R_ireturn (Dat dd_Box_stateBehind 41 rfl) rfl T
          · replace T := T.2 c
            refine R_iload_n (Dat dd_Box_stateBehind 42 rfl) rfl ?_
            refine R_iconst (Dat dd_Box_stateBehind 43 rfl) ?_
            obtain ⟨g10, T⟩ := T
            refine R_ic_ne (Dat dd_Box_stateBehind 44 rfl) rfl g10 (by decide) (fun c => ?_) (fun c => ?_)
            · replace T := T.1 c
              refine R_iload_n (Dat dd_Box_stateBehind 45 rfl) rfl ?_
              refine R_bipush (Dat dd_Box_stateBehind 46 rfl) (a := 111) rfl ?_
              obtain ⟨g11, T⟩ := T
              refine R_ic_ne (Dat dd_Box_stateBehind 47 rfl) rfl g11 (by decide) (fun c => ?_) (fun c => ?_)
              · replace T := T.1 c
                refine R_iconst (Dat dd_Box_stateBehind 48 rfl) ?_
                refine R_goto (Dat dd_Box_stateBehind 49 rfl) rfl ?_
                exact R_ireturn (Dat dd_Box_stateBehind 51 rfl) rfl T
              · replace T := T.2 c
                refine R_iconst (Dat dd_Box_stateBehind 50 rfl) ?_
                exact R_ireturn (Dat dd_Box_stateBehind 51 rfl) rfl T
            · replace T := T.2 c
              refine R_iconst (Dat dd_Box_stateBehind 50 rfl) ?_
              exact R_ireturn (Dat dd_Box_stateBehind 51 rfl) rfl T
        · replace T := T.2 c
          refine R_iload_n (Dat dd_Box_stateBehind 42 rfl) rfl ?_
          refine R_iconst (Dat dd_Box_stateBehind 43 rfl) ?_
          obtain ⟨g12, T⟩ := T
          refine R_ic_ne (Dat dd_Box_stateBehind 44 rfl) rfl g12 (by decide) (fun c => ?_) (fun c => ?_)
          · replace T := T.1 c
            refine R_iload_n (Dat dd_Box_stateBehind 45 rfl) rfl ?_
            refine R_bipush (Dat dd_Box_stateBehind 46 rfl) (a := 111) rfl ?_
            obtain ⟨g13, T⟩ := T
            refine R_ic_ne (Dat dd_Box_stateBehind 47 rfl) rfl g13 (by decide) (fun c => ?_) (fun c => ?_)
            · replace T := T.1 c
              refine R_iconst (Dat dd_Box_stateBehind 48 rfl) ?_
              refine R_goto (Dat dd_Box_stateBehind 49 rfl) rfl ?_
              exact R_ireturn (Dat dd_Box_stateBehind 51 rfl) rfl T
            · replace T := T.2 c
              refine R_iconst (Dat dd_Box_stateBehind 50 rfl) ?_
              exact R_ireturn (Dat dd_Box_stateBehind 51 rfl) rfl T
          · replace T := T.2 c
            refine R_iconst (Dat dd_Box_stateBehind 50 rfl) ?_
            exact R_ireturn (Dat dd_Box_stateBehind 51 rfl) rfl T
def dl_Box_fill : List (Nat × Instr × Nat) := [(0, .aload_n 0, 1), (1, .getfield 25, 3), (4, .istore 4, 2), (6, .aload_n 0, 1), (7, .iconst 0, 1), (8, .putfield 25, 3), (11, .iload_n 2, 1), (12, .istore 5, 2), (14, .iload 5, 2), (16, .iload_n 2, 1), (17, .iload_n 3, 1), (18, .iadd, 1), (19, .if_icmp .ge 83, 3), (22, .aload_n 0, 1), (23, .getfield 25, 3), (26, .bipush 7, 2), (28, .if_icmp .ge 74, 3), (31, .aload_n 1, 1), (32, .iload 5, 2), (34, .iconst 3, 1), (35, .iadd, 1), (36, .iload_n 2, 1), (37, .iload_n 3, 1), (38, .iadd, 1), (39, .invokestatic 29, 3), (42, .istore 6, 2), (44, .aload_n 0, 1), (45, .getfield 11, 3), (48, .aload_n 0, 1), (49, .getfield 25, 3), (52, .aload_n 0, 1), (53, .getfield 25, 3), (56, .iload 6, 2), (58, .aload_n 1, 1), (59, .iload 5, 2), (61, .iconst 1, 1), (62, .iadd, 1), (63, .iaload, 1), (64, .bipush 48, 2), (66, .isub, 1), (67, .aload_n 1, 1), (68, .iload 5, 2), (70, .iconst 2, 1), (71, .iadd, 1), (72, .iaload, 1), (73, .bipush 48, 2), (75, .isub, 1), (76, .invokestatic 33, 3), (79, .aastore, 1), (80, .aload_n 0, 1), (81, .dup, 1), (82, .getfield 25, 3), (85, .iconst 1, 1), (86, .iadd, 1), (87, .putfield 25, 3), (90, .iload 5, 2), (92, .iconst 4, 1), (93, .iload 6, 2), (95, .iadd, 1), (96, .iadd, 1), (97, .istore 5, 2), (99, .goto (-85), 3), (102, .aload_n 0, 1), (103, .getstatic 37, 3), (106, .aload_n 0, 1), (107, .getfield 25, 3), (110, .iaload, 1), (111, .putfield 40, 3), (114, .aload_n 0, 1), (115, .dup, 1), (116, .getfield 43, 3), (119, .iconst 1, 1), (120, .iadd, 1), (121, .putfield 43, 3), (124, .aload_n 0, 1), (125, .aload_n 0, 1), (126, .getfield 17, 3), (129, .aload_n 0, 1), (130, .getfield 40, 3), (133, .invokestatic 46, 3), (136, .putfield 17, 3), (139, .aload_n 0, 1), (140, .getfield 25, 3), (143, .iload 4, 2), (145, .if_icmp .eq 11, 3), (148, .aload_n 0, 1), (149, .getfield 17, 3), (152, .iconst 0, 1), (153, .invokestatic 50, 3), (156, .return_, 1)]
theorem dd_Box_fill : Dall 15 dl_Box_fill = true := by decide +kernel
theorem t_Box_fill {h : Hp} {P : Value → Hp → Prop} {p1 p2 : Int} {p0 : Nat} (S : XS h) (T : R 15 14 [.ref 1, .ref p0, .int (I p1), .int (I p2), .int (I (iv h 1 1)), .int (I p1), .retAddr 0] [] (setI h 1 1 0) P) : R 15 0 [.ref 1, .ref p0, .int (I p1), .int (I p2), .retAddr 0, .retAddr 0, .retAddr 0] [] h P := by
  refine R_aload_n (Dat dd_Box_fill 0 rfl) rfl rfl ?_
  refine R_geti (Dat dd_Box_fill 1 rfl) rfl rfl (tok S.t1) ?_
  refine R_istore (Dat dd_Box_fill 2 rfl) rfl rfl ?_
  refine R_aload_n (Dat dd_Box_fill 3 rfl) rfl rfl ?_
  refine R_iconst (Dat dd_Box_fill 4 rfl) ?_
  refine R_puti (Dat dd_Box_fill 5 rfl) rfl rfl rfl (tok S.t1) rfl (v := 0) rfl ?_
  refine R_iload_n (Dat dd_Box_fill 6 rfl) rfl ?_
  refine R_istore (Dat dd_Box_fill 7 rfl) rfl rfl ?_
  exact T
theorem t_Box_fill_14 {h : Hp} {P : Value → Hp → Prop} {a2 a3 a4 a5 : Int} {a1 : Nat} {a6 : Value} (S : XS h) (T : (rng a5) ∧ (rng (a2 + a3)) ∧ ((a5 < (a2 + a3) → (rng (iv h 1 1)) ∧ (((iv h 1 1) < 7 → R 16 0 [.ref a1, .int (I (a5 + 3)), .int (I (a2 + a3))] [] h (fun v h2 => R 15 42 [.ref 1, .ref a1, .int (I a2), .int (I a3), .int (I a4), .int (I a5), a6] (v :: []) h2 P)) ∧ (¬ (iv h 1 1) < 7 → (0 ≤ (iv h 1 1)) ∧ ((iv h 1 1) < 8) ∧ (okg 15 23 [.ref 1, .ref a1, .int (I a2), .int (I a3), .int (I a4), .int (I a5), a6] [.ref 1] [.ref 3, .int (I (iv (setI (setI h 1 2 (wr (iv h 500 (iv h 1 1)))) 1 3 (wr ((iv (setI h 1 2 (wr (iv h 500 (iv h 1 1)))) 1 3) + 1))) 1 2))] = true) ∧ R 23 0 [.ref 3, .int (I (iv (setI (setI h 1 2 (wr (iv h 500 (iv h 1 1)))) 1 3 (wr ((iv (setI h 1 2 (wr (iv h 500 (iv h 1 1)))) 1 3) + 1))) 1 2))] [] (setI (setI h 1 2 (wr (iv h 500 (iv h 1 1)))) 1 3 (wr ((iv (setI h 1 2 (wr (iv h 500 (iv h 1 1)))) 1 3) + 1))) (fun v h2 => R 15 136 [.ref 1, .ref a1, .int (I a2), .int (I a3), .int (I a4), .int (I a5), a6] (v :: [.ref 1]) h2 P)))) ∧ (¬ a5 < (a2 + a3) → (0 ≤ (iv h 1 1)) ∧ ((iv h 1 1) < 8) ∧ (okg 15 23 [.ref 1, .ref a1, .int (I a2), .int (I a3), .int (I a4), .int (I a5), a6] [.ref 1] [.ref 3, .int (I (iv (setI (setI h 1 2 (wr (iv h 500 (iv h 1 1)))) 1 3 (wr ((iv (setI h 1 2 (wr (iv h 500 (iv h 1 1)))) 1 3) + 1))) 1 2))] = true) ∧ R 23 0 [.ref 3, .int (I (iv (setI (setI h 1 2 (wr (iv h 500 (iv h 1 1)))) 1 3 (wr ((iv (setI h 1 2 (wr (iv h 500 (iv h 1 1)))) 1 3) + 1))) 1 2))] [] (setI (setI h 1 2 (wr (iv h 500 (iv h 1 1)))) 1 3 (wr ((iv (setI h 1 2 (wr (iv h 500 (iv h 1 1)))) 1 3) + 1))) (fun v h2 => R 15 136 [.ref 1, .ref a1, .int (I a2), .int (I a3), .int (I a4), .int (I a5), a6] (v :: [.ref 1]) h2 P)))) : R 15 14 [.ref 1, .ref a1, .int (I a2), .int (I a3), .int (I a4), .int (I a5), a6] [] h P := by
  refine R_iload (Dat dd_Box_fill 8 rfl) rfl ?_
  refine R_iload_n (Dat dd_Box_fill 9 rfl) rfl ?_
  refine R_iload_n (Dat dd_Box_fill 10 rfl) rfl ?_
  refine R_iadd (Dat dd_Box_fill 11 rfl) ?_
  obtain ⟨g1, T⟩ := T
  obtain ⟨g2, T⟩ := T
  refine R_ic_ge (Dat dd_Box_fill 12 rfl) rfl g1 g2 (fun c => ?_) (fun c => ?_)
  · replace T := T.1 c
    refine R_aload_n (Dat dd_Box_fill 13 rfl) rfl rfl ?_
    refine R_geti (Dat dd_Box_fill 14 rfl) rfl rfl (tok S.t1) ?_
    refine R_bipush (Dat dd_Box_fill 15 rfl) (a := 7) rfl ?_
    obtain ⟨g3, T⟩ := T
    refine R_ic_ge (Dat dd_Box_fill 16 rfl) rfl g3 (by decide) (fun c => ?_) (fun c => ?_)
    · replace T := T.1 c
      refine R_aload_n (Dat dd_Box_fill 17 rfl) rfl rfl ?_
      refine R_iload (Dat dd_Box_fill 18 rfl) rfl ?_
      refine R_iconst (Dat dd_Box_fill 19 rfl) ?_
      refine R_iadd (Dat dd_Box_fill 20 rfl) ?_
      refine R_iload_n (Dat dd_Box_fill 21 rfl) rfl ?_
      refine R_iload_n (Dat dd_Box_fill 22 rfl) rfl ?_
      refine R_iadd (Dat dd_Box_fill 23 rfl) ?_
      exact R_call0 (Dat dd_Box_fill 24 rfl) rfl rfl rfl rfl rfl rfl T
    · replace T := T.2 c
      refine R_aload_n (Dat dd_Box_fill 62 rfl) rfl rfl ?_
      refine R_getst (Dat dd_Box_fill 63 rfl) (r := 500) rfl S.t500 ?_
      refine R_aload_n (Dat dd_Box_fill 64 rfl) rfl rfl ?_
      refine R_geti (Dat dd_Box_fill 65 rfl) rfl rfl (tok S.t1) ?_
      obtain ⟨g4, T⟩ := T
      obtain ⟨g5, T⟩ := T
      refine R_iaload (Dat dd_Box_fill 66 rfl) (Or.inr S.t500) (lnle (show ln h 500 = 8 from S.l500) (by decide)) g4 (lnlt (show ln h 500 = 8 from S.l500) g5) ?_
      refine R_puti (Dat dd_Box_fill 67 rfl) rfl rfl rfl (tok S.t1) rfl (v := wr (iv h 500 (iv h 1 1))) rfl ?_
      refine R_aload_n (Dat dd_Box_fill 68 rfl) rfl rfl ?_
      refine R_dup (Dat dd_Box_fill 69 rfl) rfl ?_
      refine R_geti (Dat dd_Box_fill 70 rfl) rfl rfl (tok S.t1) ?_
      refine R_iconst (Dat dd_Box_fill 71 rfl) ?_
      refine R_iadd (Dat dd_Box_fill 72 rfl) ?_
      refine R_puti (Dat dd_Box_fill 73 rfl) rfl rfl rfl (tok S.t1) rfl (v := wr ((iv (setI h 1 2 (wr (iv h 500 (iv h 1 1)))) 1 3) + 1)) rfl ?_
      refine R_aload_n (Dat dd_Box_fill 74 rfl) rfl rfl ?_
      refine R_aload_n (Dat dd_Box_fill 75 rfl) rfl rfl ?_
      refine R_getr (Dat dd_Box_fill 76 rfl) rfl rfl (tok S.t1) S.f1_4 (q := 3) rfl (tnz S.t3) ?_
      refine R_aload_n (Dat dd_Box_fill 77 rfl) rfl rfl ?_
      refine R_geti (Dat dd_Box_fill 78 rfl) rfl rfl (tok S.t1) ?_
      obtain ⟨g6, T⟩ := T
      exact R_call3 (Dat dd_Box_fill 79 rfl) rfl rfl rfl rfl g6 rfl T
  · replace T := T.2 c
    refine R_aload_n (Dat dd_Box_fill 62 rfl) rfl rfl ?_
    refine R_getst (Dat dd_Box_fill 63 rfl) (r := 500) rfl S.t500 ?_
    refine R_aload_n (Dat dd_Box_fill 64 rfl) rfl rfl ?_
    refine R_geti (Dat dd_Box_fill 65 rfl) rfl rfl (tok S.t1) ?_
    obtain ⟨g7, T⟩ := T
    obtain ⟨g8, T⟩ := T
    refine R_iaload (Dat dd_Box_fill 66 rfl) (Or.inr S.t500) (lnle (show ln h 500 = 8 from S.l500) (by decide)) g7 (lnlt (show ln h 500 = 8 from S.l500) g8) ?_
    refine R_puti (Dat dd_Box_fill 67 rfl) rfl rfl rfl (tok S.t1) rfl (v := wr (iv h 500 (iv h 1 1))) rfl ?_
    refine R_aload_n (Dat dd_Box_fill 68 rfl) rfl rfl ?_
    refine R_dup (Dat dd_Box_fill 69 rfl) rfl ?_
    refine R_geti (Dat dd_Box_fill 70 rfl) rfl rfl (tok S.t1) ?_
    refine R_iconst (Dat dd_Box_fill 71 rfl) ?_
    refine R_iadd (Dat dd_Box_fill 72 rfl) ?_
    refine R_puti (Dat dd_Box_fill 73 rfl) rfl rfl rfl (tok S.t1) rfl (v := wr ((iv (setI h 1 2 (wr (iv h 500 (iv h 1 1)))) 1 3) + 1)) rfl ?_
    refine R_aload_n (Dat dd_Box_fill 74 rfl) rfl rfl ?_
    refine R_aload_n (Dat dd_Box_fill 75 rfl) rfl rfl ?_
    refine R_getr (Dat dd_Box_fill 76 rfl) rfl rfl (tok S.t1) S.f1_4 (q := 3) rfl (tnz S.t3) ?_
    refine R_aload_n (Dat dd_Box_fill 77 rfl) rfl rfl ?_
    refine R_geti (Dat dd_Box_fill 78 rfl) rfl rfl (tok S.t1) ?_
    obtain ⟨g9, T⟩ := T
    exact R_call3 (Dat dd_Box_fill 79 rfl) rfl rfl rfl rfl g9 rfl T
theorem t_Box_fill_42 {h : Hp} {P : Value → Hp → Prop} {a2 a3 a4 a5 s0 : Int} {a1 : Nat} {a6 : Value} (S : XS h) (T : (tg h a1 = 20 ∨ tg h a1 = 30) ∧ ((ln h a1 : Int) ≤ 2147483648) ∧ (0 ≤ (a5 + 1)) ∧ ((a5 + 1) < ln h a1) ∧ (tg h a1 = 20 ∨ tg h a1 = 30) ∧ ((ln h a1 : Int) ≤ 2147483648) ∧ (0 ≤ (a5 + 2)) ∧ ((a5 + 2) < ln h a1) ∧ (okg 15 17 [.ref 1, .ref a1, .int (I a2), .int (I a3), .int (I a4), .int (I a5), .int (I s0)] [.int (I (iv h 1 1)), .ref 2] [.int (I (iv h 1 1)), .int (I s0), .int (I ((iv h a1 (a5 + 1)) - 48)), .int (I ((iv h a1 (a5 + 2)) - 48))] = true) ∧ R 17 0 [.int (I (iv h 1 1)), .int (I s0), .int (I ((iv h a1 (a5 + 1)) - 48)), .int (I ((iv h a1 (a5 + 2)) - 48))] [] h (fun v h2 => R 15 79 [.ref 1, .ref a1, .int (I a2), .int (I a3), .int (I a4), .int (I a5), .int (I s0)] (v :: [.int (I (iv h 1 1)), .ref 2]) h2 P)) : R 15 42 [.ref 1, .ref a1, .int (I a2), .int (I a3), .int (I a4), .int (I a5), a6] [.int (I s0)] h P := by
  refine R_istore (Dat dd_Box_fill 25 rfl) rfl rfl ?_
  refine R_aload_n (Dat dd_Box_fill 26 rfl) rfl rfl ?_
  refine R_getr (Dat dd_Box_fill 27 rfl) rfl rfl (tok S.t1) S.f1_0 (q := 2) rfl (tnz S.t2) ?_
  refine R_aload_n (Dat dd_Box_fill 28 rfl) rfl rfl ?_
  refine R_geti (Dat dd_Box_fill 29 rfl) rfl rfl (tok S.t1) ?_
  refine R_aload_n (Dat dd_Box_fill 30 rfl) rfl rfl ?_
  refine R_geti (Dat dd_Box_fill 31 rfl) rfl rfl (tok S.t1) ?_
  refine R_iload (Dat dd_Box_fill 32 rfl) rfl ?_
  refine R_aload_n (Dat dd_Box_fill 33 rfl) rfl rfl ?_
  refine R_iload (Dat dd_Box_fill 34 rfl) rfl ?_
  refine R_iconst (Dat dd_Box_fill 35 rfl) ?_
  refine R_iadd (Dat dd_Box_fill 36 rfl) ?_
  obtain ⟨g1, T⟩ := T
  obtain ⟨g2, T⟩ := T
  obtain ⟨g3, T⟩ := T
  obtain ⟨g4, T⟩ := T
  refine R_iaload (Dat dd_Box_fill 37 rfl) g1 g2 g3 g4 ?_
  refine R_bipush (Dat dd_Box_fill 38 rfl) (a := 48) rfl ?_
  refine R_isub (Dat dd_Box_fill 39 rfl) ?_
  refine R_aload_n (Dat dd_Box_fill 40 rfl) rfl rfl ?_
  refine R_iload (Dat dd_Box_fill 41 rfl) rfl ?_
  refine R_iconst (Dat dd_Box_fill 42 rfl) ?_
  refine R_iadd (Dat dd_Box_fill 43 rfl) ?_
  obtain ⟨g5, T⟩ := T
  obtain ⟨g6, T⟩ := T
  obtain ⟨g7, T⟩ := T
  obtain ⟨g8, T⟩ := T
  refine R_iaload (Dat dd_Box_fill 44 rfl) g5 g6 g7 g8 ?_
  refine R_bipush (Dat dd_Box_fill 45 rfl) (a := 48) rfl ?_
  refine R_isub (Dat dd_Box_fill 46 rfl) ?_
  obtain ⟨g9, T⟩ := T
  exact R_call0 (Dat dd_Box_fill 47 rfl) rfl rfl rfl rfl g9 rfl T
theorem t_Box_fill_136 {h : Hp} {P : Value → Hp → Prop} {a4 : Int} {s0 : Nat} {a1 a2 a3 a5 a6 : Value} (S : XS h) (T : (s0 = 3 ∨ s0 = 38) ∧ ((s0 = 3 → (rng (iv (setF h 1 4) 1 1)) ∧ (rng a4) ∧ (((iv (setF h 1 4) 1 1) = a4 → P .null (setF h 1 4)) ∧ (¬ (iv (setF h 1 4) 1 1) = a4 → (fl (setF h 1 4) 1 4 = true) ∧ R 24 0 [.ref 3, .int (I 0), .retAddr 0, .retAddr 0] [] (setF h 1 4) (fun _ h2 => R 15 156 [.ref 1, a1, a2, a3, .int (I a4), a5, a6] [] h2 P)))) ∧ (s0 = 38 → (mv 15 && gw 3 && !gw 1 && decide (3 < 37 ∨ 38 < 3) && tg h 38 == 20 && ng [.ref 1, a1, a2, a3, .int (I a4), a5, a6] && ng []) = true ∧ 3 ≠ 38 ∧ (tg (mov h 1 4 3 38) 1 = 1) ∧ (rng (iv (mov h 1 4 3 38) 1 1)) ∧ (rng a4) ∧ (((iv (mov h 1 4 3 38) 1 1) = a4 → P .null (mov h 1 4 3 38)) ∧ (¬ (iv (mov h 1 4 3 38) 1 1) = a4 → (tg (mov h 1 4 3 38) 1 = 1) ∧ (fl (mov h 1 4 3 38) 1 4 = true) ∧ (tg (mov h 1 4 3 38) 3 ≠ 0) ∧ R 24 0 [.ref 3, .int (I 0), .retAddr 0, .retAddr 0] [] (mov h 1 4 3 38) (fun _ h2 => R 15 156 [.ref 1, a1, a2, a3, .int (I a4), a5, a6] [] h2 P)))))) : R 15 136 [.ref 1, a1, a2, a3, .int (I a4), a5, a6] [.ref s0, .ref 1] h P := by
  obtain ⟨g1, T⟩ := T
  rcases g1 with e | e
  · replace T := T.1 e
    subst e
    refine R_putr (Dat dd_Box_fill 80 rfl) rfl rfl rfl (tok S.t1) rfl ?_
    refine R_aload_n (Dat dd_Box_fill 81 rfl) rfl rfl ?_
    refine R_geti (Dat dd_Box_fill 82 rfl) rfl rfl (tok S.t1) ?_
    refine R_iload (Dat dd_Box_fill 83 rfl) rfl ?_
    obtain ⟨g2, T⟩ := T
    obtain ⟨g3, T⟩ := T
    refine R_ic_eq (Dat dd_Box_fill 84 rfl) rfl g2 g3 (fun c => ?_) (fun c => ?_)
    · replace T := T.1 c
      exact R_return (Dat dd_Box_fill 89 rfl) rfl T
    · replace T := T.2 c
      refine R_aload_n (Dat dd_Box_fill 85 rfl) rfl rfl ?_
      obtain ⟨g4, T⟩ := T
      refine R_getr (Dat dd_Box_fill 86 rfl) rfl rfl (tok S.t1) g4 (q := 3) rfl (tnz S.t3) ?_
      refine R_iconst (Dat dd_Box_fill 87 rfl) ?_
      exact R_call0 (Dat dd_Box_fill 88 rfl) rfl rfl rfl rfl rfl rfl T
  · replace T := T.2 e
    subst e
    obtain ⟨g5, g6, T⟩ := T
    refine R_putm (Dat dd_Box_fill 80 rfl) rfl rfl rfl (tok S.t1) (q := 3) rfl g6 g5 ?_
    refine R_aload_n (Dat dd_Box_fill 81 rfl) rfl rfl ?_
    obtain ⟨g7, T⟩ := T
    refine R_geti (Dat dd_Box_fill 82 rfl) rfl rfl (tok g7) ?_
    refine R_iload (Dat dd_Box_fill 83 rfl) rfl ?_
    obtain ⟨g8, T⟩ := T
    obtain ⟨g9, T⟩ := T
    refine R_ic_eq (Dat dd_Box_fill 84 rfl) rfl g8 g9 (fun c => ?_) (fun c => ?_)
    · replace T := T.1 c
      exact R_return (Dat dd_Box_fill 89 rfl) rfl T
    · replace T := T.2 c
      refine R_aload_n (Dat dd_Box_fill 85 rfl) rfl rfl ?_
      obtain ⟨g10, T⟩ := T
      obtain ⟨g11, T⟩ := T
      obtain ⟨g12, T⟩ := T
      refine R_getr (Dat dd_Box_fill 86 rfl) rfl rfl (tok g10) g11 (q := 3) rfl g12 ?_
      refine R_iconst (Dat dd_Box_fill 87 rfl) ?_
      exact R_call0 (Dat dd_Box_fill 88 rfl) rfl rfl rfl rfl rfl rfl T
theorem t_Box_fill_79 {h : Hp} {P : Value → Hp → Prop} {a2 a3 a4 a5 a6 s1 : Int} {a1 : Nat} (S : XS h) (T : (elok (tg h 2) (tg h 37) = true) ∧ ((ln h 2 : Int) ≤ 2147483648) ∧ (0 ≤ s1) ∧ (s1 < ln h 2) ∧ ((tg h 2 == 21 && mv 15 && gw (child 2 (s1).toNat) && !gw 2 && decide (child 2 (s1).toNat < 37) && ng [.ref 1, .ref a1, .int (I a2), .int (I a3), .int (I a4), .int (I a5), .int (I a6)] && ng []) = true) ∧ (tg (mov h 2 (s1).toNat (child 2 (s1).toNat) 37) 1 = 1) ∧ (tg (mov h 2 (s1).toNat (child 2 (s1).toNat) 37) 1 = 1) ∧ R 15 14 [.ref 1, .ref a1, .int (I a2), .int (I a3), .int (I a4), .int (I (a5 + (4 + a6))), .int (I a6)] [] (setI (mov h 2 (s1).toNat (child 2 (s1).toNat) 37) 1 1 (wr ((iv (mov h 2 (s1).toNat (child 2 (s1).toNat) 37) 1 1) + 1))) P) : R 15 79 [.ref 1, .ref a1, .int (I a2), .int (I a3), .int (I a4), .int (I a5), .int (I a6)] [.ref 37, .int (I s1), .ref 2] h P := by
  obtain ⟨g1, T⟩ := T
  obtain ⟨g2, T⟩ := T
  obtain ⟨g3, T⟩ := T
  obtain ⟨g4, T⟩ := T
  obtain ⟨g5, T⟩ := T
  refine R_aastorem (Dat dd_Box_fill 48 rfl) g1 g2 g3 g4 rfl g5 ?_
  refine R_aload_n (Dat dd_Box_fill 49 rfl) rfl rfl ?_
  refine R_dup (Dat dd_Box_fill 50 rfl) rfl ?_
  obtain ⟨g6, T⟩ := T
  refine R_geti (Dat dd_Box_fill 51 rfl) rfl rfl (tok g6) ?_
  refine R_iconst (Dat dd_Box_fill 52 rfl) ?_
  refine R_iadd (Dat dd_Box_fill 53 rfl) ?_
  obtain ⟨g7, T⟩ := T
  refine R_puti (Dat dd_Box_fill 54 rfl) rfl rfl rfl (tok g7) rfl (v := wr ((iv (mov h 2 (s1).toNat (child 2 (s1).toNat) 37) 1 1) + 1)) rfl ?_
  refine R_iload (Dat dd_Box_fill 55 rfl) rfl ?_
  refine R_iconst (Dat dd_Box_fill 56 rfl) ?_
  refine R_iload (Dat dd_Box_fill 57 rfl) rfl ?_
  refine R_iadd (Dat dd_Box_fill 58 rfl) ?_
  refine R_iadd (Dat dd_Box_fill 59 rfl) ?_
  refine R_istore (Dat dd_Box_fill 60 rfl) rfl rfl ?_
  refine R_goto (Dat dd_Box_fill 61 rfl) rfl ?_
  exact T
theorem t_Box_fill_156 {h : Hp} {P : Value → Hp → Prop} {a0 a1 a2 a3 a4 a5 a6 : Value} (S : XS h) (T : P .null h) : R 15 156 [a0, a1, a2, a3, a4, a5, a6] [] h P := by
  exact R_return (Dat dd_Box_fill 89 rfl) rfl T
def dl_Box_kindAt : List (Nat × Instr × Nat) := [(0, .iload_n 1, 1), (1, .iload_n 2, 1), (2, .if_icmp .ge 11, 3), (5, .aload_n 0, 1), (6, .iload_n 1, 1), (7, .iaload, 1), (8, .bipush 108, 2), (10, .if_icmp .eq 5, 3), (13, .iconst 0, 1), (14, .ireturn, 1), (15, .iload_n 1, 1), (16, .iconst 1, 1), (17, .iadd, 1), (18, .iload_n 2, 1), (19, .if_icmp .ge 17, 3), (22, .aload_n 0, 1), (23, .iload_n 1, 1), (24, .iconst 1, 1), (25, .iadd, 1), (26, .iaload, 1), (27, .bipush 111, 2), (29, .if_icmp .ne 7, 3), (32, .iconst 2, 1), (33, .goto 4, 3), (36, .iconst 1, 1), (37, .ireturn, 1)]
theorem dd_Box_kindAt : Dall 16 dl_Box_kindAt = true := by decide +kernel
theorem t_Box_kindAt {h : Hp} {P : Value → Hp → Prop} {p1 p2 : Int} {p0 : Nat} (T : (rng p1) ∧ (rng p2) ∧ ((p1 < p2 → (tg h p0 = 20 ∨ tg h p0 = 30) ∧ ((ln h p0 : Int) ≤ 2147483648) ∧ (0 ≤ p1) ∧ (p1 < ln h p0) ∧ (rng (iv h p0 p1)) ∧ (((iv h p0 p1) = 108 → (rng (p1 + 1)) ∧ (rng p2) ∧ (((p1 + 1) < p2 → (tg h p0 = 20 ∨ tg h p0 = 30) ∧ ((ln h p0 : Int) ≤ 2147483648) ∧ (0 ≤ (p1 + 1)) ∧ ((p1 + 1) < ln h p0) ∧ (rng (iv h p0 (p1 + 1))) ∧ (((iv h p0 (p1 + 1)) = 111 → P (.int (I 2)) h) ∧ (¬ (iv h p0 (p1 + 1)) = 111 → P (.int (I 1)) h))) ∧ (¬ (p1 + 1) < p2 → P (.int (I 1)) h))) ∧ (¬ (iv h p0 p1) = 108 → P (.int (I 0)) h))) ∧ (¬ p1 < p2 → P (.int (I 0)) h))) : R 16 0 [.ref p0, .int (I p1), .int (I p2)] [] h P := by
  refine R_iload_n (Dat dd_Box_kindAt 0 rfl) rfl ?_
  refine R_iload_n (Dat dd_Box_kindAt 1 rfl) rfl ?_
  obtain ⟨g1, T⟩ := T
  obtain ⟨g2, T⟩ := T
  refine R_ic_ge (Dat dd_Box_kindAt 2 rfl) rfl g1 g2 (fun c => ?_) (fun c => ?_)
  · replace T := T.1 c
    refine R_aload_n (Dat dd_Box_kindAt 3 rfl) rfl rfl ?_
    refine R_iload_n (Dat dd_Box_kindAt 4 rfl) rfl ?_
    obtain ⟨g3, T⟩ := T
    obtain ⟨g4, T⟩ := T
    obtain ⟨g5, T⟩ := T
    obtain ⟨g6, T⟩ := T
    refine R_iaload (Dat dd_Box_kindAt 5 rfl) g3 g4 g5 g6 ?_
    refine R_bipush (Dat dd_Box_kindAt 6 rfl) (a := 108) rfl ?_
    obtain ⟨g7, T⟩ := T
    refine R_ic_eq (Dat dd_Box_kindAt 7 rfl) rfl g7 (by decide) (fun c => ?_) (fun c => ?_)
    · replace T := T.1 c
      refine R_iload_n (Dat dd_Box_kindAt 10 rfl) rfl ?_
      refine R_iconst (Dat dd_Box_kindAt 11 rfl) ?_
      refine R_iadd (Dat dd_Box_kindAt 12 rfl) ?_
      refine R_iload_n (Dat dd_Box_kindAt 13 rfl) rfl ?_
      obtain ⟨g8, T⟩ := T
      obtain ⟨g9, T⟩ := T
      refine R_ic_ge (Dat dd_Box_kindAt 14 rfl) rfl g8 g9 (fun c => ?_) (fun c => ?_)
      · replace T := T.1 c
        refine R_aload_n (Dat dd_Box_kindAt 15 rfl) rfl rfl ?_
        refine R_iload_n (Dat dd_Box_kindAt 16 rfl) rfl ?_
        refine R_iconst (Dat dd_Box_kindAt 17 rfl) ?_
        refine R_iadd (Dat dd_Box_kindAt 18 rfl) ?_
        obtain ⟨g10, T⟩ := T
        obtain ⟨g11, T⟩ := T
        obtain ⟨g12, T⟩ := T
        obtain ⟨g13, T⟩ := T
        refine R_iaload (Dat dd_Box_kindAt 19 rfl) g10 g11 g12 g13 ?_
        refine R_bipush (Dat dd_Box_kindAt 20 rfl) (a := 111) rfl ?_
        obtain ⟨g14, T⟩ := T
        refine R_ic_ne (Dat dd_Box_kindAt 21 rfl) rfl g14 (by decide) (fun c => ?_) (fun c => ?_)
        · replace T := T.1 c
          refine R_iconst (Dat dd_Box_kindAt 22 rfl) ?_
          refine R_goto (Dat dd_Box_kindAt 23 rfl) rfl ?_
          exact R_ireturn (Dat dd_Box_kindAt 25 rfl) rfl T
        · replace T := T.2 c
          refine R_iconst (Dat dd_Box_kindAt 24 rfl) ?_
          exact R_ireturn (Dat dd_Box_kindAt 25 rfl) rfl T
      · replace T := T.2 c
        refine R_iconst (Dat dd_Box_kindAt 24 rfl) ?_
        exact R_ireturn (Dat dd_Box_kindAt 25 rfl) rfl T
    · replace T := T.2 c
      refine R_iconst (Dat dd_Box_kindAt 8 rfl) ?_
      exact R_ireturn (Dat dd_Box_kindAt 9 rfl) rfl T
  · replace T := T.2 c
    refine R_iconst (Dat dd_Box_kindAt 8 rfl) ?_
    exact R_ireturn (Dat dd_Box_kindAt 9 rfl) rfl T
def dl_Box_grainOf : List (Nat × Instr × Nat) := [(0, .iload_n 1, 1), (1, .ifCond .ne 14, 3), (4, .new 9, 3), (7, .dup, 1), (8, .iload_n 0, 1), (9, .iload_n 2, 1), (10, .iload_n 3, 1), (11, .invokespecial 56, 3), (14, .areturn, 1), (15, .iload_n 1, 1), (16, .iconst 1, 1), (17, .if_icmp .ne 16, 3), (20, .new 59, 3), (23, .dup, 1), (24, .iload_n 0, 1), (25, .iload_n 2, 1), (26, .iload_n 3, 1), (27, .invokespecial 61, 3), (30, .goto 13, 3), (33, .new 62, 3), (36, .dup, 1), (37, .iload_n 0, 1), (38, .iload_n 2, 1), (39, .iload_n 3, 1), (40, .invokespecial 64, 3), (43, .areturn, 1)]
theorem dd_Box_grainOf : Dall 17 dl_Box_grainOf = true := by decide +kernel
theorem t_Box_grainOf {h : Hp} {P : Value → Hp → Prop} {p0 p1 p2 p3 : Int} (T : (rng p1) ∧ ((p1 = 0 → (tg h 37 = 0) ∧ R 18 0 [.ref 37, .int (I p0), .int (I p2), .int (I p3)] [] (mk h 37 3 0 6) (fun _ h2 => R 17 14 [.int (I p0), .int (I p1), .int (I p2), .int (I p3)] [.ref 37] h2 P)) ∧ (¬ p1 = 0 → (rng p1) ∧ ((p1 = 1 → (tg h 37 = 0) ∧ R 20 0 [.ref 37, .int (I p0), .int (I p2), .int (I p3)] [] (mk h 37 5 0 6) (fun _ h2 => R 17 30 [.int (I p0), .int (I p1), .int (I p2), .int (I p3)] [.ref 37] h2 P)) ∧ (¬ p1 = 1 → (tg h 37 = 0) ∧ R 21 0 [.ref 37, .int (I p0), .int (I p2), .int (I p3)] [] (mk h 37 7 0 6) (fun _ h2 => R 17 43 [.int (I p0), .int (I p1), .int (I p2), .int (I p3)] [.ref 37] h2 P)))))) : R 17 0 [.int (I p0), .int (I p1), .int (I p2), .int (I p3)] [] h P := by
  refine R_iload_n (Dat dd_Box_grainOf 0 rfl) rfl ?_
  obtain ⟨g1, T⟩ := T
  refine R_if_ne (Dat dd_Box_grainOf 1 rfl) rfl g1  (fun c => ?_) (fun c => ?_)
  · replace T := T.1 c
    obtain ⟨g2, T⟩ := T
    refine R_new (Dat dd_Box_grainOf 2 rfl) (ci := 2) rfl rfl (q := 37) rfl g2 (Or.inl (by decide)) ?_
    refine R_dup (Dat dd_Box_grainOf 3 rfl) rfl ?_
    refine R_iload_n (Dat dd_Box_grainOf 4 rfl) rfl ?_
    refine R_iload_n (Dat dd_Box_grainOf 5 rfl) rfl ?_
    refine R_iload_n (Dat dd_Box_grainOf 6 rfl) rfl ?_
    exact R_call2 (Dat dd_Box_grainOf 7 rfl) rfl rfl rfl rfl rfl rfl T
  · replace T := T.2 c
    refine R_iload_n (Dat dd_Box_grainOf 9 rfl) rfl ?_
    refine R_iconst (Dat dd_Box_grainOf 10 rfl) ?_
    obtain ⟨g3, T⟩ := T
    refine R_ic_ne (Dat dd_Box_grainOf 11 rfl) rfl g3 (by decide) (fun c => ?_) (fun c => ?_)
    · replace T := T.1 c
      obtain ⟨g4, T⟩ := T
      refine R_new (Dat dd_Box_grainOf 12 rfl) (ci := 4) rfl rfl (q := 37) rfl g4 (Or.inl (by decide)) ?_
      refine R_dup (Dat dd_Box_grainOf 13 rfl) rfl ?_
      refine R_iload_n (Dat dd_Box_grainOf 14 rfl) rfl ?_
      refine R_iload_n (Dat dd_Box_grainOf 15 rfl) rfl ?_
      refine R_iload_n (Dat dd_Box_grainOf 16 rfl) rfl ?_
      exact R_call2 (Dat dd_Box_grainOf 17 rfl) rfl rfl rfl rfl rfl rfl T
    · replace T := T.2 c
      obtain ⟨g5, T⟩ := T
      refine R_new (Dat dd_Box_grainOf 19 rfl) (ci := 6) rfl rfl (q := 37) rfl g5 (Or.inl (by decide)) ?_
      refine R_dup (Dat dd_Box_grainOf 20 rfl) rfl ?_
      refine R_iload_n (Dat dd_Box_grainOf 21 rfl) rfl ?_
      refine R_iload_n (Dat dd_Box_grainOf 22 rfl) rfl ?_
      refine R_iload_n (Dat dd_Box_grainOf 23 rfl) rfl ?_
      exact R_call2 (Dat dd_Box_grainOf 24 rfl) rfl rfl rfl rfl rfl rfl T
theorem t_Box_grainOf_14 {h : Hp} {P : Value → Hp → Prop} {a0 a1 a2 a3 : Value} (T : P (.ref 37) h) : R 17 14 [a0, a1, a2, a3] [.ref 37] h P := by
  exact R_areturn (Dat dd_Box_grainOf 8 rfl) rfl T
theorem t_Box_grainOf_30 {h : Hp} {P : Value → Hp → Prop} {a0 a1 a2 a3 : Value} (T : P (.ref 37) h) : R 17 30 [a0, a1, a2, a3] [.ref 37] h P := by
  refine R_goto (Dat dd_Box_grainOf 18 rfl) rfl ?_
  exact R_areturn (Dat dd_Box_grainOf 25 rfl) rfl T
theorem t_Box_grainOf_43 {h : Hp} {P : Value → Hp → Prop} {a0 a1 a2 a3 : Value} (T : P (.ref 37) h) : R 17 43 [a0, a1, a2, a3] [.ref 37] h P := by
  exact R_areturn (Dat dd_Box_grainOf 25 rfl) rfl T
def dl_Grain_init : List (Nat × Instr × Nat) := [(0, .aload_n 0, 1), (1, .iload_n 1, 1), (2, .iconst 0, 1), (3, .iload_n 2, 1), (4, .iload_n 3, 1), (5, .iload_n 2, 1), (6, .iload_n 3, 1), (7, .invokespecial 1, 3), (10, .return_, 1)]
theorem dd_Grain_init : Dall 18 dl_Grain_init = true := by decide +kernel
theorem t_Grain_init {h : Hp} {P : Value → Hp → Prop} {p0 p1 p2 : Int} {r : Nat} (T : R 19 0 [.ref r, .int (I p0), .int (I 0), .int (I p1), .int (I p2), .int (I p1), .int (I p2)] [] h (fun _ h2 => R 18 10 [.ref r, .int (I p0), .int (I p1), .int (I p2)] [] h2 P)) : R 18 0 [.ref r, .int (I p0), .int (I p1), .int (I p2)] [] h P := by
  refine R_aload_n (Dat dd_Grain_init 0 rfl) rfl rfl ?_
  refine R_iload_n (Dat dd_Grain_init 1 rfl) rfl ?_
  refine R_iconst (Dat dd_Grain_init 2 rfl) ?_
  refine R_iload_n (Dat dd_Grain_init 3 rfl) rfl ?_
  refine R_iload_n (Dat dd_Grain_init 4 rfl) rfl ?_
  refine R_iload_n (Dat dd_Grain_init 5 rfl) rfl ?_
  refine R_iload_n (Dat dd_Grain_init 6 rfl) rfl ?_
  exact R_call2 (Dat dd_Grain_init 7 rfl) rfl rfl rfl rfl rfl rfl T
theorem t_Grain_init_10 {h : Hp} {P : Value → Hp → Prop} {a0 a1 a2 a3 : Value} (T : P .null h) : R 18 10 [a0, a1, a2, a3] [] h P := by
  exact R_return (Dat dd_Grain_init 8 rfl) rfl T
def dl_Grain_init_6 : List (Nat × Instr × Nat) := [(0, .aload_n 0, 1), (1, .invokespecial 7, 3), (4, .aload_n 0, 1), (5, .iload_n 1, 1), (6, .putfield 12, 3), (9, .aload_n 0, 1), (10, .iload_n 2, 1), (11, .putfield 16, 3), (14, .aload_n 0, 1), (15, .iload_n 3, 1), (16, .putfield 19, 3), (19, .aload_n 0, 1), (20, .iload 4, 2), (22, .putfield 22, 3), (25, .aload_n 0, 1), (26, .iload 5, 2), (28, .putfield 25, 3), (31, .aload_n 0, 1), (32, .iload 6, 2), (34, .putfield 28, 3), (37, .return_, 1)]
theorem dd_Grain_init_6 : Dall 19 dl_Grain_init_6 = true := by decide +kernel
theorem t_Grain_init_6 {h : Hp} {P : Value → Hp → Prop} {p0 p1 p2 p3 p4 p5 : Int} {r : Nat} (T : (tagok 2 (tg h r) = true) ∧ (tagok 2 (tg (setI h r 0 (wr p0)) r) = true) ∧ (tagok 2 (tg (setI (setI h r 0 (wr p0)) r 1 (wr p1)) r) = true) ∧ (tagok 2 (tg (setI (setI (setI h r 0 (wr p0)) r 1 (wr p1)) r 2 (wr p2)) r) = true) ∧ (tagok 2 (tg (setI (setI (setI (setI h r 0 (wr p0)) r 1 (wr p1)) r 2 (wr p2)) r 3 (wr p3)) r) = true) ∧ (tagok 2 (tg (setI (setI (setI (setI (setI h r 0 (wr p0)) r 1 (wr p1)) r 2 (wr p2)) r 3 (wr p3)) r 4 (wr p4)) r) = true) ∧ P .null (setI (setI (setI (setI (setI (setI h r 0 (wr p0)) r 1 (wr p1)) r 2 (wr p2)) r 3 (wr p3)) r 4 (wr p4)) r 5 (wr p5))) : R 19 0 [.ref r, .int (I p0), .int (I p1), .int (I p2), .int (I p3), .int (I p4), .int (I p5)] [] h P := by
  refine R_aload_n (Dat dd_Grain_init_6 0 rfl) rfl rfl ?_
  refine R_call8 (Dat dd_Grain_init_6 1 rfl) rfl rfl ?_
  refine R_aload_n (Dat dd_Grain_init_6 2 rfl) rfl rfl ?_
  refine R_iload_n (Dat dd_Grain_init_6 3 rfl) rfl ?_
  obtain ⟨g1, T⟩ := T
  refine R_puti (Dat dd_Grain_init_6 4 rfl) rfl rfl rfl g1 rfl (v := wr p0) rfl ?_
  refine R_aload_n (Dat dd_Grain_init_6 5 rfl) rfl rfl ?_
  refine R_iload_n (Dat dd_Grain_init_6 6 rfl) rfl ?_
  obtain ⟨g2, T⟩ := T
  refine R_puti (Dat dd_Grain_init_6 7 rfl) rfl rfl rfl g2 rfl (v := wr p1) rfl ?_
  refine R_aload_n (Dat dd_Grain_init_6 8 rfl) rfl rfl ?_
  refine R_iload_n (Dat dd_Grain_init_6 9 rfl) rfl ?_
  obtain ⟨g3, T⟩ := T
  refine R_puti (Dat dd_Grain_init_6 10 rfl) rfl rfl rfl g3 rfl (v := wr p2) rfl ?_
  refine R_aload_n (Dat dd_Grain_init_6 11 rfl) rfl rfl ?_
  refine R_iload (Dat dd_Grain_init_6 12 rfl) rfl ?_
  obtain ⟨g4, T⟩ := T
  refine R_puti (Dat dd_Grain_init_6 13 rfl) rfl rfl rfl g4 rfl (v := wr p3) rfl ?_
  refine R_aload_n (Dat dd_Grain_init_6 14 rfl) rfl rfl ?_
  refine R_iload (Dat dd_Grain_init_6 15 rfl) rfl ?_
  obtain ⟨g5, T⟩ := T
  refine R_puti (Dat dd_Grain_init_6 16 rfl) rfl rfl rfl g5 rfl (v := wr p4) rfl ?_
  refine R_aload_n (Dat dd_Grain_init_6 17 rfl) rfl rfl ?_
  refine R_iload (Dat dd_Grain_init_6 18 rfl) rfl ?_
  obtain ⟨g6, T⟩ := T
  refine R_puti (Dat dd_Grain_init_6 19 rfl) rfl rfl rfl g6 rfl (v := wr p5) rfl ?_
  exact R_return (Dat dd_Grain_init_6 20 rfl) rfl T
def dl_Long_init : List (Nat × Instr × Nat) := [(0, .aload_n 0, 1), (1, .iload_n 1, 1), (2, .iconst 1, 1), (3, .iload_n 2, 1), (4, .iload_n 3, 1), (5, .iload_n 2, 1), (6, .iconst 1, 1), (7, .isub, 1), (8, .iload_n 3, 1), (9, .invokespecial 1, 3), (12, .return_, 1)]
theorem dd_Long_init : Dall 20 dl_Long_init = true := by decide +kernel
theorem t_Long_init {h : Hp} {P : Value → Hp → Prop} {p0 p1 p2 : Int} {r : Nat} (T : R 19 0 [.ref r, .int (I p0), .int (I 1), .int (I p1), .int (I p2), .int (I (p1 - 1)), .int (I p2)] [] h (fun _ h2 => R 20 12 [.ref r, .int (I p0), .int (I p1), .int (I p2)] [] h2 P)) : R 20 0 [.ref r, .int (I p0), .int (I p1), .int (I p2)] [] h P := by
  refine R_aload_n (Dat dd_Long_init 0 rfl) rfl rfl ?_
  refine R_iload_n (Dat dd_Long_init 1 rfl) rfl ?_
  refine R_iconst (Dat dd_Long_init 2 rfl) ?_
  refine R_iload_n (Dat dd_Long_init 3 rfl) rfl ?_
  refine R_iload_n (Dat dd_Long_init 4 rfl) rfl ?_
  refine R_iload_n (Dat dd_Long_init 5 rfl) rfl ?_
  refine R_iconst (Dat dd_Long_init 6 rfl) ?_
  refine R_isub (Dat dd_Long_init 7 rfl) ?_
  refine R_iload_n (Dat dd_Long_init 8 rfl) rfl ?_
  exact R_call2 (Dat dd_Long_init 9 rfl) rfl rfl rfl rfl rfl rfl T
theorem t_Long_init_12 {h : Hp} {P : Value → Hp → Prop} {a0 a1 a2 a3 : Value} (T : P .null h) : R 20 12 [a0, a1, a2, a3] [] h P := by
  exact R_return (Dat dd_Long_init 10 rfl) rfl T
def dl_Oily_init : List (Nat × Instr × Nat) := [(0, .aload_n 0, 1), (1, .iload_n 1, 1), (2, .iconst 2, 1), (3, .iload_n 2, 1), (4, .iload_n 3, 1), (5, .iload_n 3, 1), (6, .iconst 2, 1), (7, .iadd, 1), (8, .invokespecial 1, 3), (11, .return_, 1)]
theorem dd_Oily_init : Dall 21 dl_Oily_init = true := by decide +kernel
theorem t_Oily_init {h : Hp} {P : Value → Hp → Prop} {p0 p1 p2 : Int} {r : Nat} (T : R 22 0 [.ref r, .int (I p0), .int (I 2), .int (I p1), .int (I p2), .int (I (p2 + 2))] [] h (fun _ h2 => R 21 11 [.ref r, .int (I p0), .int (I p1), .int (I p2)] [] h2 P)) : R 21 0 [.ref r, .int (I p0), .int (I p1), .int (I p2)] [] h P := by
  refine R_aload_n (Dat dd_Oily_init 0 rfl) rfl rfl ?_
  refine R_iload_n (Dat dd_Oily_init 1 rfl) rfl ?_
  refine R_iconst (Dat dd_Oily_init 2 rfl) ?_
  refine R_iload_n (Dat dd_Oily_init 3 rfl) rfl ?_
  refine R_iload_n (Dat dd_Oily_init 4 rfl) rfl ?_
  refine R_iload_n (Dat dd_Oily_init 5 rfl) rfl ?_
  refine R_iconst (Dat dd_Oily_init 6 rfl) ?_
  refine R_iadd (Dat dd_Oily_init 7 rfl) ?_
  exact R_call2 (Dat dd_Oily_init 8 rfl) rfl rfl rfl rfl rfl rfl T
theorem t_Oily_init_11 {h : Hp} {P : Value → Hp → Prop} {a0 a1 a2 a3 : Value} (T : P .null h) : R 21 11 [a0, a1, a2, a3] [] h P := by
  exact R_return (Dat dd_Oily_init 9 rfl) rfl T
def dl_Long_init_5 : List (Nat × Instr × Nat) := [(0, .aload_n 0, 1), (1, .iload_n 1, 1), (2, .iload_n 2, 1), (3, .iload_n 3, 1), (4, .iload 4, 2), (6, .iload_n 3, 1), (7, .iconst 1, 1), (8, .isub, 1), (9, .iload 5, 2), (11, .invokespecial 1, 3), (14, .return_, 1)]
theorem dd_Long_init_5 : Dall 22 dl_Long_init_5 = true := by decide +kernel
theorem t_Long_init_5 {h : Hp} {P : Value → Hp → Prop} {p0 p1 p2 p3 p4 : Int} {r : Nat} (T : R 19 0 [.ref r, .int (I p0), .int (I p1), .int (I p2), .int (I p3), .int (I (p2 - 1)), .int (I p4)] [] h (fun _ h2 => R 22 14 [.ref r, .int (I p0), .int (I p1), .int (I p2), .int (I p3), .int (I p4)] [] h2 P)) : R 22 0 [.ref r, .int (I p0), .int (I p1), .int (I p2), .int (I p3), .int (I p4)] [] h P := by
  refine R_aload_n (Dat dd_Long_init_5 0 rfl) rfl rfl ?_
  refine R_iload_n (Dat dd_Long_init_5 1 rfl) rfl ?_
  refine R_iload_n (Dat dd_Long_init_5 2 rfl) rfl ?_
  refine R_iload_n (Dat dd_Long_init_5 3 rfl) rfl ?_
  refine R_iload (Dat dd_Long_init_5 4 rfl) rfl ?_
  refine R_iload_n (Dat dd_Long_init_5 5 rfl) rfl ?_
  refine R_iconst (Dat dd_Long_init_5 6 rfl) ?_
  refine R_isub (Dat dd_Long_init_5 7 rfl) ?_
  refine R_iload (Dat dd_Long_init_5 8 rfl) rfl ?_
  exact R_call2 (Dat dd_Long_init_5 9 rfl) rfl rfl rfl rfl rfl rfl T
theorem t_Long_init_5_14 {h : Hp} {P : Value → Hp → Prop} {a0 a1 a2 a3 a4 a5 : Value} (T : P .null h) : R 22 14 [a0, a1, a2, a3, a4, a5] [] h P := by
  exact R_return (Dat dd_Long_init_5 10 rfl) rfl T
def dl_Box_rowOf : List (Nat × Instr × Nat) := [(0, .aload_n 0, 1), (1, .getfield 17, 3), (4, .iload_n 1, 1), (5, .iaload, 1), (6, .ifCond .ne 14, 3), (9, .aload_n 0, 1), (10, .getfield 17, 3), (13, .iload_n 1, 1), (14, .aload_n 0, 1), (15, .iload_n 1, 1), (16, .invokevirtual 65, 3), (19, .iastore, 1), (20, .aload_n 0, 1), (21, .getfield 17, 3), (24, .iload_n 1, 1), (25, .iaload, 1), (26, .ireturn, 1)]
theorem dd_Box_rowOf : Dall 29 dl_Box_rowOf = true := by decide +kernel
theorem t_Box_rowOf {h : Hp} {P : Value → Hp → Prop} {p0 : Int} (S : XS h) (T : ((ln h 3 : Int) ≤ 2147483648) ∧ (0 ≤ p0) ∧ (p0 < ln h 3) ∧ (rng (iv h 3 p0)) ∧ (((iv h 3 p0) = 0 → R 30 0 [.ref 1, .int (I p0), .retAddr 0, .retAddr 0, .retAddr 0, .retAddr 0, .retAddr 0, .retAddr 0] [] h (fun v h2 => R 29 19 [.ref 1, .int (I p0)] (v :: [.int (I p0), .ref 3]) h2 P)) ∧ (¬ (iv h 3 p0) = 0 → ((ln h 3 : Int) ≤ 2147483648) ∧ (0 ≤ p0) ∧ (p0 < ln h 3) ∧ P (.int (I (iv h 3 p0))) h))) : R 29 0 [.ref 1, .int (I p0)] [] h P := by
  refine R_aload_n (Dat dd_Box_rowOf 0 rfl) rfl rfl ?_
  refine R_getr (Dat dd_Box_rowOf 1 rfl) rfl rfl (tok S.t1) S.f1_4 (q := 3) rfl (tnz S.t3) ?_
  refine R_iload_n (Dat dd_Box_rowOf 2 rfl) rfl ?_
  obtain ⟨g1, T⟩ := T
  obtain ⟨g2, T⟩ := T
  obtain ⟨g3, T⟩ := T
  refine R_iaload (Dat dd_Box_rowOf 3 rfl) (Or.inl S.t3) g1 g2 g3 ?_
  obtain ⟨g4, T⟩ := T
  refine R_if_ne (Dat dd_Box_rowOf 4 rfl) rfl g4  (fun c => ?_) (fun c => ?_)
  · replace T := T.1 c
    refine R_aload_n (Dat dd_Box_rowOf 5 rfl) rfl rfl ?_
    refine R_getr (Dat dd_Box_rowOf 6 rfl) rfl rfl (tok S.t1) S.f1_4 (q := 3) rfl (tnz S.t3) ?_
    refine R_iload_n (Dat dd_Box_rowOf 7 rfl) rfl ?_
    refine R_aload_n (Dat dd_Box_rowOf 8 rfl) rfl rfl ?_
    refine R_iload_n (Dat dd_Box_rowOf 9 rfl) rfl ?_
    exact R_call1 (Dat dd_Box_rowOf 10 rfl) rfl S.t1 rfl rfl rfl rfl rfl T
  · replace T := T.2 c
    refine R_aload_n (Dat dd_Box_rowOf 12 rfl) rfl rfl ?_
    refine R_getr (Dat dd_Box_rowOf 13 rfl) rfl rfl (tok S.t1) S.f1_4 (q := 3) rfl (tnz S.t3) ?_
    refine R_iload_n (Dat dd_Box_rowOf 14 rfl) rfl ?_
    obtain ⟨g5, T⟩ := T
    obtain ⟨g6, T⟩ := T
    obtain ⟨g7, T⟩ := T
    refine R_iaload (Dat dd_Box_rowOf 15 rfl) (Or.inl S.t3) g5 g6 g7 ?_
    exact R_ireturn (Dat dd_Box_rowOf 16 rfl) rfl T
theorem t_Box_rowOf_19 {h : Hp} {P : Value → Hp → Prop} {a1 s0 s1 : Int} (S : XS h) (T : ((ln h 3 : Int) ≤ 2147483648) ∧ (0 ≤ s1) ∧ (s1 < ln h 3) ∧ ((ln (setI h 3 s1 (wr s0)) 3 : Int) ≤ 2147483648) ∧ (0 ≤ a1) ∧ (a1 < ln (setI h 3 s1 (wr s0)) 3) ∧ P (.int (I (iv (setI h 3 s1 (wr s0)) 3 a1))) (setI h 3 s1 (wr s0))) : R 29 19 [.ref 1, .int (I a1)] [.int (I s0), .int (I s1), .ref 3] h P := by
  obtain ⟨g1, T⟩ := T
  obtain ⟨g2, T⟩ := T
  obtain ⟨g3, T⟩ := T
  refine R_iastore (Dat dd_Box_rowOf 11 rfl) S.t3 g1 g2 g3 (v := wr s0) rfl ?_
  refine R_aload_n (Dat dd_Box_rowOf 12 rfl) rfl rfl ?_
  refine R_getr (Dat dd_Box_rowOf 13 rfl) rfl rfl (tok S.t1) S.f1_4 (q := 3) rfl (tnz S.t3) ?_
  refine R_iload_n (Dat dd_Box_rowOf 14 rfl) rfl ?_
  obtain ⟨g4, T⟩ := T
  obtain ⟨g5, T⟩ := T
  obtain ⟨g6, T⟩ := T
  refine R_iaload (Dat dd_Box_rowOf 15 rfl) (Or.inl S.t3) g4 g5 g6 ?_
  exact R_ireturn (Dat dd_Box_rowOf 16 rfl) rfl T
def dl_Box_madeRow : List (Nat × Instr × Nat) := [(0, .iconst 0, 1), (1, .istore_n 2, 1), (2, .iload_n 1, 1), (3, .istore_n 3, 1), (4, .ldc 69, 2), (6, .istore 4, 2), (8, .iconst 0, 1), (9, .istore 5, 2), (11, .iload 5, 2), (13, .aload_n 0, 1), (14, .getfield 25, 3), (17, .if_icmp .ge 75, 3), (20, .getstatic 37, 3), (23, .aload_n 0, 1), (24, .getfield 25, 3), (27, .iconst 1, 1), (28, .isub, 1), (29, .iload 5, 2), (31, .isub, 1), (32, .iaload, 1), (33, .istore 6, 2), (35, .iconst 3, 1), (36, .iload_n 3, 1), (37, .iload 6, 2), (39, .idiv, 1), (40, .imul, 1), (41, .istore 7, 2), (43, .iload_n 3, 1), (44, .iload 6, 2), (46, .irem, 1), (47, .istore_n 3, 1), (48, .iload_n 2, 1), (49, .iload 4, 2), (51, .iload 7, 2), (53, .ishr, 1), (54, .bipush 7, 2), (56, .iand, 1), (57, .iconst 3, 1), (58, .iload 5, 2), (60, .imul, 1), (61, .ishl, 1), (62, .ior, 1), (63, .istore_n 2, 1), (64, .iload 4, 2), (66, .iconst 1, 1), (67, .iload 7, 2), (69, .ishl, 1), (70, .iconst 1, 1), (71, .isub, 1), (72, .iand, 1), (73, .iload 4, 2), (75, .iload 7, 2), (77, .iconst 3, 1), (78, .iadd, 1), (79, .ishr, 1), (80, .iload 7, 2), (82, .ishl, 1), (83, .ior, 1), (84, .istore 4, 2), (86, .iinc 5 1, 3), (89, .goto (-78), 3), (92, .iload_n 2, 1), (93, .ireturn, 1)]
theorem dd_Box_madeRow : Dall 30 dl_Box_madeRow = true := by decide +kernel
theorem t_Box_madeRow {h : Hp} {P : Value → Hp → Prop} {p0 : Int} (S : XS h) (T : R 30 11 [.ref 1, .int (I p0), .int (I 0), .int (I p0), .int (I 1754760), .int (I 0), .retAddr 0, .retAddr 0] [] h P) : R 30 0 [.ref 1, .int (I p0), .retAddr 0, .retAddr 0, .retAddr 0, .retAddr 0, .retAddr 0, .retAddr 0] [] h P := by
  refine R_iconst (Dat dd_Box_madeRow 0 rfl) ?_
  refine R_istore_n (Dat dd_Box_madeRow 1 rfl) rfl rfl ?_
  refine R_iload_n (Dat dd_Box_madeRow 2 rfl) rfl ?_
  refine R_istore_n (Dat dd_Box_madeRow 3 rfl) rfl rfl ?_
  refine R_ldc (Dat dd_Box_madeRow 4 rfl) (a := 1754760) rfl ?_
  refine R_istore (Dat dd_Box_madeRow 5 rfl) rfl rfl ?_
  refine R_iconst (Dat dd_Box_madeRow 6 rfl) ?_
  refine R_istore (Dat dd_Box_madeRow 7 rfl) rfl rfl ?_
  exact T
theorem t_Box_madeRow_11 {h : Hp} {P : Value → Hp → Prop} {a2 a3 a4 a5 : Int} {a1 a6 a7 : Value} (S : XS h) (T : (rng a5) ∧ (rng (iv h 1 1)) ∧ ((a5 < (iv h 1 1) → (0 ≤ (((iv h 1 1) - 1) - a5)) ∧ ((((iv h 1 1) - 1) - a5) < 8) ∧ (0 ≤ a3 ∧ a3 < 2147483648) ∧ (0 < (iv h 500 (((iv h 1 1) - 1) - a5)) ∧ (iv h 500 (((iv h 1 1) - 1) - a5)) < 2147483648) ∧ (0 ≤ a3 ∧ a3 < 2147483648) ∧ (0 < (iv h 500 (((iv h 1 1) - 1) - a5)) ∧ (iv h 500 (((iv h 1 1) - 1) - a5)) < 2147483648) ∧ R 30 11 [.ref 1, a1, .int (I (bor a2 (shl (band (shr a4 (3 * (a3 / (iv h 500 (((iv h 1 1) - 1) - a5))))) 7) (3 * a5)))), .int (I (a3 % (iv h 500 (((iv h 1 1) - 1) - a5)))), .int (I (bor (band a4 ((shl 1 (3 * (a3 / (iv h 500 (((iv h 1 1) - 1) - a5))))) - 1)) (shl (shr a4 ((3 * (a3 / (iv h 500 (((iv h 1 1) - 1) - a5)))) + 3)) (3 * (a3 / (iv h 500 (((iv h 1 1) - 1) - a5))))))), .int (I (a5 + 1)), .int (I (iv h 500 (((iv h 1 1) - 1) - a5))), .int (I (3 * (a3 / (iv h 500 (((iv h 1 1) - 1) - a5)))))] [] h P) ∧ (¬ a5 < (iv h 1 1) → P (.int (I a2)) h))) : R 30 11 [.ref 1, a1, .int (I a2), .int (I a3), .int (I a4), .int (I a5), a6, a7] [] h P := by
  refine R_iload (Dat dd_Box_madeRow 8 rfl) rfl ?_
  refine R_aload_n (Dat dd_Box_madeRow 9 rfl) rfl rfl ?_
  refine R_geti (Dat dd_Box_madeRow 10 rfl) rfl rfl (tok S.t1) ?_
  obtain ⟨g1, T⟩ := T
  obtain ⟨g2, T⟩ := T
  refine R_ic_ge (Dat dd_Box_madeRow 11 rfl) rfl g1 g2 (fun c => ?_) (fun c => ?_)
  · replace T := T.1 c
    refine R_getst (Dat dd_Box_madeRow 12 rfl) (r := 500) rfl S.t500 ?_
    refine R_aload_n (Dat dd_Box_madeRow 13 rfl) rfl rfl ?_
    refine R_geti (Dat dd_Box_madeRow 14 rfl) rfl rfl (tok S.t1) ?_
    refine R_iconst (Dat dd_Box_madeRow 15 rfl) ?_
    refine R_isub (Dat dd_Box_madeRow 16 rfl) ?_
    refine R_iload (Dat dd_Box_madeRow 17 rfl) rfl ?_
    refine R_isub (Dat dd_Box_madeRow 18 rfl) ?_
    obtain ⟨g3, T⟩ := T
    obtain ⟨g4, T⟩ := T
    refine R_iaload (Dat dd_Box_madeRow 19 rfl) (Or.inr S.t500) (lnle (show ln h 500 = 8 from S.l500) (by decide)) g3 (lnlt (show ln h 500 = 8 from S.l500) g4) ?_
    refine R_istore (Dat dd_Box_madeRow 20 rfl) rfl rfl ?_
    refine R_iconst (Dat dd_Box_madeRow 21 rfl) ?_
    refine R_iload_n (Dat dd_Box_madeRow 22 rfl) rfl ?_
    refine R_iload (Dat dd_Box_madeRow 23 rfl) rfl ?_
    obtain ⟨g5, T⟩ := T
    obtain ⟨g6, T⟩ := T
    refine R_idiv (Dat dd_Box_madeRow 24 rfl) g5 g6 ?_
    refine R_imul (Dat dd_Box_madeRow 25 rfl) ?_
    refine R_istore (Dat dd_Box_madeRow 26 rfl) rfl rfl ?_
    refine R_iload_n (Dat dd_Box_madeRow 27 rfl) rfl ?_
    refine R_iload (Dat dd_Box_madeRow 28 rfl) rfl ?_
    obtain ⟨g7, T⟩ := T
    obtain ⟨g8, T⟩ := T
    refine R_irem (Dat dd_Box_madeRow 29 rfl) g7 g8 ?_
    refine R_istore_n (Dat dd_Box_madeRow 30 rfl) rfl rfl ?_
    refine R_iload_n (Dat dd_Box_madeRow 31 rfl) rfl ?_
    refine R_iload (Dat dd_Box_madeRow 32 rfl) rfl ?_
    refine R_iload (Dat dd_Box_madeRow 33 rfl) rfl ?_
    refine R_ishr (Dat dd_Box_madeRow 34 rfl) ?_
    refine R_bipush (Dat dd_Box_madeRow 35 rfl) (a := 7) rfl ?_
    refine R_iand (Dat dd_Box_madeRow 36 rfl) ?_
    refine R_iconst (Dat dd_Box_madeRow 37 rfl) ?_
    refine R_iload (Dat dd_Box_madeRow 38 rfl) rfl ?_
    refine R_imul (Dat dd_Box_madeRow 39 rfl) ?_
    refine R_ishl (Dat dd_Box_madeRow 40 rfl) ?_
    refine R_ior (Dat dd_Box_madeRow 41 rfl) ?_
    refine R_istore_n (Dat dd_Box_madeRow 42 rfl) rfl rfl ?_
    refine R_iload (Dat dd_Box_madeRow 43 rfl) rfl ?_
    refine R_iconst (Dat dd_Box_madeRow 44 rfl) ?_
    refine R_iload (Dat dd_Box_madeRow 45 rfl) rfl ?_
    refine R_ishl (Dat dd_Box_madeRow 46 rfl) ?_
    refine R_iconst (Dat dd_Box_madeRow 47 rfl) ?_
    refine R_isub (Dat dd_Box_madeRow 48 rfl) ?_
    refine R_iand (Dat dd_Box_madeRow 49 rfl) ?_
    refine R_iload (Dat dd_Box_madeRow 50 rfl) rfl ?_
    refine R_iload (Dat dd_Box_madeRow 51 rfl) rfl ?_
    refine R_iconst (Dat dd_Box_madeRow 52 rfl) ?_
    refine R_iadd (Dat dd_Box_madeRow 53 rfl) ?_
    refine R_ishr (Dat dd_Box_madeRow 54 rfl) ?_
    refine R_iload (Dat dd_Box_madeRow 55 rfl) rfl ?_
    refine R_ishl (Dat dd_Box_madeRow 56 rfl) ?_
    refine R_ior (Dat dd_Box_madeRow 57 rfl) ?_
    refine R_istore (Dat dd_Box_madeRow 58 rfl) rfl rfl ?_
    refine R_iinc (Dat dd_Box_madeRow 59 rfl) rfl rfl rfl ?_
    refine R_goto (Dat dd_Box_madeRow 60 rfl) rfl ?_
    exact T
  · replace T := T.2 c
    refine R_iload_n (Dat dd_Box_madeRow 61 rfl) rfl ?_
    exact R_ireturn (Dat dd_Box_madeRow 62 rfl) rfl T
def dl_Box_placeOf : List (Nat × Instr × Nat) := [(0, .iconst 0, 1), (1, .istore_n 3, 1), (2, .iload_n 3, 1), (3, .aload_n 0, 1), (4, .getfield 25, 3), (7, .if_icmp .ge 20, 3), (10, .iload_n 2, 1), (11, .iload_n 3, 1), (12, .invokestatic 70, 3), (15, .iload_n 1, 1), (16, .if_icmp .ne 5, 3), (19, .iload_n 3, 1), (20, .ireturn, 1), (21, .iinc 3 1, 3), (24, .goto (-22), 3), (27, .iconst (-1), 1), (28, .ireturn, 1)]
theorem dd_Box_placeOf : Dall 31 dl_Box_placeOf = true := by decide +kernel
theorem t_Box_placeOf {h : Hp} {P : Value → Hp → Prop} {p0 p1 : Int} (S : XS h) (T : R 31 2 [.ref 1, .int (I p0), .int (I p1), .int (I 0)] [] h P) : R 31 0 [.ref 1, .int (I p0), .int (I p1), .retAddr 0] [] h P := by
  refine R_iconst (Dat dd_Box_placeOf 0 rfl) ?_
  refine R_istore_n (Dat dd_Box_placeOf 1 rfl) rfl rfl ?_
  exact T
theorem t_Box_placeOf_2 {h : Hp} {P : Value → Hp → Prop} {a1 a2 a3 : Int} (S : XS h) (T : (rng a3) ∧ (rng (iv h 1 1)) ∧ ((a3 < (iv h 1 1) → R 32 0 [.int (I a2), .int (I a3)] [] h (fun v h2 => R 31 15 [.ref 1, .int (I a1), .int (I a2), .int (I a3)] (v :: []) h2 P)) ∧ (¬ a3 < (iv h 1 1) → P (.int (I (-1))) h))) : R 31 2 [.ref 1, .int (I a1), .int (I a2), .int (I a3)] [] h P := by
  refine R_iload_n (Dat dd_Box_placeOf 2 rfl) rfl ?_
  refine R_aload_n (Dat dd_Box_placeOf 3 rfl) rfl rfl ?_
  refine R_geti (Dat dd_Box_placeOf 4 rfl) rfl rfl (tok S.t1) ?_
  obtain ⟨g1, T⟩ := T
  obtain ⟨g2, T⟩ := T
  refine R_ic_ge (Dat dd_Box_placeOf 5 rfl) rfl g1 g2 (fun c => ?_) (fun c => ?_)
  · replace T := T.1 c
    refine R_iload_n (Dat dd_Box_placeOf 6 rfl) rfl ?_
    refine R_iload_n (Dat dd_Box_placeOf 7 rfl) rfl ?_
    exact R_call0 (Dat dd_Box_placeOf 8 rfl) rfl rfl rfl rfl rfl rfl T
  · replace T := T.2 c
    refine R_iconst (Dat dd_Box_placeOf 15 rfl) ?_
    exact R_ireturn (Dat dd_Box_placeOf 16 rfl) rfl T
theorem t_Box_placeOf_15 {h : Hp} {P : Value → Hp → Prop} {a1 a2 a3 s0 : Int} (S : XS h) (T : (rng s0) ∧ (rng a1) ∧ ((s0 = a1 → P (.int (I a3)) h) ∧ (¬ s0 = a1 → R 31 2 [.ref 1, .int (I a1), .int (I a2), .int (I (a3 + 1))] [] h P))) : R 31 15 [.ref 1, .int (I a1), .int (I a2), .int (I a3)] [.int (I s0)] h P := by
  refine R_iload_n (Dat dd_Box_placeOf 9 rfl) rfl ?_
  obtain ⟨g1, T⟩ := T
  obtain ⟨g2, T⟩ := T
  refine R_ic_ne (Dat dd_Box_placeOf 10 rfl) rfl g1 g2 (fun c => ?_) (fun c => ?_)
  · replace T := T.1 c
    refine R_iload_n (Dat dd_Box_placeOf 11 rfl) rfl ?_
    exact R_ireturn (Dat dd_Box_placeOf 12 rfl) rfl T
  · replace T := T.2 c
    refine R_iinc (Dat dd_Box_placeOf 13 rfl) rfl rfl rfl ?_
    refine R_goto (Dat dd_Box_placeOf 14 rfl) rfl ?_
    exact T
def dl_Box_grainIn : List (Nat × Instr × Nat) := [(0, .iload_n 0, 1), (1, .iconst 3, 1), (2, .iload_n 1, 1), (3, .imul, 1), (4, .ishr, 1), (5, .bipush 7, 2), (7, .iand, 1), (8, .ireturn, 1)]
theorem dd_Box_grainIn : Dall 32 dl_Box_grainIn = true := by decide +kernel
theorem t_Box_grainIn {h : Hp} {P : Value → Hp → Prop} {p0 p1 : Int} (T : P (.int (I (band (shr p0 (3 * p1)) 7))) h) : R 32 0 [.int (I p0), .int (I p1)] [] h P := by
  refine R_iload_n (Dat dd_Box_grainIn 0 rfl) rfl ?_
  refine R_iconst (Dat dd_Box_grainIn 1 rfl) ?_
  refine R_iload_n (Dat dd_Box_grainIn 2 rfl) rfl ?_
  refine R_imul (Dat dd_Box_grainIn 3 rfl) ?_
  refine R_ishr (Dat dd_Box_grainIn 4 rfl) ?_
  refine R_bipush (Dat dd_Box_grainIn 5 rfl) (a := 7) rfl ?_
  refine R_iand (Dat dd_Box_grainIn 6 rfl) ?_
  exact R_ireturn (Dat dd_Box_grainIn 7 rfl) rfl T
def dl_Law_firstFault : List (Nat × Instr × Nat) := [(0, .iconst 0, 1), (1, .istore_n 3, 1), (2, .iload_n 3, 1), (3, .iload_n 2, 1), (4, .if_icmp .ge 23, 3), (7, .iload_n 3, 1), (8, .aload_n 0, 1), (9, .iload_n 1, 1), (10, .iload_n 3, 1), (11, .iadd, 1), (12, .iaload, 1), (13, .invokestatic 31, 3), (16, .ifCond .ne 5, 3), (19, .iload_n 3, 1), (20, .ireturn, 1), (21, .iinc 3 1, 3), (24, .goto (-22), 3), (27, .iload_n 2, 1), (28, .iconst 4, 1), (29, .irem, 1), (30, .iconst 3, 1), (31, .if_icmp .ne 7, 3), (34, .iconst (-1), 1), (35, .goto 4, 3), (38, .iload_n 2, 1), (39, .ireturn, 1)]
theorem dd_Law_firstFault : Dall 41 dl_Law_firstFault = true := by decide +kernel
theorem t_Law_firstFault {h : Hp} {P : Value → Hp → Prop} {p1 p2 : Int} {p0 : Nat} (T : R 41 2 [.ref p0, .int (I p1), .int (I p2), .int (I 0)] [] h P) : R 41 0 [.ref p0, .int (I p1), .int (I p2), .retAddr 0] [] h P := by
  refine R_iconst (Dat dd_Law_firstFault 0 rfl) ?_
  refine R_istore_n (Dat dd_Law_firstFault 1 rfl) rfl rfl ?_
  exact T
theorem t_Law_firstFault_2 {h : Hp} {P : Value → Hp → Prop} {a1 a2 a3 : Int} {a0 : Nat} (T : (rng a3) ∧ (rng a2) ∧ ((a3 < a2 → (tg h a0 = 20 ∨ tg h a0 = 30) ∧ ((ln h a0 : Int) ≤ 2147483648) ∧ (0 ≤ (a1 + a3)) ∧ ((a1 + a3) < ln h a0) ∧ R 42 0 [.int (I a3), .int (I (iv h a0 (a1 + a3)))] [] h (fun v h2 => R 41 16 [.ref a0, .int (I a1), .int (I a2), .int (I a3)] (v :: []) h2 P)) ∧ (¬ a3 < a2 → (0 ≤ a2 ∧ a2 < 2147483648) ∧ (rng (a2 % 4)) ∧ (((a2 % 4) = 3 → P (.int (I (-1))) h) ∧ (¬ (a2 % 4) = 3 → P (.int (I a2)) h))))) : R 41 2 [.ref a0, .int (I a1), .int (I a2), .int (I a3)] [] h P := by
  refine R_iload_n (Dat dd_Law_firstFault 2 rfl) rfl ?_
  refine R_iload_n (Dat dd_Law_firstFault 3 rfl) rfl ?_
  obtain ⟨g1, T⟩ := T
  obtain ⟨g2, T⟩ := T
  refine R_ic_ge (Dat dd_Law_firstFault 4 rfl) rfl g1 g2 (fun c => ?_) (fun c => ?_)
  · replace T := T.1 c
    refine R_iload_n (Dat dd_Law_firstFault 5 rfl) rfl ?_
    refine R_aload_n (Dat dd_Law_firstFault 6 rfl) rfl rfl ?_
    refine R_iload_n (Dat dd_Law_firstFault 7 rfl) rfl ?_
    refine R_iload_n (Dat dd_Law_firstFault 8 rfl) rfl ?_
    refine R_iadd (Dat dd_Law_firstFault 9 rfl) ?_
    obtain ⟨g3, T⟩ := T
    obtain ⟨g4, T⟩ := T
    obtain ⟨g5, T⟩ := T
    obtain ⟨g6, T⟩ := T
    refine R_iaload (Dat dd_Law_firstFault 10 rfl) g3 g4 g5 g6 ?_
    exact R_call0 (Dat dd_Law_firstFault 11 rfl) rfl rfl rfl rfl rfl rfl T
  · replace T := T.2 c
    refine R_iload_n (Dat dd_Law_firstFault 17 rfl) rfl ?_
    refine R_iconst (Dat dd_Law_firstFault 18 rfl) ?_
    obtain ⟨g7, T⟩ := T
    refine R_irem (Dat dd_Law_firstFault 19 rfl) g7 (by decide) ?_
    refine R_iconst (Dat dd_Law_firstFault 20 rfl) ?_
    obtain ⟨g8, T⟩ := T
    refine R_ic_ne (Dat dd_Law_firstFault 21 rfl) rfl g8 (by decide) (fun c => ?_) (fun c => ?_)
    · replace T := T.1 c
      refine R_iconst (Dat dd_Law_firstFault 22 rfl) ?_
      refine R_goto (Dat dd_Law_firstFault 23 rfl) rfl ?_
      exact R_ireturn (Dat dd_Law_firstFault 25 rfl) rfl T
    · replace T := T.2 c
      refine R_iload_n (Dat dd_Law_firstFault 24 rfl) rfl ?_
      exact R_ireturn (Dat dd_Law_firstFault 25 rfl) rfl T
theorem t_Law_firstFault_16 {h : Hp} {P : Value → Hp → Prop} {a1 a2 a3 s0 : Int} {a0 : Nat} (T : (rng s0) ∧ ((s0 = 0 → P (.int (I a3)) h) ∧ (¬ s0 = 0 → R 41 2 [.ref a0, .int (I a1), .int (I a2), .int (I (a3 + 1))] [] h P))) : R 41 16 [.ref a0, .int (I a1), .int (I a2), .int (I a3)] [.int (I s0)] h P := by
  obtain ⟨g1, T⟩ := T
  refine R_if_ne (Dat dd_Law_firstFault 12 rfl) rfl g1  (fun c => ?_) (fun c => ?_)
  · replace T := T.1 c
    refine R_iload_n (Dat dd_Law_firstFault 13 rfl) rfl ?_
    exact R_ireturn (Dat dd_Law_firstFault 14 rfl) rfl T
  · replace T := T.2 c
    refine R_iinc (Dat dd_Law_firstFault 15 rfl) rfl rfl rfl ?_
    refine R_goto (Dat dd_Law_firstFault 16 rfl) rfl ?_
    exact T
def dl_Law_goesOn : List (Nat × Instr × Nat) := [(0, .iload_n 0, 1), (1, .iconst 4, 1), (2, .irem, 1), (3, .tableswitch 76 0 2 #[25, 40, 58], 25), (28, .iload_n 1, 1), (29, .invokestatic 23, 3), (32, .bipush (-9), 2), (34, .if_icmp .eq 7, 3), (37, .iconst 1, 1), (38, .goto 4, 3), (41, .iconst 0, 1), (42, .ireturn, 1), (43, .iload_n 1, 1), (44, .bipush 48, 2), (46, .if_icmp .lt 13, 3), (49, .iload_n 1, 1), (50, .bipush 57, 2), (52, .if_icmp .gt 7, 3), (55, .iconst 1, 1), (56, .goto 4, 3), (59, .iconst 0, 1), (60, .ireturn, 1), (61, .iload_n 1, 1), (62, .bipush 49, 2), (64, .if_icmp .lt 13, 3), (67, .iload_n 1, 1), (68, .bipush 51, 2), (70, .if_icmp .gt 7, 3), (73, .iconst 1, 1), (74, .goto 4, 3), (77, .iconst 0, 1), (78, .ireturn, 1), (79, .iload_n 1, 1), (80, .bipush 59, 2), (82, .if_icmp .ne 17, 3), (85, .iload_n 0, 1), (86, .iconst 4, 1), (87, .idiv, 1), (88, .iconst 1, 1), (89, .iadd, 1), (90, .bipush 6, 2), (92, .if_icmp .ge 7, 3), (95, .iconst 1, 1), (96, .goto 4, 3), (99, .iconst 0, 1), (100, .ireturn, 1)]
theorem dd_Law_goesOn : Dall 42 dl_Law_goesOn = true := by decide +kernel
theorem t_Law_goesOn {h : Hp} {P : Value → Hp → Prop} {p0 p1 : Int} (T : (0 ≤ p0 ∧ p0 < 2147483648) ∧ (rng (p0 % 4)) ∧ ((((p0 % 4) = 0 → R 43 0 [.int (I p1), .retAddr 0] [] h (fun v h2 => R 42 32 [.int (I p0), .int (I p1)] (v :: []) h2 P)) ∧ ((p0 % 4) = 1 → (rng p1) ∧ ((p1 < 48 → P (.int (I 0)) h) ∧ (¬ p1 < 48 → (rng p1) ∧ (((57 : Int) < p1 → P (.int (I 0)) h) ∧ (¬ (57 : Int) < p1 → P (.int (I 1)) h))))) ∧ ((p0 % 4) = 2 → (rng p1) ∧ ((p1 < 49 → P (.int (I 0)) h) ∧ (¬ p1 < 49 → (rng p1) ∧ (((51 : Int) < p1 → P (.int (I 0)) h) ∧ (¬ (51 : Int) < p1 → P (.int (I 1)) h)))))) ∧ ((p0 % 4) < 0 ∨ 2 < (p0 % 4) → (rng p1) ∧ ((p1 = 59 → (0 ≤ p0 ∧ p0 < 2147483648) ∧ (rng ((p0 / 4) + 1)) ∧ ((((p0 / 4) + 1) < 6 → P (.int (I 1)) h) ∧ (¬ ((p0 / 4) + 1) < 6 → P (.int (I 0)) h))) ∧ (¬ p1 = 59 → P (.int (I 0)) h))))) : R 42 0 [.int (I p0), .int (I p1)] [] h P := by
  refine R_iload_n (Dat dd_Law_goesOn 0 rfl) rfl ?_
  refine R_iconst (Dat dd_Law_goesOn 1 rfl) ?_
  obtain ⟨g1, T⟩ := T
  refine R_irem (Dat dd_Law_goesOn 2 rfl) g1 (by decide) ?_
  obtain ⟨g2, T⟩ := T
  refine R_tsw (lo := 0) (hi := 2) (Dat dd_Law_goesOn 3 rfl) (td := 79) (ts := [28, 43, 61]) g2 rfl rfl rfl rfl (fun i hi hc => ?_) (fun c => ?_)
  · obtain ⟨T, -⟩ := T
    have hi : i < 3 := hi
    rcases (show i = 0 ∨ i = 1 ∨ i = 2 by omega) with rfl | rfl | rfl
    · replace T := T.1 (by exact hc)
      refine R_iload_n (Dat dd_Law_goesOn 4 rfl) rfl ?_
      exact R_call0 (Dat dd_Law_goesOn 5 rfl) rfl rfl rfl rfl rfl rfl T
    · replace T := T.2.1 (by exact hc)
      refine R_iload_n (Dat dd_Law_goesOn 12 rfl) rfl ?_
      refine R_bipush (Dat dd_Law_goesOn 13 rfl) (a := 48) rfl ?_
      obtain ⟨g3, T⟩ := T
      refine R_ic_lt (Dat dd_Law_goesOn 14 rfl) rfl g3 (by decide) (fun c => ?_) (fun c => ?_)
      · replace T := T.1 c
        refine R_iconst (Dat dd_Law_goesOn 20 rfl) ?_
        exact R_ireturn (Dat dd_Law_goesOn 21 rfl) rfl T
      · replace T := T.2 c
        refine R_iload_n (Dat dd_Law_goesOn 15 rfl) rfl ?_
        refine R_bipush (Dat dd_Law_goesOn 16 rfl) (a := 57) rfl ?_
        obtain ⟨g4, T⟩ := T
        refine R_ic_gt (Dat dd_Law_goesOn 17 rfl) rfl g4 (by decide) (fun c => ?_) (fun c => ?_)
        · replace T := T.1 c
          refine R_iconst (Dat dd_Law_goesOn 20 rfl) ?_
          exact R_ireturn (Dat dd_Law_goesOn 21 rfl) rfl T
        · replace T := T.2 c
          refine R_iconst (Dat dd_Law_goesOn 18 rfl) ?_
          refine R_goto (Dat dd_Law_goesOn 19 rfl) rfl ?_
          exact R_ireturn (Dat dd_Law_goesOn 21 rfl) rfl T
    · replace T := T.2.2 (by exact hc)
      refine R_iload_n (Dat dd_Law_goesOn 22 rfl) rfl ?_
      refine R_bipush (Dat dd_Law_goesOn 23 rfl) (a := 49) rfl ?_
      obtain ⟨g5, T⟩ := T
      refine R_ic_lt (Dat dd_Law_goesOn 24 rfl) rfl g5 (by decide) (fun c => ?_) (fun c => ?_)
      · replace T := T.1 c
        refine R_iconst (Dat dd_Law_goesOn 30 rfl) ?_
        exact R_ireturn (Dat dd_Law_goesOn 31 rfl) rfl T
      · replace T := T.2 c
        refine R_iload_n (Dat dd_Law_goesOn 25 rfl) rfl ?_
        refine R_bipush (Dat dd_Law_goesOn 26 rfl) (a := 51) rfl ?_
        obtain ⟨g6, T⟩ := T
        refine R_ic_gt (Dat dd_Law_goesOn 27 rfl) rfl g6 (by decide) (fun c => ?_) (fun c => ?_)
        · replace T := T.1 c
          refine R_iconst (Dat dd_Law_goesOn 30 rfl) ?_
          exact R_ireturn (Dat dd_Law_goesOn 31 rfl) rfl T
        · replace T := T.2 c
          refine R_iconst (Dat dd_Law_goesOn 28 rfl) ?_
          refine R_goto (Dat dd_Law_goesOn 29 rfl) rfl ?_
          exact R_ireturn (Dat dd_Law_goesOn 31 rfl) rfl T
  · replace T := T.2 c
    refine R_iload_n (Dat dd_Law_goesOn 32 rfl) rfl ?_
    refine R_bipush (Dat dd_Law_goesOn 33 rfl) (a := 59) rfl ?_
    obtain ⟨g7, T⟩ := T
    refine R_ic_ne (Dat dd_Law_goesOn 34 rfl) rfl g7 (by decide) (fun c => ?_) (fun c => ?_)
    · replace T := T.1 c
      refine R_iload_n (Dat dd_Law_goesOn 35 rfl) rfl ?_
      refine R_iconst (Dat dd_Law_goesOn 36 rfl) ?_
      obtain ⟨g8, T⟩ := T
      refine R_idiv (Dat dd_Law_goesOn 37 rfl) g8 (by decide) ?_
      refine R_iconst (Dat dd_Law_goesOn 38 rfl) ?_
      refine R_iadd (Dat dd_Law_goesOn 39 rfl) ?_
      refine R_bipush (Dat dd_Law_goesOn 40 rfl) (a := 6) rfl ?_
      obtain ⟨g9, T⟩ := T
      refine R_ic_ge (Dat dd_Law_goesOn 41 rfl) rfl g9 (by decide) (fun c => ?_) (fun c => ?_)
      · replace T := T.1 c
        refine R_iconst (Dat dd_Law_goesOn 42 rfl) ?_
        refine R_goto (Dat dd_Law_goesOn 43 rfl) rfl ?_
        exact R_ireturn (Dat dd_Law_goesOn 45 rfl) rfl T
      · replace T := T.2 c
        refine R_iconst (Dat dd_Law_goesOn 44 rfl) ?_
        exact R_ireturn (Dat dd_Law_goesOn 45 rfl) rfl T
    · replace T := T.2 c
      refine R_iconst (Dat dd_Law_goesOn 44 rfl) ?_
      exact R_ireturn (Dat dd_Law_goesOn 45 rfl) rfl T
theorem t_Law_goesOn_32 {h : Hp} {P : Value → Hp → Prop} {s0 : Int} {a0 a1 : Value} (T : (rng s0) ∧ ((s0 = (-9) → P (.int (I 0)) h) ∧ (¬ s0 = (-9) → P (.int (I 1)) h))) : R 42 32 [a0, a1] [.int (I s0)] h P := by
  refine R_bipush (Dat dd_Law_goesOn 6 rfl) (a := (-9)) rfl ?_
  obtain ⟨g1, T⟩ := T
  refine R_ic_eq (Dat dd_Law_goesOn 7 rfl) rfl g1 (by decide) (fun c => ?_) (fun c => ?_)
  · replace T := T.1 c
    refine R_iconst (Dat dd_Law_goesOn 10 rfl) ?_
    exact R_ireturn (Dat dd_Law_goesOn 11 rfl) rfl T
  · replace T := T.2 c
    refine R_iconst (Dat dd_Law_goesOn 8 rfl) ?_
    refine R_goto (Dat dd_Law_goesOn 9 rfl) rfl ?_
    exact R_ireturn (Dat dd_Law_goesOn 11 rfl) rfl T
def dl_Cause_letterOf : List (Nat × Instr × Nat) := [(0, .iconst 0, 1), (1, .istore_n 1, 1), (2, .iload_n 1, 1), (3, .getstatic 21, 3), (6, .arraylength, 1), (7, .if_icmp .ge 20, 3), (10, .getstatic 21, 3), (13, .iload_n 1, 1), (14, .iaload, 1), (15, .iload_n 0, 1), (16, .if_icmp .ne 5, 3), (19, .iload_n 1, 1), (20, .ireturn, 1), (21, .iinc 1 1, 3), (24, .goto (-22), 3), (27, .bipush (-9), 2), (29, .ireturn, 1)]
theorem dd_Cause_letterOf : Dall 43 dl_Cause_letterOf = true := by decide +kernel
theorem t_Cause_letterOf {h : Hp} {P : Value → Hp → Prop} {p0 : Int} (T : R 43 2 [.int (I p0), .int (I 0)] [] h P) : R 43 0 [.int (I p0), .retAddr 0] [] h P := by
  refine R_iconst (Dat dd_Cause_letterOf 0 rfl) ?_
  refine R_istore_n (Dat dd_Cause_letterOf 1 rfl) rfl rfl ?_
  exact T
theorem t_Cause_letterOf_2 {h : Hp} {P : Value → Hp → Prop} {a0 a1 : Int} (T : (tg h 501 = 30) ∧ ((20 ≤ tg h 501 ∧ tg h 501 ≤ 25) ∨ tg h 501 = 30) ∧ (rng a1) ∧ (rng (ln h 501 : Int)) ∧ ((a1 < (ln h 501 : Int) → (tg h 501 = 30) ∧ (tg h 501 = 20 ∨ tg h 501 = 30) ∧ ((ln h 501 : Int) ≤ 2147483648) ∧ (0 ≤ a1) ∧ (a1 < ln h 501) ∧ (rng (iv h 501 a1)) ∧ (rng a0) ∧ (((iv h 501 a1) = a0 → P (.int (I a1)) h) ∧ (¬ (iv h 501 a1) = a0 → R 43 2 [.int (I a0), .int (I (a1 + 1))] [] h P))) ∧ (¬ a1 < (ln h 501 : Int) → P (.int (I (-9))) h))) : R 43 2 [.int (I a0), .int (I a1)] [] h P := by
  refine R_iload_n (Dat dd_Cause_letterOf 2 rfl) rfl ?_
  obtain ⟨g1, T⟩ := T
  refine R_getst (Dat dd_Cause_letterOf 3 rfl) (r := 501) rfl g1 ?_
  obtain ⟨g2, T⟩ := T
  refine R_alen (Dat dd_Cause_letterOf 4 rfl) g2 ?_
  obtain ⟨g3, T⟩ := T
  obtain ⟨g4, T⟩ := T
  refine R_ic_ge (Dat dd_Cause_letterOf 5 rfl) rfl g3 g4 (fun c => ?_) (fun c => ?_)
  · replace T := T.1 c
    obtain ⟨g5, T⟩ := T
    refine R_getst (Dat dd_Cause_letterOf 6 rfl) (r := 501) rfl g5 ?_
    refine R_iload_n (Dat dd_Cause_letterOf 7 rfl) rfl ?_
    obtain ⟨g6, T⟩ := T
    obtain ⟨g7, T⟩ := T
    obtain ⟨g8, T⟩ := T
    obtain ⟨g9, T⟩ := T
    refine R_iaload (Dat dd_Cause_letterOf 8 rfl) g6 g7 g8 g9 ?_
    refine R_iload_n (Dat dd_Cause_letterOf 9 rfl) rfl ?_
    obtain ⟨g10, T⟩ := T
    obtain ⟨g11, T⟩ := T
    refine R_ic_ne (Dat dd_Cause_letterOf 10 rfl) rfl g10 g11 (fun c => ?_) (fun c => ?_)
    · replace T := T.1 c
      refine R_iload_n (Dat dd_Cause_letterOf 11 rfl) rfl ?_
      exact R_ireturn (Dat dd_Cause_letterOf 12 rfl) rfl T
    · replace T := T.2 c
      refine R_iinc (Dat dd_Cause_letterOf 13 rfl) rfl rfl rfl ?_
      refine R_goto (Dat dd_Cause_letterOf 14 rfl) rfl ?_
      exact T
  · replace T := T.2 c
    refine R_bipush (Dat dd_Cause_letterOf 15 rfl) (a := (-9)) rfl ?_
    exact R_ireturn (Dat dd_Cause_letterOf 16 rfl) rfl T
def dl_Law_init : List (Nat × Instr × Nat) := [(0, .aload_n 0, 1), (1, .invokespecial 3, 3), (4, .aload_n 0, 1), (5, .iconst 3, 1), (6, .anewarray 9, 3), (9, .putfield 11, 3), (12, .aload_n 0, 1), (13, .iload_n 3, 1), (14, .iconst 1, 1), (15, .iadd, 1), (16, .iconst 4, 1), (17, .idiv, 1), (18, .anewarray 17, 3), (21, .putfield 19, 3), (24, .iconst 0, 1), (25, .istore 4, 2), (27, .iload 4, 2), (29, .aload_n 0, 1), (30, .getfield 19, 3), (33, .arraylength, 1), (34, .if_icmp .ge 56, 3), (37, .iload_n 2, 1), (38, .iconst 4, 1), (39, .iload 4, 2), (41, .imul, 1), (42, .iadd, 1), (43, .istore 5, 2), (45, .aload_n 0, 1), (46, .getfield 19, 3), (49, .iload 4, 2), (51, .new 17, 3), (54, .dup, 1), (55, .aload_n 1, 1), (56, .iload 5, 2), (58, .iaload, 1), (59, .invokestatic 23, 3), (62, .aload_n 1, 1), (63, .iload 5, 2), (65, .iconst 1, 1), (66, .iadd, 1), (67, .iaload, 1), (68, .bipush 48, 2), (70, .isub, 1), (71, .aload_n 1, 1), (72, .iload 5, 2), (74, .iconst 2, 1), (75, .iadd, 1), (76, .iaload, 1), (77, .bipush 48, 2), (79, .isub, 1), (80, .invokespecial 27, 3), (83, .aastore, 1), (84, .iinc 4 1, 3), (87, .goto (-60), 3), (90, .iconst 0, 1), (91, .istore 4, 2), (93, .iload 4, 2), (95, .iconst 3, 1), (96, .if_icmp .ge 23, 3), (99, .aload_n 0, 1), (100, .getfield 11, 3), (103, .iload 4, 2), (105, .new 9, 3), (108, .dup, 1), (109, .invokespecial 30, 3), (112, .aastore, 1), (113, .iinc 4 1, 3), (116, .goto (-23), 3), (119, .return_, 1)]
theorem dd_Law_init : Dall 44 dl_Law_init = true := by decide +kernel
theorem t_Law_init {h : Hp} {P : Value → Hp → Prop} {p1 p2 : Int} {r p0 : Nat} (T : (tg h (r + 2) = 0) ∧ ((r + 2) < 500) ∧ (tg (mk h (r + 2) 25 (3 : Int).toNat (3 : Int).toNat) r = 4) ∧ (child r 1 = (r + 2)) ∧ (0 ≤ (p2 + 1) ∧ (p2 + 1) < 2147483648) ∧ (tg (setF (mk h (r + 2) 25 (3 : Int).toNat (3 : Int).toNat) r 1) (r + 1) = 0) ∧ ((r + 1) < 500) ∧ (0 ≤ ((p2 + 1) / 4)) ∧ (((p2 + 1) / 4) < 1000000) ∧ (tg (mk (setF (mk h (r + 2) 25 (3 : Int).toNat (3 : Int).toNat) r 1) (r + 1) 24 ((p2 + 1) / 4).toNat ((p2 + 1) / 4).toNat) r = 4) ∧ (child r 0 = (r + 1)) ∧ R 44 27 [.ref r, .ref p0, .int (I p1), .int (I p2), .int (I 0), .retAddr 0] [] (setF (mk (setF (mk h (r + 2) 25 (3 : Int).toNat (3 : Int).toNat) r 1) (r + 1) 24 ((p2 + 1) / 4).toNat ((p2 + 1) / 4).toNat) r 0) P) : R 44 0 [.ref r, .ref p0, .int (I p1), .int (I p2), .retAddr 0, .retAddr 0] [] h P := by
  refine R_aload_n (Dat dd_Law_init 0 rfl) rfl rfl ?_
  refine R_call8 (Dat dd_Law_init 1 rfl) rfl rfl ?_
  refine R_aload_n (Dat dd_Law_init 2 rfl) rfl rfl ?_
  refine R_iconst (Dat dd_Law_init 3 rfl) ?_
  obtain ⟨g1, T⟩ := T
  obtain ⟨g2, T⟩ := T
  refine R_anew (Dat dd_Law_init 4 rfl) (t := 25) rfl rfl (q := r + 2) rfl g1 (Or.inl g2) (by decide) (by decide) ?_
  obtain ⟨g3, T⟩ := T
  obtain ⟨g4, T⟩ := T
  refine R_putr (Dat dd_Law_init 5 rfl) rfl rfl rfl (tok g3) g4 ?_
  refine R_aload_n (Dat dd_Law_init 6 rfl) rfl rfl ?_
  refine R_iload_n (Dat dd_Law_init 7 rfl) rfl ?_
  refine R_iconst (Dat dd_Law_init 8 rfl) ?_
  refine R_iadd (Dat dd_Law_init 9 rfl) ?_
  refine R_iconst (Dat dd_Law_init 10 rfl) ?_
  obtain ⟨g5, T⟩ := T
  refine R_idiv (Dat dd_Law_init 11 rfl) g5 (by decide) ?_
  obtain ⟨g6, T⟩ := T
  obtain ⟨g7, T⟩ := T
  obtain ⟨g8, T⟩ := T
  obtain ⟨g9, T⟩ := T
  refine R_anew (Dat dd_Law_init 12 rfl) (t := 24) rfl rfl (q := r + 1) rfl g6 (Or.inl g7) g8 g9 ?_
  obtain ⟨g10, T⟩ := T
  obtain ⟨g11, T⟩ := T
  refine R_putr (Dat dd_Law_init 13 rfl) rfl rfl rfl (tok g10) g11 ?_
  refine R_iconst (Dat dd_Law_init 14 rfl) ?_
  refine R_istore (Dat dd_Law_init 15 rfl) rfl rfl ?_
  exact T
theorem t_Law_init_27 {h : Hp} {P : Value → Hp → Prop} {a2 a4 : Int} {a0 a1 : Nat} {a3 a5 : Value} (T : (tg h a0 = 4) ∧ (fl h a0 0 = true) ∧ (tg h (child a0 0) ≠ 0) ∧ ((20 ≤ tg h (child a0 0) ∧ tg h (child a0 0) ≤ 25) ∨ tg h (child a0 0) = 30) ∧ (rng a4) ∧ (rng (ln h (child a0 0) : Int)) ∧ ((a4 < (ln h (child a0 0) : Int) → (tg h a0 = 4) ∧ (fl h a0 0 = true) ∧ (tg h (child a0 0) ≠ 0) ∧ (tg h (a0 + 3 + (wr a4).toNat) = 0) ∧ ((a0 + 3 + (wr a4).toNat) < 500) ∧ (tg (mk h (a0 + 3 + (wr a4).toNat) 2 0 3) a1 = 20 ∨ tg (mk h (a0 + 3 + (wr a4).toNat) 2 0 3) a1 = 30) ∧ ((ln (mk h (a0 + 3 + (wr a4).toNat) 2 0 3) a1 : Int) ≤ 2147483648) ∧ (0 ≤ (a2 + (4 * a4))) ∧ ((a2 + (4 * a4)) < ln (mk h (a0 + 3 + (wr a4).toNat) 2 0 3) a1) ∧ R 43 0 [.int (I (iv (mk h (a0 + 3 + (wr a4).toNat) 2 0 3) a1 (a2 + (4 * a4)))), .retAddr 0] [] (mk h (a0 + 3 + (wr a4).toNat) 2 0 3) (fun v h2 => R 44 62 [.ref a0, .ref a1, .int (I a2), a3, .int (I a4), .int (I (a2 + (4 * a4)))] (v :: [.ref (a0 + 3 + (wr a4).toNat), .ref (a0 + 3 + (wr a4).toNat), .int (I a4), .ref (child a0 0)]) h2 P)) ∧ (¬ a4 < (ln h (child a0 0) : Int) → R 44 93 [.ref a0, .ref a1, .int (I a2), a3, .int (I 0), a5] [] h P))) : R 44 27 [.ref a0, .ref a1, .int (I a2), a3, .int (I a4), a5] [] h P := by
  refine R_iload (Dat dd_Law_init 16 rfl) rfl ?_
  refine R_aload_n (Dat dd_Law_init 17 rfl) rfl rfl ?_
  obtain ⟨g1, T⟩ := T
  obtain ⟨g2, T⟩ := T
  obtain ⟨g3, T⟩ := T
  refine R_getr (Dat dd_Law_init 18 rfl) rfl rfl (tok g1) g2 (q := child a0 0) rfl g3 ?_
  obtain ⟨g4, T⟩ := T
  refine R_alen (Dat dd_Law_init 19 rfl) g4 ?_
  obtain ⟨g5, T⟩ := T
  obtain ⟨g6, T⟩ := T
  refine R_ic_ge (Dat dd_Law_init 20 rfl) rfl g5 g6 (fun c => ?_) (fun c => ?_)
  · replace T := T.1 c
    refine R_iload_n (Dat dd_Law_init 21 rfl) rfl ?_
    refine R_iconst (Dat dd_Law_init 22 rfl) ?_
    refine R_iload (Dat dd_Law_init 23 rfl) rfl ?_
    refine R_imul (Dat dd_Law_init 24 rfl) ?_
    refine R_iadd (Dat dd_Law_init 25 rfl) ?_
    refine R_istore (Dat dd_Law_init 26 rfl) rfl rfl ?_
    refine R_aload_n (Dat dd_Law_init 27 rfl) rfl rfl ?_
    obtain ⟨g7, T⟩ := T
    obtain ⟨g8, T⟩ := T
    obtain ⟨g9, T⟩ := T
    refine R_getr (Dat dd_Law_init 28 rfl) rfl rfl (tok g7) g8 (q := child a0 0) rfl g9 ?_
    refine R_iload (Dat dd_Law_init 29 rfl) rfl ?_
    obtain ⟨g10, T⟩ := T
    obtain ⟨g11, T⟩ := T
    refine R_new (Dat dd_Law_init 30 rfl) (ci := 1) rfl rfl (q := a0 + 3 + (wr a4).toNat) rfl g10 (Or.inl g11) ?_
    refine R_dup (Dat dd_Law_init 31 rfl) rfl ?_
    refine R_aload_n (Dat dd_Law_init 32 rfl) rfl rfl ?_
    refine R_iload (Dat dd_Law_init 33 rfl) rfl ?_
    obtain ⟨g12, T⟩ := T
    obtain ⟨g13, T⟩ := T
    obtain ⟨g14, T⟩ := T
    obtain ⟨g15, T⟩ := T
    refine R_iaload (Dat dd_Law_init 34 rfl) g12 g13 g14 g15 ?_
    exact R_call0 (Dat dd_Law_init 35 rfl) rfl rfl rfl rfl rfl rfl T
  · replace T := T.2 c
    refine R_iconst (Dat dd_Law_init 54 rfl) ?_
    refine R_istore (Dat dd_Law_init 55 rfl) rfl rfl ?_
    exact T
theorem t_Law_init_62 {h : Hp} {P : Value → Hp → Prop} {a2 a4 a5 s0 s3 : Int} {a0 a1 s1 s2 s4 : Nat} {a3 : Value} (T : (tg h a1 = 20 ∨ tg h a1 = 30) ∧ ((ln h a1 : Int) ≤ 2147483648) ∧ (0 ≤ (a5 + 1)) ∧ ((a5 + 1) < ln h a1) ∧ (tg h a1 = 20 ∨ tg h a1 = 30) ∧ ((ln h a1 : Int) ≤ 2147483648) ∧ (0 ≤ (a5 + 2)) ∧ ((a5 + 2) < ln h a1) ∧ R 45 0 [.ref s1, .int (I s0), .int (I ((iv h a1 (a5 + 1)) - 48)), .int (I ((iv h a1 (a5 + 2)) - 48))] [] h (fun _ h2 => R 44 83 [.ref a0, .ref a1, .int (I a2), a3, .int (I a4), .int (I a5)] [.ref s2, .int (I s3), .ref s4] h2 P)) : R 44 62 [.ref a0, .ref a1, .int (I a2), a3, .int (I a4), .int (I a5)] [.int (I s0), .ref s1, .ref s2, .int (I s3), .ref s4] h P := by
  refine R_aload_n (Dat dd_Law_init 36 rfl) rfl rfl ?_
  refine R_iload (Dat dd_Law_init 37 rfl) rfl ?_
  refine R_iconst (Dat dd_Law_init 38 rfl) ?_
  refine R_iadd (Dat dd_Law_init 39 rfl) ?_
  obtain ⟨g1, T⟩ := T
  obtain ⟨g2, T⟩ := T
  obtain ⟨g3, T⟩ := T
  obtain ⟨g4, T⟩ := T
  refine R_iaload (Dat dd_Law_init 40 rfl) g1 g2 g3 g4 ?_
  refine R_bipush (Dat dd_Law_init 41 rfl) (a := 48) rfl ?_
  refine R_isub (Dat dd_Law_init 42 rfl) ?_
  refine R_aload_n (Dat dd_Law_init 43 rfl) rfl rfl ?_
  refine R_iload (Dat dd_Law_init 44 rfl) rfl ?_
  refine R_iconst (Dat dd_Law_init 45 rfl) ?_
  refine R_iadd (Dat dd_Law_init 46 rfl) ?_
  obtain ⟨g5, T⟩ := T
  obtain ⟨g6, T⟩ := T
  obtain ⟨g7, T⟩ := T
  obtain ⟨g8, T⟩ := T
  refine R_iaload (Dat dd_Law_init 47 rfl) g5 g6 g7 g8 ?_
  refine R_bipush (Dat dd_Law_init 48 rfl) (a := 48) rfl ?_
  refine R_isub (Dat dd_Law_init 49 rfl) ?_
  exact R_call2 (Dat dd_Law_init 50 rfl) rfl rfl rfl rfl rfl rfl T
theorem t_Law_init_93 {h : Hp} {P : Value → Hp → Prop} {a4 : Int} {a0 : Nat} {a1 a2 a3 a5 : Value} (T : (rng a4) ∧ ((a4 < 3 → (tg h a0 = 4) ∧ (fl h a0 1 = true) ∧ (tg h (child a0 1) ≠ 0) ∧ (tg h (a0 + 16 + 4 * (wr a4).toNat) = 0) ∧ ((a0 + 16 + 4 * (wr a4).toNat) < 500) ∧ (okg 44 46 [.ref a0, a1, a2, a3, .int (I a4), a5] [.ref (a0 + 16 + 4 * (wr a4).toNat), .int (I a4), .ref (child a0 1)] [.ref (a0 + 16 + 4 * (wr a4).toNat)] = true) ∧ R 46 0 [.ref (a0 + 16 + 4 * (wr a4).toNat)] [] (mk h (a0 + 16 + 4 * (wr a4).toNat) 6 0 3) (fun _ h2 => R 44 112 [.ref a0, a1, a2, a3, .int (I a4), a5] [.ref (a0 + 16 + 4 * (wr a4).toNat), .int (I a4), .ref (child a0 1)] h2 P)) ∧ (¬ a4 < 3 → P .null h))) : R 44 93 [.ref a0, a1, a2, a3, .int (I a4), a5] [] h P := by
  refine R_iload (Dat dd_Law_init 56 rfl) rfl ?_
  refine R_iconst (Dat dd_Law_init 57 rfl) ?_
  obtain ⟨g1, T⟩ := T
  refine R_ic_ge (Dat dd_Law_init 58 rfl) rfl g1 (by decide) (fun c => ?_) (fun c => ?_)
  · replace T := T.1 c
    refine R_aload_n (Dat dd_Law_init 59 rfl) rfl rfl ?_
    obtain ⟨g2, T⟩ := T
    obtain ⟨g3, T⟩ := T
    obtain ⟨g4, T⟩ := T
    refine R_getr (Dat dd_Law_init 60 rfl) rfl rfl (tok g2) g3 (q := child a0 1) rfl g4 ?_
    refine R_iload (Dat dd_Law_init 61 rfl) rfl ?_
    obtain ⟨g5, T⟩ := T
    obtain ⟨g6, T⟩ := T
    refine R_new (Dat dd_Law_init 62 rfl) (ci := 5) rfl rfl (q := a0 + 16 + 4 * (wr a4).toNat) rfl g5 (Or.inl g6) ?_
    refine R_dup (Dat dd_Law_init 63 rfl) rfl ?_
    obtain ⟨g7, T⟩ := T
    exact R_call4 (Dat dd_Law_init 64 rfl) rfl rfl rfl rfl g7 rfl T
  · replace T := T.2 c
    exact R_return (Dat dd_Law_init 68 rfl) rfl T
theorem t_Law_init_83 {h : Hp} {P : Value → Hp → Prop} {a2 a4 s1 : Int} {a0 a1 s0 s2 : Nat} {a3 a5 : Value} (T : (elok (tg h s2) (tg h s0) = true) ∧ ((ln h s2 : Int) ≤ 2147483648) ∧ (0 ≤ s1) ∧ (s1 < ln h s2) ∧ (child s2 (s1).toNat = s0) ∧ R 44 27 [.ref a0, .ref a1, .int (I a2), a3, .int (I (a4 + 1)), a5] [] (setF h s2 (s1).toNat) P) : R 44 83 [.ref a0, .ref a1, .int (I a2), a3, .int (I a4), a5] [.ref s0, .int (I s1), .ref s2] h P := by
  obtain ⟨g1, T⟩ := T
  obtain ⟨g2, T⟩ := T
  obtain ⟨g3, T⟩ := T
  obtain ⟨g4, T⟩ := T
  obtain ⟨g5, T⟩ := T
  refine R_aastore (Dat dd_Law_init 51 rfl) g1 g2 g3 g4 g5 ?_
  refine R_iinc (Dat dd_Law_init 52 rfl) rfl rfl rfl ?_
  refine R_goto (Dat dd_Law_init 53 rfl) rfl ?_
  exact T
theorem t_Law_init_112 {h : Hp} {P : Value → Hp → Prop} {a4 s1 : Int} {a0 s0 s2 : Nat} {a1 a2 a3 a5 : Value} (T : (elok (tg h s2) (tg h s0) = true) ∧ ((ln h s2 : Int) ≤ 2147483648) ∧ (0 ≤ s1) ∧ (s1 < ln h s2) ∧ (child s2 (s1).toNat = s0) ∧ R 44 93 [.ref a0, a1, a2, a3, .int (I (a4 + 1)), a5] [] (setF h s2 (s1).toNat) P) : R 44 112 [.ref a0, a1, a2, a3, .int (I a4), a5] [.ref s0, .int (I s1), .ref s2] h P := by
  obtain ⟨g1, T⟩ := T
  obtain ⟨g2, T⟩ := T
  obtain ⟨g3, T⟩ := T
  obtain ⟨g4, T⟩ := T
  obtain ⟨g5, T⟩ := T
  refine R_aastore (Dat dd_Law_init 65 rfl) g1 g2 g3 g4 g5 ?_
  refine R_iinc (Dat dd_Law_init 66 rfl) rfl rfl rfl ?_
  refine R_goto (Dat dd_Law_init 67 rfl) rfl ?_
  exact T
def dl_Cause_init : List (Nat × Instr × Nat) := [(0, .aload_n 0, 1), (1, .invokespecial 3, 3), (4, .aload_n 0, 1), (5, .iload_n 1, 1), (6, .putfield 9, 3), (9, .aload_n 0, 1), (10, .iload_n 2, 1), (11, .putfield 15, 3), (14, .aload_n 0, 1), (15, .iload_n 3, 1), (16, .putfield 18, 3), (19, .return_, 1)]
theorem dd_Cause_init : Dall 45 dl_Cause_init = true := by decide +kernel
theorem t_Cause_init {h : Hp} {P : Value → Hp → Prop} {p0 p1 p2 : Int} {r : Nat} (T : (tg h r = 2) ∧ (tg (setI h r 0 (wr p0)) r = 2) ∧ (tg (setI (setI h r 0 (wr p0)) r 1 (wr p1)) r = 2) ∧ P .null (setI (setI (setI h r 0 (wr p0)) r 1 (wr p1)) r 2 (wr p2))) : R 45 0 [.ref r, .int (I p0), .int (I p1), .int (I p2)] [] h P := by
  refine R_aload_n (Dat dd_Cause_init 0 rfl) rfl rfl ?_
  refine R_call8 (Dat dd_Cause_init 1 rfl) rfl rfl ?_
  refine R_aload_n (Dat dd_Cause_init 2 rfl) rfl rfl ?_
  refine R_iload_n (Dat dd_Cause_init 3 rfl) rfl ?_
  obtain ⟨g1, T⟩ := T
  refine R_puti (Dat dd_Cause_init 4 rfl) rfl rfl rfl (tok g1) rfl (v := wr p0) rfl ?_
  refine R_aload_n (Dat dd_Cause_init 5 rfl) rfl rfl ?_
  refine R_iload_n (Dat dd_Cause_init 6 rfl) rfl ?_
  obtain ⟨g2, T⟩ := T
  refine R_puti (Dat dd_Cause_init 7 rfl) rfl rfl rfl (tok g2) rfl (v := wr p1) rfl ?_
  refine R_aload_n (Dat dd_Cause_init 8 rfl) rfl rfl ?_
  refine R_iload_n (Dat dd_Cause_init 9 rfl) rfl ?_
  obtain ⟨g3, T⟩ := T
  refine R_puti (Dat dd_Cause_init 10 rfl) rfl rfl rfl (tok g3) rfl (v := wr p2) rfl ?_
  exact R_return (Dat dd_Cause_init 11 rfl) rfl T
def dl_Motion_init : List (Nat × Instr × Nat) := [(0, .aload_n 0, 1), (1, .invokespecial 1, 3), (4, .aload_n 0, 1), (5, .new 7, 3), (8, .dup, 1), (9, .invokespecial 9, 3), (12, .putfield 10, 3), (15, .aload_n 0, 1), (16, .iconst 0, 1), (17, .newarray .int, 2), (19, .putfield 16, 3), (22, .return_, 1)]
theorem dd_Motion_init : Dall 46 dl_Motion_init = true := by decide +kernel
theorem t_Motion_init {h : Hp} {P : Value → Hp → Prop} {r : Nat} (T : (tg h (r + 1) = 0) ∧ ((r + 1) < 500) ∧ (okg 46 4 [.ref r] [.ref (r + 1), .ref r] [.ref (r + 1)] = true) ∧ R 4 0 [.ref (r + 1)] [] (mk h (r + 1) 8 0 2) (fun _ h2 => R 46 12 [.ref r] [.ref (r + 1), .ref r] h2 P)) : R 46 0 [.ref r] [] h P := by
  refine R_aload_n (Dat dd_Motion_init 0 rfl) rfl rfl ?_
  refine R_call8 (Dat dd_Motion_init 1 rfl) rfl rfl ?_
  refine R_aload_n (Dat dd_Motion_init 2 rfl) rfl rfl ?_
  obtain ⟨g1, T⟩ := T
  obtain ⟨g2, T⟩ := T
  refine R_new (Dat dd_Motion_init 3 rfl) (ci := 7) rfl rfl (q := r + 1) rfl g1 (Or.inl g2) ?_
  refine R_dup (Dat dd_Motion_init 4 rfl) rfl ?_
  obtain ⟨g3, T⟩ := T
  exact R_call4 (Dat dd_Motion_init 5 rfl) rfl rfl rfl rfl g3 rfl T
theorem t_Motion_init_12 {h : Hp} {P : Value → Hp → Prop} {a0 s0 s1 : Nat} (T : (tg h s1 = 6) ∧ (s0 = (child s1 0) ∨ s0 = 38) ∧ ((s0 = (child s1 0) → (tg (setF h s1 0) (a0 + 3) = 0) ∧ ((a0 + 3) < 500) ∧ (tg (mk (setF h s1 0) (a0 + 3) 20 (0 : Int).toNat (0 : Int).toNat) a0 = 6) ∧ (child a0 1 = (a0 + 3)) ∧ P .null (setF (mk (setF h s1 0) (a0 + 3) 20 (0 : Int).toNat (0 : Int).toNat) a0 1)) ∧ (s0 = 38 → (mv 46 && gw (child s1 0) && !gw s1 && decide ((child s1 0) < 37 ∨ 38 < (child s1 0)) && tg h 38 == 20 && ng [.ref a0] && ng []) = true ∧ (child s1 0) ≠ 38 ∧ (tg (mov h s1 0 (child s1 0) 38) (a0 + 3) = 0) ∧ ((a0 + 3) < 500) ∧ (tg (mk (mov h s1 0 (child s1 0) 38) (a0 + 3) 20 (0 : Int).toNat (0 : Int).toNat) a0 = 6) ∧ (child a0 1 = (a0 + 3)) ∧ P .null (setF (mk (mov h s1 0 (child s1 0) 38) (a0 + 3) 20 (0 : Int).toNat (0 : Int).toNat) a0 1)))) : R 46 12 [.ref a0] [.ref s0, .ref s1] h P := by
  obtain ⟨g1, T⟩ := T
  obtain ⟨g2, T⟩ := T
  rcases g2 with e | e
  · replace T := T.1 e
    subst e
    refine R_putr (Dat dd_Motion_init 6 rfl) rfl rfl rfl (tok g1) rfl ?_
    refine R_aload_n (Dat dd_Motion_init 7 rfl) rfl rfl ?_
    refine R_iconst (Dat dd_Motion_init 8 rfl) ?_
    obtain ⟨g3, T⟩ := T
    obtain ⟨g4, T⟩ := T
    refine R_newa (Dat dd_Motion_init 9 rfl) rfl (q := a0 + 3) rfl g3 (Or.inl g4) (by decide) (by decide) ?_
    obtain ⟨g5, T⟩ := T
    obtain ⟨g6, T⟩ := T
    refine R_putr (Dat dd_Motion_init 10 rfl) rfl rfl rfl (tok g5) g6 ?_
    exact R_return (Dat dd_Motion_init 11 rfl) rfl T
  · replace T := T.2 e
    subst e
    obtain ⟨g7, g8, T⟩ := T
    refine R_putm (Dat dd_Motion_init 6 rfl) rfl rfl rfl (tok g1) (q := child s1 0) rfl g8 g7 ?_
    refine R_aload_n (Dat dd_Motion_init 7 rfl) rfl rfl ?_
    refine R_iconst (Dat dd_Motion_init 8 rfl) ?_
    obtain ⟨g9, T⟩ := T
    obtain ⟨g10, T⟩ := T
    refine R_newa (Dat dd_Motion_init 9 rfl) rfl (q := a0 + 3) rfl g9 (Or.inl g10) (by decide) (by decide) ?_
    obtain ⟨g11, T⟩ := T
    obtain ⟨g12, T⟩ := T
    refine R_putr (Dat dd_Motion_init 10 rfl) rfl rfl rfl (tok g11) g12 ?_
    exact R_return (Dat dd_Motion_init 11 rfl) rfl T
def dl_Law_ruling : List (Nat × Instr × Nat) := [(0, .iconst 0, 1), (1, .istore 6, 2), (3, .iload 6, 2), (5, .aload_n 0, 1), (6, .getfield 19, 3), (9, .arraylength, 1), (10, .if_icmp .ge 50, 3), (13, .iload 6, 2), (15, .iload 5, 2), (17, .if_icmp .eq 37, 3), (20, .aload_n 0, 1), (21, .getfield 19, 3), (24, .iload 6, 2), (26, .aaload, 1), (27, .getfield 35, 3), (30, .iload 4, 2), (32, .if_icmp .gt 22, 3), (35, .aload_n 0, 1), (36, .getfield 19, 3), (39, .iload 6, 2), (41, .aaload, 1), (42, .aload_n 1, 1), (43, .aload_n 2, 1), (44, .iload_n 3, 1), (45, .invokevirtual 39, 3), (48, .ifCond .eq 6, 3), (51, .iload 6, 2), (53, .ireturn, 1), (54, .iinc 6 1, 3), (57, .goto (-54), 3), (60, .bipush (-9), 2), (62, .ireturn, 1)]
theorem dd_Law_ruling : Dall 51 dl_Law_ruling = true := by decide +kernel
theorem t_Law_ruling {h : Hp} {P : Value → Hp → Prop} {p2 p3 p4 : Int} {r p0 p1 : Nat} (T : R 51 3 [.ref r, .ref p0, .ref p1, .int (I p2), .int (I p3), .int (I p4), .int (I 0)] [] h P) : R 51 0 [.ref r, .ref p0, .ref p1, .int (I p2), .int (I p3), .int (I p4), .retAddr 0] [] h P := by
  refine R_iconst (Dat dd_Law_ruling 0 rfl) ?_
  refine R_istore (Dat dd_Law_ruling 1 rfl) rfl rfl ?_
  exact T
theorem t_Law_ruling_3 {h : Hp} {P : Value → Hp → Prop} {a3 a4 a5 a6 : Int} {a0 a1 a2 : Nat} (T : (tg h a0 = 4) ∧ (fl h a0 0 = true) ∧ (tg h (child a0 0) ≠ 0) ∧ ((20 ≤ tg h (child a0 0) ∧ tg h (child a0 0) ≤ 25) ∨ tg h (child a0 0) = 30) ∧ (rng a6) ∧ (rng (ln h (child a0 0) : Int)) ∧ ((a6 < (ln h (child a0 0) : Int) → (rng a6) ∧ (rng a5) ∧ ((a6 = a5 → R 51 3 [.ref a0, .ref a1, .ref a2, .int (I a3), .int (I a4), .int (I a5), .int (I (a6 + 1))] [] h P) ∧ (¬ a6 = a5 → (tg h a0 = 4) ∧ (fl h a0 0 = true) ∧ (tg h (child a0 0) ≠ 0) ∧ (21 ≤ tg h (child a0 0) ∧ tg h (child a0 0) ≤ 25) ∧ ((ln h (child a0 0) : Int) ≤ 2147483648) ∧ (0 ≤ a6) ∧ (a6 < ln h (child a0 0)) ∧ (fl h (child a0 0) (a6).toNat = true) ∧ (tg h (child (child a0 0) (a6).toNat) ≠ 0) ∧ (tg h (child (child a0 0) (a6).toNat) = 2) ∧ (rng (iv h (child (child a0 0) (a6).toNat) 2)) ∧ (rng a4) ∧ ((a4 < (iv h (child (child a0 0) (a6).toNat) 2) → R 51 3 [.ref a0, .ref a1, .ref a2, .int (I a3), .int (I a4), .int (I a5), .int (I (a6 + 1))] [] h P) ∧ (¬ a4 < (iv h (child (child a0 0) (a6).toNat) 2) → (tg h a0 = 4) ∧ (fl h a0 0 = true) ∧ (tg h (child a0 0) ≠ 0) ∧ (21 ≤ tg h (child a0 0) ∧ tg h (child a0 0) ≤ 25) ∧ ((ln h (child a0 0) : Int) ≤ 2147483648) ∧ (0 ≤ a6) ∧ (a6 < ln h (child a0 0)) ∧ (fl h (child a0 0) (a6).toNat = true) ∧ (tg h (child (child a0 0) (a6).toNat) ≠ 0) ∧ (tg h (child (child a0 0) (a6).toNat) = 2) ∧ R 52 0 [.ref (child (child a0 0) (a6).toNat), .ref a1, .ref a2, .int (I a3)] [] h (fun v h2 => R 51 48 [.ref a0, .ref a1, .ref a2, .int (I a3), .int (I a4), .int (I a5), .int (I a6)] (v :: []) h2 P)))))) ∧ (¬ a6 < (ln h (child a0 0) : Int) → P (.int (I (-9))) h))) : R 51 3 [.ref a0, .ref a1, .ref a2, .int (I a3), .int (I a4), .int (I a5), .int (I a6)] [] h P := by
  refine R_iload (Dat dd_Law_ruling 2 rfl) rfl ?_
  refine R_aload_n (Dat dd_Law_ruling 3 rfl) rfl rfl ?_
  obtain ⟨g1, T⟩ := T
  obtain ⟨g2, T⟩ := T
  obtain ⟨g3, T⟩ := T
  refine R_getr (Dat dd_Law_ruling 4 rfl) rfl rfl (tok g1) g2 (q := child a0 0) rfl g3 ?_
  obtain ⟨g4, T⟩ := T
  refine R_alen (Dat dd_Law_ruling 5 rfl) g4 ?_
  obtain ⟨g5, T⟩ := T
  obtain ⟨g6, T⟩ := T
  refine R_ic_ge (Dat dd_Law_ruling 6 rfl) rfl g5 g6 (fun c => ?_) (fun c => ?_)
  · replace T := T.1 c
    refine R_iload (Dat dd_Law_ruling 7 rfl) rfl ?_
    refine R_iload (Dat dd_Law_ruling 8 rfl) rfl ?_
    obtain ⟨g7, T⟩ := T
    obtain ⟨g8, T⟩ := T
    refine R_ic_eq (Dat dd_Law_ruling 9 rfl) rfl g7 g8 (fun c => ?_) (fun c => ?_)
    · replace T := T.1 c
      refine R_iinc (Dat dd_Law_ruling 28 rfl) rfl rfl rfl ?_
      refine R_goto (Dat dd_Law_ruling 29 rfl) rfl ?_
      exact T
    · replace T := T.2 c
      refine R_aload_n (Dat dd_Law_ruling 10 rfl) rfl rfl ?_
      obtain ⟨g9, T⟩ := T
      obtain ⟨g10, T⟩ := T
      obtain ⟨g11, T⟩ := T
      refine R_getr (Dat dd_Law_ruling 11 rfl) rfl rfl (tok g9) g10 (q := child a0 0) rfl g11 ?_
      refine R_iload (Dat dd_Law_ruling 12 rfl) rfl ?_
      obtain ⟨g12, T⟩ := T
      obtain ⟨g13, T⟩ := T
      obtain ⟨g14, T⟩ := T
      obtain ⟨g15, T⟩ := T
      obtain ⟨g16, T⟩ := T
      obtain ⟨g17, T⟩ := T
      refine R_aaload (Dat dd_Law_ruling 13 rfl) g12 g13 g14 g15 g16 rfl g17 ?_
      obtain ⟨g18, T⟩ := T
      refine R_geti (Dat dd_Law_ruling 14 rfl) rfl rfl (tok g18) ?_
      refine R_iload (Dat dd_Law_ruling 15 rfl) rfl ?_
      obtain ⟨g19, T⟩ := T
      obtain ⟨g20, T⟩ := T
      refine R_ic_gt (Dat dd_Law_ruling 16 rfl) rfl g19 g20 (fun c => ?_) (fun c => ?_)
      · replace T := T.1 c
        refine R_iinc (Dat dd_Law_ruling 28 rfl) rfl rfl rfl ?_
        refine R_goto (Dat dd_Law_ruling 29 rfl) rfl ?_
        exact T
      · replace T := T.2 c
        refine R_aload_n (Dat dd_Law_ruling 17 rfl) rfl rfl ?_
        obtain ⟨g21, T⟩ := T
        obtain ⟨g22, T⟩ := T
        obtain ⟨g23, T⟩ := T
        refine R_getr (Dat dd_Law_ruling 18 rfl) rfl rfl (tok g21) g22 (q := child a0 0) rfl g23 ?_
        refine R_iload (Dat dd_Law_ruling 19 rfl) rfl ?_
        obtain ⟨g24, T⟩ := T
        obtain ⟨g25, T⟩ := T
        obtain ⟨g26, T⟩ := T
        obtain ⟨g27, T⟩ := T
        obtain ⟨g28, T⟩ := T
        obtain ⟨g29, T⟩ := T
        refine R_aaload (Dat dd_Law_ruling 20 rfl) g24 g25 g26 g27 g28 rfl g29 ?_
        refine R_aload_n (Dat dd_Law_ruling 21 rfl) rfl rfl ?_
        refine R_aload_n (Dat dd_Law_ruling 22 rfl) rfl rfl ?_
        refine R_iload_n (Dat dd_Law_ruling 23 rfl) rfl ?_
        obtain ⟨g30, T⟩ := T
        exact R_call1 (Dat dd_Law_ruling 24 rfl) rfl g30 rfl rfl rfl rfl rfl T
  · replace T := T.2 c
    refine R_bipush (Dat dd_Law_ruling 30 rfl) (a := (-9)) rfl ?_
    exact R_ireturn (Dat dd_Law_ruling 31 rfl) rfl T
theorem t_Law_ruling_48 {h : Hp} {P : Value → Hp → Prop} {a3 a4 a5 a6 s0 : Int} {a0 a1 a2 : Nat} (T : (rng s0) ∧ ((s0 = 0 → R 51 3 [.ref a0, .ref a1, .ref a2, .int (I a3), .int (I a4), .int (I a5), .int (I (a6 + 1))] [] h P) ∧ (¬ s0 = 0 → P (.int (I a6)) h))) : R 51 48 [.ref a0, .ref a1, .ref a2, .int (I a3), .int (I a4), .int (I a5), .int (I a6)] [.int (I s0)] h P := by
  obtain ⟨g1, T⟩ := T
  refine R_if_eq (Dat dd_Law_ruling 25 rfl) rfl g1  (fun c => ?_) (fun c => ?_)
  · replace T := T.1 c
    refine R_iinc (Dat dd_Law_ruling 28 rfl) rfl rfl rfl ?_
    refine R_goto (Dat dd_Law_ruling 29 rfl) rfl ?_
    exact T
  · replace T := T.2 c
    refine R_iload (Dat dd_Law_ruling 26 rfl) rfl ?_
    exact R_ireturn (Dat dd_Law_ruling 27 rfl) rfl T
def dl_Cause_isSo : List (Nat × Instr × Nat) := [(0, .aload_n 0, 1), (1, .getfield 9, 3), (4, .tableswitch 172 0 4 #[36, 58, 91, 130, 158], 36), (40, .aload_n 1, 1), (41, .getfield 25, 3), (44, .aload_n 2, 1), (45, .getfield 25, 3), (48, .isub, 1), (49, .aload_n 0, 1), (50, .getfield 15, 3), (53, .if_icmp .lt 7, 3), (56, .iconst 1, 1), (57, .goto 4, 3), (60, .iconst 0, 1), (61, .ireturn, 1), (62, .aload_n 2, 1), (63, .getfield 30, 3), (66, .aload_n 1, 1), (67, .getfield 30, 3), (70, .isub, 1), (71, .aload_n 0, 1), (72, .getfield 15, 3), (75, .if_icmp .lt 18, 3), (78, .aload_n 2, 1), (79, .getfield 30, 3), (82, .aload_n 1, 1), (83, .getfield 30, 3), (86, .if_icmp .le 7, 3), (89, .iconst 1, 1), (90, .goto 4, 3), (93, .iconst 0, 1), (94, .ireturn, 1), (95, .aload_n 1, 1), (96, .getfield 25, 3), (99, .aload_n 0, 1), (100, .getfield 15, 3), (103, .if_icmp .lt 29, 3), (106, .aload_n 1, 1), (107, .getfield 30, 3), (110, .aload_n 2, 1), (111, .getfield 30, 3), (114, .if_icmp .lt 18, 3), (117, .aload_n 1, 1), (118, .getfield 25, 3), (121, .aload_n 2, 1), (122, .getfield 25, 3), (125, .if_icmp .le 7, 3), (128, .iconst 1, 1), (129, .goto 4, 3), (132, .iconst 0, 1), (133, .ireturn, 1), (134, .aload_n 1, 1), (135, .getfield 33, 3), (138, .ifCond .le 22, 3), (141, .aload_n 2, 1), (142, .getfield 33, 3), (145, .ifCond .ne 15, 3), (148, .iload_n 3, 1), (149, .aload_n 0, 1), (150, .getfield 15, 3), (153, .if_icmp .ge 7, 3), (156, .iconst 1, 1), (157, .goto 4, 3), (160, .iconst 0, 1), (161, .ireturn, 1), (162, .iload_n 3, 1), (163, .aload_n 0, 1), (164, .getfield 15, 3), (167, .if_icmp .lt 7, 3), (170, .iconst 1, 1), (171, .goto 4, 3), (174, .iconst 0, 1), (175, .ireturn, 1), (176, .aload_n 1, 1), (177, .getfield 30, 3), (180, .aload_n 2, 1), (181, .getfield 30, 3), (184, .isub, 1), (185, .aload_n 0, 1), (186, .getfield 15, 3), (189, .if_icmp .ge 23, 3), (192, .aload_n 2, 1), (193, .getfield 30, 3), (196, .aload_n 1, 1), (197, .getfield 30, 3), (200, .isub, 1), (201, .aload_n 0, 1), (202, .getfield 15, 3), (205, .if_icmp .ge 7, 3), (208, .iconst 1, 1), (209, .goto 4, 3), (212, .iconst 0, 1), (213, .ireturn, 1)]
theorem dd_Cause_isSo : Dall 52 dl_Cause_isSo = true := by decide +kernel
theorem t_Cause_isSo {h : Hp} {P : Value → Hp → Prop} {p2 : Int} {r p0 p1 : Nat} (T : (tg h r = 2) ∧ (rng (iv h r 0)) ∧ ((((iv h r 0) = 0 → (tagok 2 (tg h p0) = true) ∧ (tagok 2 (tg h p1) = true) ∧ (tg h r = 2) ∧ (rng ((iv h p0 4) - (iv h p1 4))) ∧ (rng (iv h r 1)) ∧ ((((iv h p0 4) - (iv h p1 4)) < (iv h r 1) → P (.int (I 0)) h) ∧ (¬ ((iv h p0 4) - (iv h p1 4)) < (iv h r 1) → P (.int (I 1)) h))) ∧ ((iv h r 0) = 1 → (tagok 2 (tg h p1) = true) ∧ (tagok 2 (tg h p0) = true) ∧ (tg h r = 2) ∧ (rng ((iv h p1 5) - (iv h p0 5))) ∧ (rng (iv h r 1)) ∧ ((((iv h p1 5) - (iv h p0 5)) < (iv h r 1) → P (.int (I 0)) h) ∧ (¬ ((iv h p1 5) - (iv h p0 5)) < (iv h r 1) → (tagok 2 (tg h p1) = true) ∧ (tagok 2 (tg h p0) = true) ∧ (rng (iv h p1 5)) ∧ (rng (iv h p0 5)) ∧ (((iv h p0 5) < (iv h p1 5) → P (.int (I 1)) h) ∧ (¬ (iv h p0 5) < (iv h p1 5) → P (.int (I 0)) h))))) ∧ ((iv h r 0) = 2 → (tagok 2 (tg h p0) = true) ∧ (tg h r = 2) ∧ (rng (iv h p0 4)) ∧ (rng (iv h r 1)) ∧ (((iv h p0 4) < (iv h r 1) → P (.int (I 0)) h) ∧ (¬ (iv h p0 4) < (iv h r 1) → (tagok 2 (tg h p0) = true) ∧ (tagok 2 (tg h p1) = true) ∧ (rng (iv h p0 5)) ∧ (rng (iv h p1 5)) ∧ (((iv h p0 5) < (iv h p1 5) → P (.int (I 0)) h) ∧ (¬ (iv h p0 5) < (iv h p1 5) → (tagok 2 (tg h p0) = true) ∧ (tagok 2 (tg h p1) = true) ∧ (rng (iv h p0 4)) ∧ (rng (iv h p1 4)) ∧ (((iv h p1 4) < (iv h p0 4) → P (.int (I 1)) h) ∧ (¬ (iv h p1 4) < (iv h p0 4) → P (.int (I 0)) h))))))) ∧ ((iv h r 0) = 3 → (tagok 2 (tg h p0) = true) ∧ (rng (iv h p0 1)) ∧ (((0 : Int) < (iv h p0 1) → (tagok 2 (tg h p1) = true) ∧ (rng (iv h p1 1)) ∧ (((iv h p1 1) = 0 → (tg h r = 2) ∧ (rng p2) ∧ (rng (iv h r 1)) ∧ ((p2 < (iv h r 1) → P (.int (I 1)) h) ∧ (¬ p2 < (iv h r 1) → P (.int (I 0)) h))) ∧ (¬ (iv h p1 1) = 0 → P (.int (I 0)) h))) ∧ (¬ (0 : Int) < (iv h p0 1) → P (.int (I 0)) h))) ∧ ((iv h r 0) = 4 → (tg h r = 2) ∧ (rng p2) ∧ (rng (iv h r 1)) ∧ ((p2 < (iv h r 1) → P (.int (I 0)) h) ∧ (¬ p2 < (iv h r 1) → P (.int (I 1)) h)))) ∧ ((iv h r 0) < 0 ∨ 4 < (iv h r 0) → (tagok 2 (tg h p0) = true) ∧ (tagok 2 (tg h p1) = true) ∧ (tg h r = 2) ∧ (rng ((iv h p0 5) - (iv h p1 5))) ∧ (rng (iv h r 1)) ∧ ((((iv h p0 5) - (iv h p1 5)) < (iv h r 1) → (tagok 2 (tg h p1) = true) ∧ (tagok 2 (tg h p0) = true) ∧ (tg h r = 2) ∧ (rng ((iv h p1 5) - (iv h p0 5))) ∧ (rng (iv h r 1)) ∧ ((((iv h p1 5) - (iv h p0 5)) < (iv h r 1) → P (.int (I 1)) h) ∧ (¬ ((iv h p1 5) - (iv h p0 5)) < (iv h r 1) → P (.int (I 0)) h))) ∧ (¬ ((iv h p0 5) - (iv h p1 5)) < (iv h r 1) → P (.int (I 0)) h))))) : R 52 0 [.ref r, .ref p0, .ref p1, .int (I p2)] [] h P := by
  refine R_aload_n (Dat dd_Cause_isSo 0 rfl) rfl rfl ?_
  obtain ⟨g1, T⟩ := T
  refine R_geti (Dat dd_Cause_isSo 1 rfl) rfl rfl (tok g1) ?_
  obtain ⟨g2, T⟩ := T
  refine R_tsw (lo := 0) (hi := 4) (Dat dd_Cause_isSo 2 rfl) (td := 176) (ts := [40, 62, 95, 134, 162]) g2 rfl rfl rfl rfl (fun i hi hc => ?_) (fun c => ?_)
  · obtain ⟨T, -⟩ := T
    have hi : i < 5 := hi
    rcases (show i = 0 ∨ i = 1 ∨ i = 2 ∨ i = 3 ∨ i = 4 by omega) with rfl | rfl | rfl | rfl | rfl
    · replace T := T.1 (by exact hc)
      refine R_aload_n (Dat dd_Cause_isSo 3 rfl) rfl rfl ?_
      obtain ⟨g3, T⟩ := T
      refine R_geti (Dat dd_Cause_isSo 4 rfl) rfl rfl g3 ?_
      refine R_aload_n (Dat dd_Cause_isSo 5 rfl) rfl rfl ?_
      obtain ⟨g4, T⟩ := T
      refine R_geti (Dat dd_Cause_isSo 6 rfl) rfl rfl g4 ?_
      refine R_isub (Dat dd_Cause_isSo 7 rfl) ?_
      refine R_aload_n (Dat dd_Cause_isSo 8 rfl) rfl rfl ?_
      obtain ⟨g5, T⟩ := T
      refine R_geti (Dat dd_Cause_isSo 9 rfl) rfl rfl (tok g5) ?_
      obtain ⟨g6, T⟩ := T
      obtain ⟨g7, T⟩ := T
      refine R_ic_lt (Dat dd_Cause_isSo 10 rfl) rfl g6 g7 (fun c => ?_) (fun c => ?_)
      · replace T := T.1 c
        refine R_iconst (Dat dd_Cause_isSo 13 rfl) ?_
        exact R_ireturn (Dat dd_Cause_isSo 14 rfl) rfl T
      · replace T := T.2 c
        refine R_iconst (Dat dd_Cause_isSo 11 rfl) ?_
        refine R_goto (Dat dd_Cause_isSo 12 rfl) rfl ?_
        exact R_ireturn (Dat dd_Cause_isSo 14 rfl) rfl T
    · replace T := T.2.1 (by exact hc)
      refine R_aload_n (Dat dd_Cause_isSo 15 rfl) rfl rfl ?_
      obtain ⟨g8, T⟩ := T
      refine R_geti (Dat dd_Cause_isSo 16 rfl) rfl rfl g8 ?_
      refine R_aload_n (Dat dd_Cause_isSo 17 rfl) rfl rfl ?_
      obtain ⟨g9, T⟩ := T
      refine R_geti (Dat dd_Cause_isSo 18 rfl) rfl rfl g9 ?_
      refine R_isub (Dat dd_Cause_isSo 19 rfl) ?_
      refine R_aload_n (Dat dd_Cause_isSo 20 rfl) rfl rfl ?_
      obtain ⟨g10, T⟩ := T
      refine R_geti (Dat dd_Cause_isSo 21 rfl) rfl rfl (tok g10) ?_
      obtain ⟨g11, T⟩ := T
      obtain ⟨g12, T⟩ := T
      refine R_ic_lt (Dat dd_Cause_isSo 22 rfl) rfl g11 g12 (fun c => ?_) (fun c => ?_)
      · replace T := T.1 c
        refine R_iconst (Dat dd_Cause_isSo 30 rfl) ?_
        exact R_ireturn (Dat dd_Cause_isSo 31 rfl) rfl T
      · replace T := T.2 c
        refine R_aload_n (Dat dd_Cause_isSo 23 rfl) rfl rfl ?_
        obtain ⟨g13, T⟩ := T
        refine R_geti (Dat dd_Cause_isSo 24 rfl) rfl rfl g13 ?_
        refine R_aload_n (Dat dd_Cause_isSo 25 rfl) rfl rfl ?_
        obtain ⟨g14, T⟩ := T
        refine R_geti (Dat dd_Cause_isSo 26 rfl) rfl rfl g14 ?_
        obtain ⟨g15, T⟩ := T
        obtain ⟨g16, T⟩ := T
        refine R_ic_le (Dat dd_Cause_isSo 27 rfl) rfl g15 g16 (fun c => ?_) (fun c => ?_)
        · replace T := T.1 c
          refine R_iconst (Dat dd_Cause_isSo 28 rfl) ?_
          refine R_goto (Dat dd_Cause_isSo 29 rfl) rfl ?_
          exact R_ireturn (Dat dd_Cause_isSo 31 rfl) rfl T
        · replace T := T.2 c
          refine R_iconst (Dat dd_Cause_isSo 30 rfl) ?_
          exact R_ireturn (Dat dd_Cause_isSo 31 rfl) rfl T
    · replace T := T.2.2.1 (by exact hc)
      refine R_aload_n (Dat dd_Cause_isSo 32 rfl) rfl rfl ?_
      obtain ⟨g17, T⟩ := T
      refine R_geti (Dat dd_Cause_isSo 33 rfl) rfl rfl g17 ?_
      refine R_aload_n (Dat dd_Cause_isSo 34 rfl) rfl rfl ?_
      obtain ⟨g18, T⟩ := T
      refine R_geti (Dat dd_Cause_isSo 35 rfl) rfl rfl (tok g18) ?_
      obtain ⟨g19, T⟩ := T
      obtain ⟨g20, T⟩ := T
      refine R_ic_lt (Dat dd_Cause_isSo 36 rfl) rfl g19 g20 (fun c => ?_) (fun c => ?_)
      · replace T := T.1 c
        refine R_iconst (Dat dd_Cause_isSo 49 rfl) ?_
        exact R_ireturn (Dat dd_Cause_isSo 50 rfl) rfl T
      · replace T := T.2 c
        refine R_aload_n (Dat dd_Cause_isSo 37 rfl) rfl rfl ?_
        obtain ⟨g21, T⟩ := T
        refine R_geti (Dat dd_Cause_isSo 38 rfl) rfl rfl g21 ?_
        refine R_aload_n (Dat dd_Cause_isSo 39 rfl) rfl rfl ?_
        obtain ⟨g22, T⟩ := T
        refine R_geti (Dat dd_Cause_isSo 40 rfl) rfl rfl g22 ?_
        obtain ⟨g23, T⟩ := T
        obtain ⟨g24, T⟩ := T
        refine R_ic_lt (Dat dd_Cause_isSo 41 rfl) rfl g23 g24 (fun c => ?_) (fun c => ?_)
        · replace T := T.1 c
          refine R_iconst (Dat dd_Cause_isSo 49 rfl) ?_
          exact R_ireturn (Dat dd_Cause_isSo 50 rfl) rfl T
        · replace T := T.2 c
          refine R_aload_n (Dat dd_Cause_isSo 42 rfl) rfl rfl ?_
          obtain ⟨g25, T⟩ := T
          refine R_geti (Dat dd_Cause_isSo 43 rfl) rfl rfl g25 ?_
          refine R_aload_n (Dat dd_Cause_isSo 44 rfl) rfl rfl ?_
          obtain ⟨g26, T⟩ := T
          refine R_geti (Dat dd_Cause_isSo 45 rfl) rfl rfl g26 ?_
          obtain ⟨g27, T⟩ := T
          obtain ⟨g28, T⟩ := T
          refine R_ic_le (Dat dd_Cause_isSo 46 rfl) rfl g27 g28 (fun c => ?_) (fun c => ?_)
          · replace T := T.1 c
            refine R_iconst (Dat dd_Cause_isSo 47 rfl) ?_
            refine R_goto (Dat dd_Cause_isSo 48 rfl) rfl ?_
            exact R_ireturn (Dat dd_Cause_isSo 50 rfl) rfl T
          · replace T := T.2 c
            refine R_iconst (Dat dd_Cause_isSo 49 rfl) ?_
            exact R_ireturn (Dat dd_Cause_isSo 50 rfl) rfl T
    · replace T := T.2.2.2.1 (by exact hc)
      refine R_aload_n (Dat dd_Cause_isSo 51 rfl) rfl rfl ?_
      obtain ⟨g29, T⟩ := T
      refine R_geti (Dat dd_Cause_isSo 52 rfl) rfl rfl g29 ?_
      obtain ⟨g30, T⟩ := T
      refine R_if_le (Dat dd_Cause_isSo 53 rfl) rfl g30  (fun c => ?_) (fun c => ?_)
      · replace T := T.1 c
        refine R_aload_n (Dat dd_Cause_isSo 54 rfl) rfl rfl ?_
        obtain ⟨g31, T⟩ := T
        refine R_geti (Dat dd_Cause_isSo 55 rfl) rfl rfl g31 ?_
        obtain ⟨g32, T⟩ := T
        refine R_if_ne (Dat dd_Cause_isSo 56 rfl) rfl g32  (fun c => ?_) (fun c => ?_)
        · replace T := T.1 c
          refine R_iload_n (Dat dd_Cause_isSo 57 rfl) rfl ?_
          refine R_aload_n (Dat dd_Cause_isSo 58 rfl) rfl rfl ?_
          obtain ⟨g33, T⟩ := T
          refine R_geti (Dat dd_Cause_isSo 59 rfl) rfl rfl (tok g33) ?_
          obtain ⟨g34, T⟩ := T
          obtain ⟨g35, T⟩ := T
          refine R_ic_ge (Dat dd_Cause_isSo 60 rfl) rfl g34 g35 (fun c => ?_) (fun c => ?_)
          · replace T := T.1 c
            refine R_iconst (Dat dd_Cause_isSo 61 rfl) ?_
            refine R_goto (Dat dd_Cause_isSo 62 rfl) rfl ?_
            exact R_ireturn (Dat dd_Cause_isSo 64 rfl) rfl T
          · replace T := T.2 c
            refine R_iconst (Dat dd_Cause_isSo 63 rfl) ?_
            exact R_ireturn (Dat dd_Cause_isSo 64 rfl) rfl T
        · replace T := T.2 c
          refine R_iconst (Dat dd_Cause_isSo 63 rfl) ?_
          exact R_ireturn (Dat dd_Cause_isSo 64 rfl) rfl T
      · replace T := T.2 c
        refine R_iconst (Dat dd_Cause_isSo 63 rfl) ?_
        exact R_ireturn (Dat dd_Cause_isSo 64 rfl) rfl T
    · replace T := T.2.2.2.2 (by exact hc)
      refine R_iload_n (Dat dd_Cause_isSo 65 rfl) rfl ?_
      refine R_aload_n (Dat dd_Cause_isSo 66 rfl) rfl rfl ?_
      obtain ⟨g36, T⟩ := T
      refine R_geti (Dat dd_Cause_isSo 67 rfl) rfl rfl (tok g36) ?_
      obtain ⟨g37, T⟩ := T
      obtain ⟨g38, T⟩ := T
      refine R_ic_lt (Dat dd_Cause_isSo 68 rfl) rfl g37 g38 (fun c => ?_) (fun c => ?_)
      · replace T := T.1 c
        refine R_iconst (Dat dd_Cause_isSo 71 rfl) ?_
        exact R_ireturn (Dat dd_Cause_isSo 72 rfl) rfl T
      · replace T := T.2 c
        refine R_iconst (Dat dd_Cause_isSo 69 rfl) ?_
        refine R_goto (Dat dd_Cause_isSo 70 rfl) rfl ?_
        exact R_ireturn (Dat dd_Cause_isSo 72 rfl) rfl T
  · replace T := T.2 c
    refine R_aload_n (Dat dd_Cause_isSo 73 rfl) rfl rfl ?_
    obtain ⟨g39, T⟩ := T
    refine R_geti (Dat dd_Cause_isSo 74 rfl) rfl rfl g39 ?_
    refine R_aload_n (Dat dd_Cause_isSo 75 rfl) rfl rfl ?_
    obtain ⟨g40, T⟩ := T
    refine R_geti (Dat dd_Cause_isSo 76 rfl) rfl rfl g40 ?_
    refine R_isub (Dat dd_Cause_isSo 77 rfl) ?_
    refine R_aload_n (Dat dd_Cause_isSo 78 rfl) rfl rfl ?_
    obtain ⟨g41, T⟩ := T
    refine R_geti (Dat dd_Cause_isSo 79 rfl) rfl rfl (tok g41) ?_
    obtain ⟨g42, T⟩ := T
    obtain ⟨g43, T⟩ := T
    refine R_ic_ge (Dat dd_Cause_isSo 80 rfl) rfl g42 g43 (fun c => ?_) (fun c => ?_)
    · replace T := T.1 c
      refine R_aload_n (Dat dd_Cause_isSo 81 rfl) rfl rfl ?_
      obtain ⟨g44, T⟩ := T
      refine R_geti (Dat dd_Cause_isSo 82 rfl) rfl rfl g44 ?_
      refine R_aload_n (Dat dd_Cause_isSo 83 rfl) rfl rfl ?_
      obtain ⟨g45, T⟩ := T
      refine R_geti (Dat dd_Cause_isSo 84 rfl) rfl rfl g45 ?_
      refine R_isub (Dat dd_Cause_isSo 85 rfl) ?_
      refine R_aload_n (Dat dd_Cause_isSo 86 rfl) rfl rfl ?_
      obtain ⟨g46, T⟩ := T
      refine R_geti (Dat dd_Cause_isSo 87 rfl) rfl rfl (tok g46) ?_
      obtain ⟨g47, T⟩ := T
      obtain ⟨g48, T⟩ := T
      refine R_ic_ge (Dat dd_Cause_isSo 88 rfl) rfl g47 g48 (fun c => ?_) (fun c => ?_)
      · replace T := T.1 c
        refine R_iconst (Dat dd_Cause_isSo 89 rfl) ?_
        refine R_goto (Dat dd_Cause_isSo 90 rfl) rfl ?_
        exact R_ireturn (Dat dd_Cause_isSo 92 rfl) rfl T
      · replace T := T.2 c
        refine R_iconst (Dat dd_Cause_isSo 91 rfl) ?_
        exact R_ireturn (Dat dd_Cause_isSo 92 rfl) rfl T
    · replace T := T.2 c
      refine R_iconst (Dat dd_Cause_isSo 91 rfl) ?_
      exact R_ireturn (Dat dd_Cause_isSo 92 rfl) rfl T
def dl_Rule_learn : List (Nat × Instr × Nat) := [(0, .iconst 0, 1), (1, .istore 5, 2), (3, .iload 5, 2), (5, .aload_n 1, 1), (6, .getfield 15, 3), (9, .if_icmp .ge 126, 3), (12, .iconst 0, 1), (13, .istore 6, 2), (15, .iload 6, 2), (17, .aload_n 1, 1), (18, .getfield 15, 3), (21, .if_icmp .ge 108, 3), (24, .aload_n 0, 1), (25, .getfield 9, 3), (28, .bipush 8, 2), (30, .iload 5, 2), (32, .imul, 1), (33, .iload 6, 2), (35, .iadd, 1), (36, .iconst 0, 1), (37, .iastore, 1), (38, .iconst 0, 1), (39, .istore 7, 2), (41, .iload 7, 2), (43, .iconst 1, 1), (44, .iadd, 1), (45, .aload_n 1, 1), (46, .getfield 15, 3), (49, .if_icmp .ge 74, 3), (52, .aload_n 2, 1), (53, .aload_n 1, 1), (54, .getfield 21, 3), (57, .iload 5, 2), (59, .aaload, 1), (60, .aload_n 1, 1), (61, .getfield 21, 3), (64, .iload 6, 2), (66, .aaload, 1), (67, .iload 7, 2), (69, .iload_n 3, 1), (70, .iload 4, 2), (72, .invokevirtual 25, 3), (75, .istore 8, 2), (77, .iload 8, 2), (79, .bipush (-9), 2), (81, .if_icmp .eq 36, 3), (84, .aload_n 2, 1), (85, .getfield 31, 3), (88, .iload 8, 2), (90, .aaload, 1), (91, .invokevirtual 35, 3), (94, .ifCond .eq 23, 3), (97, .aload_n 0, 1), (98, .getfield 9, 3), (101, .bipush 8, 2), (103, .iload 5, 2), (105, .imul, 1), (106, .iload 6, 2), (108, .iadd, 1), (109, .dup2, 1), (110, .iaload, 1), (111, .iconst 1, 1), (112, .iload 7, 2), (114, .ishl, 1), (115, .ior, 1), (116, .iastore, 1), (117, .iinc 7 1, 3), (120, .goto (-79), 3), (123, .iinc 6 1, 3), (126, .goto (-111), 3), (129, .iinc 5 1, 3), (132, .goto (-129), 3), (135, .return_, 1)]
theorem dd_Rule_learn : Dall 56 dl_Rule_learn = true := by decide +kernel
theorem t_Rule_learn {h : Hp} {P : Value → Hp → Prop} {p2 p3 : Int} {r p0 p1 : Nat} (T : R 56 3 [.ref r, .ref p0, .ref p1, .int (I p2), .int (I p3), .int (I 0), .retAddr 0, .retAddr 0, .retAddr 0] [] h P) : R 56 0 [.ref r, .ref p0, .ref p1, .int (I p2), .int (I p3), .retAddr 0, .retAddr 0, .retAddr 0, .retAddr 0] [] h P := by
  refine R_iconst (Dat dd_Rule_learn 0 rfl) ?_
  refine R_istore (Dat dd_Rule_learn 1 rfl) rfl rfl ?_
  exact T
theorem t_Rule_learn_3 {h : Hp} {P : Value → Hp → Prop} {a3 a4 a5 : Int} {a0 a1 a2 : Nat} {a6 a7 a8 : Value} (T : (tg h a1 = 1) ∧ (rng a5) ∧ (rng (iv h a1 1)) ∧ ((a5 < (iv h a1 1) → R 56 15 [.ref a0, .ref a1, .ref a2, .int (I a3), .int (I a4), .int (I a5), .int (I 0), a7, a8] [] h P) ∧ (¬ a5 < (iv h a1 1) → P .null h))) : R 56 3 [.ref a0, .ref a1, .ref a2, .int (I a3), .int (I a4), .int (I a5), a6, a7, a8] [] h P := by
  refine R_iload (Dat dd_Rule_learn 2 rfl) rfl ?_
  refine R_aload_n (Dat dd_Rule_learn 3 rfl) rfl rfl ?_
  obtain ⟨g1, T⟩ := T
  refine R_geti (Dat dd_Rule_learn 4 rfl) rfl rfl (tok g1) ?_
  obtain ⟨g2, T⟩ := T
  obtain ⟨g3, T⟩ := T
  refine R_ic_ge (Dat dd_Rule_learn 5 rfl) rfl g2 g3 (fun c => ?_) (fun c => ?_)
  · replace T := T.1 c
    refine R_iconst (Dat dd_Rule_learn 6 rfl) ?_
    refine R_istore (Dat dd_Rule_learn 7 rfl) rfl rfl ?_
    exact T
  · replace T := T.2 c
    exact R_return (Dat dd_Rule_learn 72 rfl) rfl T
theorem t_Rule_learn_15 {h : Hp} {P : Value → Hp → Prop} {a3 a4 a5 a6 : Int} {a0 a1 a2 : Nat} {a7 a8 : Value} (T : (tg h a1 = 1) ∧ (rng a6) ∧ (rng (iv h a1 1)) ∧ ((a6 < (iv h a1 1) → (tg h a0 = 8) ∧ (fl h a0 0 = true) ∧ (tg h (child a0 0) ≠ 0) ∧ (tg h (child a0 0) = 20) ∧ ((ln h (child a0 0) : Int) ≤ 2147483648) ∧ (0 ≤ ((8 * a5) + a6)) ∧ (((8 * a5) + a6) < ln h (child a0 0)) ∧ R 56 41 [.ref a0, .ref a1, .ref a2, .int (I a3), .int (I a4), .int (I a5), .int (I a6), .int (I 0), a8] [] (setI h (child a0 0) ((8 * a5) + a6) 0) P) ∧ (¬ a6 < (iv h a1 1) → R 56 3 [.ref a0, .ref a1, .ref a2, .int (I a3), .int (I a4), .int (I (a5 + 1)), .int (I a6), a7, a8] [] h P))) : R 56 15 [.ref a0, .ref a1, .ref a2, .int (I a3), .int (I a4), .int (I a5), .int (I a6), a7, a8] [] h P := by
  refine R_iload (Dat dd_Rule_learn 8 rfl) rfl ?_
  refine R_aload_n (Dat dd_Rule_learn 9 rfl) rfl rfl ?_
  obtain ⟨g1, T⟩ := T
  refine R_geti (Dat dd_Rule_learn 10 rfl) rfl rfl (tok g1) ?_
  obtain ⟨g2, T⟩ := T
  obtain ⟨g3, T⟩ := T
  refine R_ic_ge (Dat dd_Rule_learn 11 rfl) rfl g2 g3 (fun c => ?_) (fun c => ?_)
  · replace T := T.1 c
    refine R_aload_n (Dat dd_Rule_learn 12 rfl) rfl rfl ?_
    obtain ⟨g4, T⟩ := T
    obtain ⟨g5, T⟩ := T
    obtain ⟨g6, T⟩ := T
    refine R_getr (Dat dd_Rule_learn 13 rfl) rfl rfl (tok g4) g5 (q := child a0 0) rfl g6 ?_
    refine R_bipush (Dat dd_Rule_learn 14 rfl) (a := 8) rfl ?_
    refine R_iload (Dat dd_Rule_learn 15 rfl) rfl ?_
    refine R_imul (Dat dd_Rule_learn 16 rfl) ?_
    refine R_iload (Dat dd_Rule_learn 17 rfl) rfl ?_
    refine R_iadd (Dat dd_Rule_learn 18 rfl) ?_
    refine R_iconst (Dat dd_Rule_learn 19 rfl) ?_
    obtain ⟨g7, T⟩ := T
    obtain ⟨g8, T⟩ := T
    obtain ⟨g9, T⟩ := T
    obtain ⟨g10, T⟩ := T
    refine R_iastore (Dat dd_Rule_learn 20 rfl) g7 g8 g9 g10 (v := 0) rfl ?_
    refine R_iconst (Dat dd_Rule_learn 21 rfl) ?_
    refine R_istore (Dat dd_Rule_learn 22 rfl) rfl rfl ?_
    exact T
  · replace T := T.2 c
    refine R_iinc (Dat dd_Rule_learn 70 rfl) rfl rfl rfl ?_
    refine R_goto (Dat dd_Rule_learn 71 rfl) rfl ?_
    exact T
theorem t_Rule_learn_41 {h : Hp} {P : Value → Hp → Prop} {a3 a4 a5 a6 a7 : Int} {a0 a1 a2 : Nat} {a8 : Value} (T : (tg h a1 = 1) ∧ (rng (a7 + 1)) ∧ (rng (iv h a1 1)) ∧ (((a7 + 1) < (iv h a1 1) → (tg h a1 = 1) ∧ (fl h a1 0 = true) ∧ (tg h (child a1 0) ≠ 0) ∧ (21 ≤ tg h (child a1 0) ∧ tg h (child a1 0) ≤ 25) ∧ ((ln h (child a1 0) : Int) ≤ 2147483648) ∧ (0 ≤ a5) ∧ (a5 < ln h (child a1 0)) ∧ (fl h (child a1 0) (a5).toNat = true) ∧ (tg h (child (child a1 0) (a5).toNat) ≠ 0) ∧ (tg h a1 = 1) ∧ (fl h a1 0 = true) ∧ (tg h (child a1 0) ≠ 0) ∧ (21 ≤ tg h (child a1 0) ∧ tg h (child a1 0) ≤ 25) ∧ ((ln h (child a1 0) : Int) ≤ 2147483648) ∧ (0 ≤ a6) ∧ (a6 < ln h (child a1 0)) ∧ (fl h (child a1 0) (a6).toNat = true) ∧ (tg h (child (child a1 0) (a6).toNat) ≠ 0) ∧ (tg h a2 = 4) ∧ R 51 0 [.ref a2, .ref (child (child a1 0) (a5).toNat), .ref (child (child a1 0) (a6).toNat), .int (I a7), .int (I a3), .int (I a4), .retAddr 0] [] h (fun v h2 => R 56 75 [.ref a0, .ref a1, .ref a2, .int (I a3), .int (I a4), .int (I a5), .int (I a6), .int (I a7), a8] (v :: []) h2 P)) ∧ (¬ (a7 + 1) < (iv h a1 1) → R 56 15 [.ref a0, .ref a1, .ref a2, .int (I a3), .int (I a4), .int (I a5), .int (I (a6 + 1)), .int (I a7), a8] [] h P))) : R 56 41 [.ref a0, .ref a1, .ref a2, .int (I a3), .int (I a4), .int (I a5), .int (I a6), .int (I a7), a8] [] h P := by
  refine R_iload (Dat dd_Rule_learn 23 rfl) rfl ?_
  refine R_iconst (Dat dd_Rule_learn 24 rfl) ?_
  refine R_iadd (Dat dd_Rule_learn 25 rfl) ?_
  refine R_aload_n (Dat dd_Rule_learn 26 rfl) rfl rfl ?_
  obtain ⟨g1, T⟩ := T
  refine R_geti (Dat dd_Rule_learn 27 rfl) rfl rfl (tok g1) ?_
  obtain ⟨g2, T⟩ := T
  obtain ⟨g3, T⟩ := T
  refine R_ic_ge (Dat dd_Rule_learn 28 rfl) rfl g2 g3 (fun c => ?_) (fun c => ?_)
  · replace T := T.1 c
    refine R_aload_n (Dat dd_Rule_learn 29 rfl) rfl rfl ?_
    refine R_aload_n (Dat dd_Rule_learn 30 rfl) rfl rfl ?_
    obtain ⟨g4, T⟩ := T
    obtain ⟨g5, T⟩ := T
    obtain ⟨g6, T⟩ := T
    refine R_getr (Dat dd_Rule_learn 31 rfl) rfl rfl (tok g4) g5 (q := child a1 0) rfl g6 ?_
    refine R_iload (Dat dd_Rule_learn 32 rfl) rfl ?_
    obtain ⟨g7, T⟩ := T
    obtain ⟨g8, T⟩ := T
    obtain ⟨g9, T⟩ := T
    obtain ⟨g10, T⟩ := T
    obtain ⟨g11, T⟩ := T
    obtain ⟨g12, T⟩ := T
    refine R_aaload (Dat dd_Rule_learn 33 rfl) g7 g8 g9 g10 g11 rfl g12 ?_
    refine R_aload_n (Dat dd_Rule_learn 34 rfl) rfl rfl ?_
    obtain ⟨g13, T⟩ := T
    obtain ⟨g14, T⟩ := T
    obtain ⟨g15, T⟩ := T
    refine R_getr (Dat dd_Rule_learn 35 rfl) rfl rfl (tok g13) g14 (q := child a1 0) rfl g15 ?_
    refine R_iload (Dat dd_Rule_learn 36 rfl) rfl ?_
    obtain ⟨g16, T⟩ := T
    obtain ⟨g17, T⟩ := T
    obtain ⟨g18, T⟩ := T
    obtain ⟨g19, T⟩ := T
    obtain ⟨g20, T⟩ := T
    obtain ⟨g21, T⟩ := T
    refine R_aaload (Dat dd_Rule_learn 37 rfl) g16 g17 g18 g19 g20 rfl g21 ?_
    refine R_iload (Dat dd_Rule_learn 38 rfl) rfl ?_
    refine R_iload_n (Dat dd_Rule_learn 39 rfl) rfl ?_
    refine R_iload (Dat dd_Rule_learn 40 rfl) rfl ?_
    obtain ⟨g22, T⟩ := T
    exact R_call1 (Dat dd_Rule_learn 41 rfl) rfl g22 rfl rfl rfl rfl rfl T
  · replace T := T.2 c
    refine R_iinc (Dat dd_Rule_learn 68 rfl) rfl rfl rfl ?_
    refine R_goto (Dat dd_Rule_learn 69 rfl) rfl ?_
    exact T
theorem t_Rule_learn_75 {h : Hp} {P : Value → Hp → Prop} {a3 a4 a5 a6 a7 s0 : Int} {a0 a1 a2 : Nat} {a8 : Value} (T : (rng s0) ∧ ((s0 = (-9) → R 56 41 [.ref a0, .ref a1, .ref a2, .int (I a3), .int (I a4), .int (I a5), .int (I a6), .int (I (a7 + 1)), .int (I s0)] [] h P) ∧ (¬ s0 = (-9) → (tg h a2 = 4) ∧ (fl h a2 0 = true) ∧ (tg h (child a2 0) ≠ 0) ∧ (21 ≤ tg h (child a2 0) ∧ tg h (child a2 0) ≤ 25) ∧ ((ln h (child a2 0) : Int) ≤ 2147483648) ∧ (0 ≤ s0) ∧ (s0 < ln h (child a2 0)) ∧ (fl h (child a2 0) (s0).toNat = true) ∧ (tg h (child (child a2 0) (s0).toNat) ≠ 0) ∧ (tg h (child (child a2 0) (s0).toNat) = 2) ∧ R 57 0 [.ref (child (child a2 0) (s0).toNat)] [] h (fun v h2 => R 56 94 [.ref a0, .ref a1, .ref a2, .int (I a3), .int (I a4), .int (I a5), .int (I a6), .int (I a7), .int (I s0)] (v :: []) h2 P)))) : R 56 75 [.ref a0, .ref a1, .ref a2, .int (I a3), .int (I a4), .int (I a5), .int (I a6), .int (I a7), a8] [.int (I s0)] h P := by
  refine R_istore (Dat dd_Rule_learn 42 rfl) rfl rfl ?_
  refine R_iload (Dat dd_Rule_learn 43 rfl) rfl ?_
  refine R_bipush (Dat dd_Rule_learn 44 rfl) (a := (-9)) rfl ?_
  obtain ⟨g1, T⟩ := T
  refine R_ic_eq (Dat dd_Rule_learn 45 rfl) rfl g1 (by decide) (fun c => ?_) (fun c => ?_)
  · replace T := T.1 c
    refine R_iinc (Dat dd_Rule_learn 66 rfl) rfl rfl rfl ?_
    refine R_goto (Dat dd_Rule_learn 67 rfl) rfl ?_
    exact T
  · replace T := T.2 c
    refine R_aload_n (Dat dd_Rule_learn 46 rfl) rfl rfl ?_
    obtain ⟨g2, T⟩ := T
    obtain ⟨g3, T⟩ := T
    obtain ⟨g4, T⟩ := T
    refine R_getr (Dat dd_Rule_learn 47 rfl) rfl rfl (tok g2) g3 (q := child a2 0) rfl g4 ?_
    refine R_iload (Dat dd_Rule_learn 48 rfl) rfl ?_
    obtain ⟨g5, T⟩ := T
    obtain ⟨g6, T⟩ := T
    obtain ⟨g7, T⟩ := T
    obtain ⟨g8, T⟩ := T
    obtain ⟨g9, T⟩ := T
    obtain ⟨g10, T⟩ := T
    refine R_aaload (Dat dd_Rule_learn 49 rfl) g5 g6 g7 g8 g9 rfl g10 ?_
    obtain ⟨g11, T⟩ := T
    exact R_call1 (Dat dd_Rule_learn 50 rfl) rfl g11 rfl rfl rfl rfl rfl T
theorem t_Rule_learn_94 {h : Hp} {P : Value → Hp → Prop} {a3 a4 a5 a6 a7 s0 : Int} {a0 a1 a2 : Nat} {a8 : Value} (T : (rng s0) ∧ ((s0 = 0 → R 56 41 [.ref a0, .ref a1, .ref a2, .int (I a3), .int (I a4), .int (I a5), .int (I a6), .int (I (a7 + 1)), a8] [] h P) ∧ (¬ s0 = 0 → (tg h a0 = 8) ∧ (fl h a0 0 = true) ∧ (tg h (child a0 0) ≠ 0) ∧ (tg h (child a0 0) = 20 ∨ tg h (child a0 0) = 30) ∧ ((ln h (child a0 0) : Int) ≤ 2147483648) ∧ (0 ≤ ((8 * a5) + a6)) ∧ (((8 * a5) + a6) < ln h (child a0 0)) ∧ (tg h (child a0 0) = 20) ∧ ((ln h (child a0 0) : Int) ≤ 2147483648) ∧ (0 ≤ ((8 * a5) + a6)) ∧ (((8 * a5) + a6) < ln h (child a0 0)) ∧ R 56 41 [.ref a0, .ref a1, .ref a2, .int (I a3), .int (I a4), .int (I a5), .int (I a6), .int (I (a7 + 1)), a8] [] (setI h (child a0 0) ((8 * a5) + a6) (wr (bor (iv h (child a0 0) ((8 * a5) + a6)) (shl 1 a7)))) P))) : R 56 94 [.ref a0, .ref a1, .ref a2, .int (I a3), .int (I a4), .int (I a5), .int (I a6), .int (I a7), a8] [.int (I s0)] h P := by
  obtain ⟨g1, T⟩ := T
  refine R_if_eq (Dat dd_Rule_learn 51 rfl) rfl g1  (fun c => ?_) (fun c => ?_)
  · replace T := T.1 c
    refine R_iinc (Dat dd_Rule_learn 66 rfl) rfl rfl rfl ?_
    refine R_goto (Dat dd_Rule_learn 67 rfl) rfl ?_
    exact T
  · replace T := T.2 c
    refine R_aload_n (Dat dd_Rule_learn 52 rfl) rfl rfl ?_
    obtain ⟨g2, T⟩ := T
    obtain ⟨g3, T⟩ := T
    obtain ⟨g4, T⟩ := T
    refine R_getr (Dat dd_Rule_learn 53 rfl) rfl rfl (tok g2) g3 (q := child a0 0) rfl g4 ?_
    refine R_bipush (Dat dd_Rule_learn 54 rfl) (a := 8) rfl ?_
    refine R_iload (Dat dd_Rule_learn 55 rfl) rfl ?_
    refine R_imul (Dat dd_Rule_learn 56 rfl) ?_
    refine R_iload (Dat dd_Rule_learn 57 rfl) rfl ?_
    refine R_iadd (Dat dd_Rule_learn 58 rfl) ?_
    refine R_dup2 (Dat dd_Rule_learn 59 rfl) rfl ?_
    obtain ⟨g5, T⟩ := T
    obtain ⟨g6, T⟩ := T
    obtain ⟨g7, T⟩ := T
    obtain ⟨g8, T⟩ := T
    refine R_iaload (Dat dd_Rule_learn 60 rfl) g5 g6 g7 g8 ?_
    refine R_iconst (Dat dd_Rule_learn 61 rfl) ?_
    refine R_iload (Dat dd_Rule_learn 62 rfl) rfl ?_
    refine R_ishl (Dat dd_Rule_learn 63 rfl) ?_
    refine R_ior (Dat dd_Rule_learn 64 rfl) ?_
    obtain ⟨g9, T⟩ := T
    obtain ⟨g10, T⟩ := T
    obtain ⟨g11, T⟩ := T
    obtain ⟨g12, T⟩ := T
    refine R_iastore (Dat dd_Rule_learn 65 rfl) g9 g10 g11 g12 (v := wr (bor (iv h (child a0 0) ((8 * a5) + a6)) (shl 1 a7))) rfl ?_
    refine R_iinc (Dat dd_Rule_learn 66 rfl) rfl rfl rfl ?_
    refine R_goto (Dat dd_Rule_learn 67 rfl) rfl ?_
    exact T
def dl_Cause_makesChange : List (Nat × Instr × Nat) := [(0, .aload_n 0, 1), (1, .getfield 9, 3), (4, .iconst 3, 1), (5, .if_icmp .gt 7, 3), (8, .iconst 1, 1), (9, .goto 4, 3), (12, .iconst 0, 1), (13, .ireturn, 1)]
theorem dd_Cause_makesChange : Dall 57 dl_Cause_makesChange = true := by decide +kernel
theorem t_Cause_makesChange {h : Hp} {P : Value → Hp → Prop} {r : Nat} (T : (tg h r = 2) ∧ (rng (iv h r 0)) ∧ (((3 : Int) < (iv h r 0) → P (.int (I 0)) h) ∧ (¬ (3 : Int) < (iv h r 0) → P (.int (I 1)) h))) : R 57 0 [.ref r] [] h P := by
  refine R_aload_n (Dat dd_Cause_makesChange 0 rfl) rfl rfl ?_
  obtain ⟨g1, T⟩ := T
  refine R_geti (Dat dd_Cause_makesChange 1 rfl) rfl rfl (tok g1) ?_
  refine R_iconst (Dat dd_Cause_makesChange 2 rfl) ?_
  obtain ⟨g2, T⟩ := T
  refine R_ic_gt (Dat dd_Cause_makesChange 3 rfl) rfl g2 (by decide) (fun c => ?_) (fun c => ?_)
  · replace T := T.1 c
    refine R_iconst (Dat dd_Cause_makesChange 6 rfl) ?_
    exact R_ireturn (Dat dd_Cause_makesChange 7 rfl) rfl T
  · replace T := T.2 c
    refine R_iconst (Dat dd_Cause_makesChange 4 rfl) ?_
    refine R_goto (Dat dd_Cause_makesChange 5 rfl) rfl ?_
    exact R_ireturn (Dat dd_Cause_makesChange 7 rfl) rfl T
def dl_Motion_forget : List (Nat × Instr × Nat) := [(0, .aload_n 0, 1), (1, .aload_n 0, 1), (2, .getfield 16, 3), (5, .iload_n 1, 1), (6, .invokestatic 20, 3), (9, .putfield 16, 3), (12, .aload_n 0, 1), (13, .getfield 16, 3), (16, .iconst 0, 1), (17, .iload_n 1, 1), (18, .iconst 0, 1), (19, .invokestatic 26, 3), (22, .return_, 1)]
theorem dd_Motion_forget : Dall 58 dl_Motion_forget = true := by decide +kernel
theorem t_Motion_forget {h : Hp} {P : Value → Hp → Prop} {p0 : Int} {r : Nat} (T : (tg h r = 6) ∧ (fl h r 1 = true) ∧ (tg h (child r 1) ≠ 0) ∧ (okg 58 23 [.ref r, .int (I p0)] [.ref r] [.ref (child r 1), .int (I p0)] = true) ∧ R 23 0 [.ref (child r 1), .int (I p0)] [] h (fun v h2 => R 58 9 [.ref r, .int (I p0)] (v :: [.ref r]) h2 P)) : R 58 0 [.ref r, .int (I p0)] [] h P := by
  refine R_aload_n (Dat dd_Motion_forget 0 rfl) rfl rfl ?_
  refine R_aload_n (Dat dd_Motion_forget 1 rfl) rfl rfl ?_
  obtain ⟨g1, T⟩ := T
  obtain ⟨g2, T⟩ := T
  obtain ⟨g3, T⟩ := T
  refine R_getr (Dat dd_Motion_forget 2 rfl) rfl rfl (tok g1) g2 (q := child r 1) rfl g3 ?_
  refine R_iload_n (Dat dd_Motion_forget 3 rfl) rfl ?_
  obtain ⟨g4, T⟩ := T
  exact R_call3 (Dat dd_Motion_forget 4 rfl) rfl rfl rfl rfl g4 rfl T
theorem t_Motion_forget_9 {h : Hp} {P : Value → Hp → Prop} {a1 : Int} {a0 s0 s1 : Nat} (T : (tg h s1 = 6) ∧ (s0 = (child s1 1) ∨ s0 = 38) ∧ ((s0 = (child s1 1) → (tg (setF h s1 1) a0 = 6) ∧ (fl (setF h s1 1) a0 1 = true) ∧ (tg (setF h s1 1) (child a0 1) ≠ 0) ∧ R 59 0 [.ref (child a0 1), .int (I 0), .int (I a1), .int (I 0), .retAddr 0] [] (setF h s1 1) (fun _ h2 => R 58 22 [.ref a0, .int (I a1)] [] h2 P)) ∧ (s0 = 38 → (mv 58 && gw (child s1 1) && !gw s1 && decide ((child s1 1) < 37 ∨ 38 < (child s1 1)) && tg h 38 == 20 && ng [.ref a0, .int (I a1)] && ng []) = true ∧ (child s1 1) ≠ 38 ∧ (tg (mov h s1 1 (child s1 1) 38) a0 = 6) ∧ (fl (mov h s1 1 (child s1 1) 38) a0 1 = true) ∧ (tg (mov h s1 1 (child s1 1) 38) (child a0 1) ≠ 0) ∧ R 59 0 [.ref (child a0 1), .int (I 0), .int (I a1), .int (I 0), .retAddr 0] [] (mov h s1 1 (child s1 1) 38) (fun _ h2 => R 58 22 [.ref a0, .int (I a1)] [] h2 P)))) : R 58 9 [.ref a0, .int (I a1)] [.ref s0, .ref s1] h P := by
  obtain ⟨g1, T⟩ := T
  obtain ⟨g2, T⟩ := T
  rcases g2 with e | e
  · replace T := T.1 e
    subst e
    refine R_putr (Dat dd_Motion_forget 5 rfl) rfl rfl rfl (tok g1) rfl ?_
    refine R_aload_n (Dat dd_Motion_forget 6 rfl) rfl rfl ?_
    obtain ⟨g3, T⟩ := T
    obtain ⟨g4, T⟩ := T
    obtain ⟨g5, T⟩ := T
    refine R_getr (Dat dd_Motion_forget 7 rfl) rfl rfl (tok g3) g4 (q := child a0 1) rfl g5 ?_
    refine R_iconst (Dat dd_Motion_forget 8 rfl) ?_
    refine R_iload_n (Dat dd_Motion_forget 9 rfl) rfl ?_
    refine R_iconst (Dat dd_Motion_forget 10 rfl) ?_
    exact R_call0 (Dat dd_Motion_forget 11 rfl) rfl rfl rfl rfl rfl rfl T
  · replace T := T.2 e
    subst e
    obtain ⟨g6, g7, T⟩ := T
    refine R_putm (Dat dd_Motion_forget 5 rfl) rfl rfl rfl (tok g1) (q := child s1 1) rfl g7 g6 ?_
    refine R_aload_n (Dat dd_Motion_forget 6 rfl) rfl rfl ?_
    obtain ⟨g8, T⟩ := T
    obtain ⟨g9, T⟩ := T
    obtain ⟨g10, T⟩ := T
    refine R_getr (Dat dd_Motion_forget 7 rfl) rfl rfl (tok g8) g9 (q := child a0 1) rfl g10 ?_
    refine R_iconst (Dat dd_Motion_forget 8 rfl) ?_
    refine R_iload_n (Dat dd_Motion_forget 9 rfl) rfl ?_
    refine R_iconst (Dat dd_Motion_forget 10 rfl) ?_
    exact R_call0 (Dat dd_Motion_forget 11 rfl) rfl rfl rfl rfl rfl rfl T
theorem t_Motion_forget_22 {h : Hp} {P : Value → Hp → Prop} {a0 a1 : Value} (T : P .null h) : R 58 22 [a0, a1] [] h P := by
  exact R_return (Dat dd_Motion_forget 12 rfl) rfl T
def dl_Rule_shaken : List (Nat × Instr × Nat) := [(0, .aload_n 0, 1), (1, .aload_n 0, 1), (2, .iload_n 1, 1), (3, .iconst 0, 1), (4, .iload_n 2, 1), (5, .invokevirtual 41, 3), (8, .iconst 1, 1), (9, .iload_n 2, 1), (10, .invokevirtual 41, 3), (13, .ireturn, 1)]
theorem dd_Rule_shaken : Dall 61 dl_Rule_shaken = true := by decide +kernel
theorem t_Rule_shaken {h : Hp} {P : Value → Hp → Prop} {p0 p1 : Int} {r : Nat} (T : (tg h r = 8) ∧ R 62 0 [.ref r, .int (I p0), .int (I 0), .int (I p1), .retAddr 0, .retAddr 0, .retAddr 0, .retAddr 0] [] h (fun v h2 => R 61 8 [.ref r, .int (I p0), .int (I p1)] (v :: [.ref r]) h2 P)) : R 61 0 [.ref r, .int (I p0), .int (I p1)] [] h P := by
  refine R_aload_n (Dat dd_Rule_shaken 0 rfl) rfl rfl ?_
  refine R_aload_n (Dat dd_Rule_shaken 1 rfl) rfl rfl ?_
  refine R_iload_n (Dat dd_Rule_shaken 2 rfl) rfl ?_
  refine R_iconst (Dat dd_Rule_shaken 3 rfl) ?_
  refine R_iload_n (Dat dd_Rule_shaken 4 rfl) rfl ?_
  obtain ⟨g1, T⟩ := T
  exact R_call1 (Dat dd_Rule_shaken 5 rfl) rfl g1 rfl rfl rfl rfl rfl T
theorem t_Rule_shaken_8 {h : Hp} {P : Value → Hp → Prop} {a2 s0 : Int} {s1 : Nat} {a0 a1 : Value} (T : (tg h s1 = 8) ∧ R 62 0 [.ref s1, .int (I s0), .int (I 1), .int (I a2), .retAddr 0, .retAddr 0, .retAddr 0, .retAddr 0] [] h (fun v h2 => R 61 13 [a0, a1, .int (I a2)] (v :: []) h2 P)) : R 61 8 [a0, a1, .int (I a2)] [.int (I s0), .ref s1] h P := by
  refine R_iconst (Dat dd_Rule_shaken 6 rfl) ?_
  refine R_iload_n (Dat dd_Rule_shaken 7 rfl) rfl ?_
  obtain ⟨g1, T⟩ := T
  exact R_call1 (Dat dd_Rule_shaken 8 rfl) rfl g1 rfl rfl rfl rfl rfl T
theorem t_Rule_shaken_13 {h : Hp} {P : Value → Hp → Prop} {s0 : Int} {a0 a1 a2 : Value} (T : P (.int (I s0)) h) : R 61 13 [a0, a1, a2] [.int (I s0)] h P := by
  exact R_ireturn (Dat dd_Rule_shaken 9 rfl) rfl T
def dl_Rule_pairsShaken : List (Nat × Instr × Nat) := [(0, .iload_n 1, 1), (1, .istore 4, 2), (3, .iload_n 2, 1), (4, .istore 5, 2), (6, .iload 5, 2), (8, .iconst 1, 1), (9, .iadd, 1), (10, .iload_n 3, 1), (11, .if_icmp .ge 79, 3), (14, .iload 4, 2), (16, .iload 5, 2), (18, .invokestatic 45, 3), (21, .istore 6, 2), (23, .iload 4, 2), (25, .iload 5, 2), (27, .iconst 1, 1), (28, .iadd, 1), (29, .invokestatic 45, 3), (32, .istore 7, 2), (34, .aload_n 0, 1), (35, .getfield 9, 3), (38, .bipush 8, 2), (40, .iload 6, 2), (42, .imul, 1), (43, .iload 7, 2), (45, .iadd, 1), (46, .iaload, 1), (47, .iload 5, 2), (49, .ishr, 1), (50, .iconst 1, 1), (51, .iand, 1), (52, .iconst 1, 1), (53, .if_icmp .ne 31, 3), (56, .iload 4, 2), (58, .iload 6, 2), (60, .iload 7, 2), (62, .ixor, 1), (63, .bipush 9, 2), (65, .imul, 1), (66, .iconst 3, 1), (67, .iload 5, 2), (69, .imul, 1), (70, .ishl, 1), (71, .ixor, 1), (72, .istore 4, 2), (74, .aload_n 0, 1), (75, .dup, 1), (76, .getfield 49, 3), (79, .iconst 1, 1), (80, .iadd, 1), (81, .putfield 49, 3), (84, .iinc 5 2, 3), (87, .goto (-81), 3), (90, .iload 4, 2), (92, .ireturn, 1)]
theorem dd_Rule_pairsShaken : Dall 62 dl_Rule_pairsShaken = true := by decide +kernel
theorem t_Rule_pairsShaken {h : Hp} {P : Value → Hp → Prop} {p0 p1 p2 : Int} {r : Nat} (T : R 62 6 [.ref r, .int (I p0), .int (I p1), .int (I p2), .int (I p0), .int (I p1), .retAddr 0, .retAddr 0] [] h P) : R 62 0 [.ref r, .int (I p0), .int (I p1), .int (I p2), .retAddr 0, .retAddr 0, .retAddr 0, .retAddr 0] [] h P := by
  refine R_iload_n (Dat dd_Rule_pairsShaken 0 rfl) rfl ?_
  refine R_istore (Dat dd_Rule_pairsShaken 1 rfl) rfl rfl ?_
  refine R_iload_n (Dat dd_Rule_pairsShaken 2 rfl) rfl ?_
  refine R_istore (Dat dd_Rule_pairsShaken 3 rfl) rfl rfl ?_
  exact T
theorem t_Rule_pairsShaken_6 {h : Hp} {P : Value → Hp → Prop} {a3 a4 a5 : Int} {a0 : Nat} {a1 a2 a6 a7 : Value} (T : (rng (a5 + 1)) ∧ (rng a3) ∧ (((a5 + 1) < a3 → R 32 0 [.int (I a4), .int (I a5)] [] h (fun v h2 => R 62 21 [.ref a0, a1, a2, .int (I a3), .int (I a4), .int (I a5), a6, a7] (v :: []) h2 P)) ∧ (¬ (a5 + 1) < a3 → P (.int (I a4)) h))) : R 62 6 [.ref a0, a1, a2, .int (I a3), .int (I a4), .int (I a5), a6, a7] [] h P := by
  refine R_iload (Dat dd_Rule_pairsShaken 4 rfl) rfl ?_
  refine R_iconst (Dat dd_Rule_pairsShaken 5 rfl) ?_
  refine R_iadd (Dat dd_Rule_pairsShaken 6 rfl) ?_
  refine R_iload_n (Dat dd_Rule_pairsShaken 7 rfl) rfl ?_
  obtain ⟨g1, T⟩ := T
  obtain ⟨g2, T⟩ := T
  refine R_ic_ge (Dat dd_Rule_pairsShaken 8 rfl) rfl g1 g2 (fun c => ?_) (fun c => ?_)
  · replace T := T.1 c
    refine R_iload (Dat dd_Rule_pairsShaken 9 rfl) rfl ?_
    refine R_iload (Dat dd_Rule_pairsShaken 10 rfl) rfl ?_
    exact R_call0 (Dat dd_Rule_pairsShaken 11 rfl) rfl rfl rfl rfl rfl rfl T
  · replace T := T.2 c
    refine R_iload (Dat dd_Rule_pairsShaken 53 rfl) rfl ?_
    exact R_ireturn (Dat dd_Rule_pairsShaken 54 rfl) rfl T
theorem t_Rule_pairsShaken_21 {h : Hp} {P : Value → Hp → Prop} {a3 a4 a5 s0 : Int} {a0 : Nat} {a1 a2 a6 a7 : Value} (T : R 32 0 [.int (I a4), .int (I (a5 + 1))] [] h (fun v h2 => R 62 32 [.ref a0, a1, a2, .int (I a3), .int (I a4), .int (I a5), .int (I s0), a7] (v :: []) h2 P)) : R 62 21 [.ref a0, a1, a2, .int (I a3), .int (I a4), .int (I a5), a6, a7] [.int (I s0)] h P := by
  refine R_istore (Dat dd_Rule_pairsShaken 12 rfl) rfl rfl ?_
  refine R_iload (Dat dd_Rule_pairsShaken 13 rfl) rfl ?_
  refine R_iload (Dat dd_Rule_pairsShaken 14 rfl) rfl ?_
  refine R_iconst (Dat dd_Rule_pairsShaken 15 rfl) ?_
  refine R_iadd (Dat dd_Rule_pairsShaken 16 rfl) ?_
  exact R_call0 (Dat dd_Rule_pairsShaken 17 rfl) rfl rfl rfl rfl rfl rfl T
theorem t_Rule_pairsShaken_32 {h : Hp} {P : Value → Hp → Prop} {a3 a4 a5 a6 s0 : Int} {a0 : Nat} {a1 a2 a7 : Value} (T : (tg h a0 = 8) ∧ (fl h a0 0 = true) ∧ (tg h (child a0 0) ≠ 0) ∧ (tg h (child a0 0) = 20 ∨ tg h (child a0 0) = 30) ∧ ((ln h (child a0 0) : Int) ≤ 2147483648) ∧ (0 ≤ ((8 * a6) + s0)) ∧ (((8 * a6) + s0) < ln h (child a0 0)) ∧ (rng (band (shr (iv h (child a0 0) ((8 * a6) + s0)) a5) 1)) ∧ (((band (shr (iv h (child a0 0) ((8 * a6) + s0)) a5) 1) = 1 → (tg h a0 = 8) ∧ (tg h a0 = 8) ∧ R 62 6 [.ref a0, a1, a2, .int (I a3), .int (I (bxor a4 (shl ((bxor a6 s0) * 9) (3 * a5)))), .int (I (a5 + 2)), .int (I a6), .int (I s0)] [] (setI h a0 1 (wr ((iv h a0 1) + 1))) P) ∧ (¬ (band (shr (iv h (child a0 0) ((8 * a6) + s0)) a5) 1) = 1 → R 62 6 [.ref a0, a1, a2, .int (I a3), .int (I a4), .int (I (a5 + 2)), .int (I a6), .int (I s0)] [] h P))) : R 62 32 [.ref a0, a1, a2, .int (I a3), .int (I a4), .int (I a5), .int (I a6), a7] [.int (I s0)] h P := by
  refine R_istore (Dat dd_Rule_pairsShaken 18 rfl) rfl rfl ?_
  refine R_aload_n (Dat dd_Rule_pairsShaken 19 rfl) rfl rfl ?_
  obtain ⟨g1, T⟩ := T
  obtain ⟨g2, T⟩ := T
  obtain ⟨g3, T⟩ := T
  refine R_getr (Dat dd_Rule_pairsShaken 20 rfl) rfl rfl (tok g1) g2 (q := child a0 0) rfl g3 ?_
  refine R_bipush (Dat dd_Rule_pairsShaken 21 rfl) (a := 8) rfl ?_
  refine R_iload (Dat dd_Rule_pairsShaken 22 rfl) rfl ?_
  refine R_imul (Dat dd_Rule_pairsShaken 23 rfl) ?_
  refine R_iload (Dat dd_Rule_pairsShaken 24 rfl) rfl ?_
  refine R_iadd (Dat dd_Rule_pairsShaken 25 rfl) ?_
  obtain ⟨g4, T⟩ := T
  obtain ⟨g5, T⟩ := T
  obtain ⟨g6, T⟩ := T
  obtain ⟨g7, T⟩ := T
  refine R_iaload (Dat dd_Rule_pairsShaken 26 rfl) g4 g5 g6 g7 ?_
  refine R_iload (Dat dd_Rule_pairsShaken 27 rfl) rfl ?_
  refine R_ishr (Dat dd_Rule_pairsShaken 28 rfl) ?_
  refine R_iconst (Dat dd_Rule_pairsShaken 29 rfl) ?_
  refine R_iand (Dat dd_Rule_pairsShaken 30 rfl) ?_
  refine R_iconst (Dat dd_Rule_pairsShaken 31 rfl) ?_
  obtain ⟨g8, T⟩ := T
  refine R_ic_ne (Dat dd_Rule_pairsShaken 32 rfl) rfl g8 (by decide) (fun c => ?_) (fun c => ?_)
  · replace T := T.1 c
    refine R_iload (Dat dd_Rule_pairsShaken 33 rfl) rfl ?_
    refine R_iload (Dat dd_Rule_pairsShaken 34 rfl) rfl ?_
    refine R_iload (Dat dd_Rule_pairsShaken 35 rfl) rfl ?_
    refine R_ixor (Dat dd_Rule_pairsShaken 36 rfl) ?_
    refine R_bipush (Dat dd_Rule_pairsShaken 37 rfl) (a := 9) rfl ?_
    refine R_imul (Dat dd_Rule_pairsShaken 38 rfl) ?_
    refine R_iconst (Dat dd_Rule_pairsShaken 39 rfl) ?_
    refine R_iload (Dat dd_Rule_pairsShaken 40 rfl) rfl ?_
    refine R_imul (Dat dd_Rule_pairsShaken 41 rfl) ?_
    refine R_ishl (Dat dd_Rule_pairsShaken 42 rfl) ?_
    refine R_ixor (Dat dd_Rule_pairsShaken 43 rfl) ?_
    refine R_istore (Dat dd_Rule_pairsShaken 44 rfl) rfl rfl ?_
    refine R_aload_n (Dat dd_Rule_pairsShaken 45 rfl) rfl rfl ?_
    refine R_dup (Dat dd_Rule_pairsShaken 46 rfl) rfl ?_
    obtain ⟨g9, T⟩ := T
    refine R_geti (Dat dd_Rule_pairsShaken 47 rfl) rfl rfl (tok g9) ?_
    refine R_iconst (Dat dd_Rule_pairsShaken 48 rfl) ?_
    refine R_iadd (Dat dd_Rule_pairsShaken 49 rfl) ?_
    obtain ⟨g10, T⟩ := T
    refine R_puti (Dat dd_Rule_pairsShaken 50 rfl) rfl rfl rfl (tok g10) rfl (v := wr ((iv h a0 1) + 1)) rfl ?_
    refine R_iinc (Dat dd_Rule_pairsShaken 51 rfl) rfl rfl rfl ?_
    refine R_goto (Dat dd_Rule_pairsShaken 52 rfl) rfl ?_
    exact T
  · replace T := T.2 c
    refine R_iinc (Dat dd_Rule_pairsShaken 51 rfl) rfl rfl rfl ?_
    refine R_goto (Dat dd_Rule_pairsShaken 52 rfl) rfl ?_
    exact T
def dl_Box_lieOf : List (Nat × Instr × Nat) := [(0, .iconst 0, 1), (1, .istore_n 2, 1), (2, .iconst 1, 1), (3, .aload_n 0, 1), (4, .getfield 25, 3), (7, .ishl, 1), (8, .iconst 1, 1), (9, .isub, 1), (10, .istore_n 3, 1), (11, .iconst 0, 1), (12, .istore 4, 2), (14, .iload 4, 2), (16, .aload_n 0, 1), (17, .getfield 25, 3), (20, .if_icmp .ge 52, 3), (23, .iconst 1, 1), (24, .iload_n 1, 1), (25, .iload 4, 2), (27, .invokestatic 70, 3), (30, .ishl, 1), (31, .istore 5, 2), (33, .iload_n 2, 1), (34, .iload_n 3, 1), (35, .iload 5, 2), (37, .iconst 1, 1), (38, .isub, 1), (39, .iand, 1), (40, .invokestatic 74, 3), (43, .getstatic 37, 3), (46, .aload_n 0, 1), (47, .getfield 25, 3), (50, .iconst 1, 1), (51, .isub, 1), (52, .iload 4, 2), (54, .isub, 1), (55, .iaload, 1), (56, .imul, 1), (57, .iadd, 1), (58, .istore_n 2, 1), (59, .iload_n 3, 1), (60, .iload 5, 2), (62, .iconst (-1), 1), (63, .ixor, 1), (64, .iand, 1), (65, .istore_n 3, 1), (66, .iinc 4 1, 3), (69, .goto (-55), 3), (72, .iload_n 2, 1), (73, .ireturn, 1)]
theorem dd_Box_lieOf : Dall 63 dl_Box_lieOf = true := by decide +kernel
theorem t_Box_lieOf {h : Hp} {P : Value → Hp → Prop} {p0 : Int} (S : XS h) (T : R 63 14 [.ref 1, .int (I p0), .int (I 0), .int (I ((shl 1 (iv h 1 1)) - 1)), .int (I 0), .retAddr 0] [] h P) : R 63 0 [.ref 1, .int (I p0), .retAddr 0, .retAddr 0, .retAddr 0, .retAddr 0] [] h P := by
  refine R_iconst (Dat dd_Box_lieOf 0 rfl) ?_
  refine R_istore_n (Dat dd_Box_lieOf 1 rfl) rfl rfl ?_
  refine R_iconst (Dat dd_Box_lieOf 2 rfl) ?_
  refine R_aload_n (Dat dd_Box_lieOf 3 rfl) rfl rfl ?_
  refine R_geti (Dat dd_Box_lieOf 4 rfl) rfl rfl (tok S.t1) ?_
  refine R_ishl (Dat dd_Box_lieOf 5 rfl) ?_
  refine R_iconst (Dat dd_Box_lieOf 6 rfl) ?_
  refine R_isub (Dat dd_Box_lieOf 7 rfl) ?_
  refine R_istore_n (Dat dd_Box_lieOf 8 rfl) rfl rfl ?_
  refine R_iconst (Dat dd_Box_lieOf 9 rfl) ?_
  refine R_istore (Dat dd_Box_lieOf 10 rfl) rfl rfl ?_
  exact T
theorem t_Box_lieOf_14 {h : Hp} {P : Value → Hp → Prop} {a1 a2 a3 a4 : Int} {a5 : Value} (S : XS h) (T : (rng a4) ∧ (rng (iv h 1 1)) ∧ ((a4 < (iv h 1 1) → R 32 0 [.int (I a1), .int (I a4)] [] h (fun v h2 => R 63 30 [.ref 1, .int (I a1), .int (I a2), .int (I a3), .int (I a4), a5] (v :: [.int (I 1)]) h2 P)) ∧ (¬ a4 < (iv h 1 1) → P (.int (I a2)) h))) : R 63 14 [.ref 1, .int (I a1), .int (I a2), .int (I a3), .int (I a4), a5] [] h P := by
  refine R_iload (Dat dd_Box_lieOf 11 rfl) rfl ?_
  refine R_aload_n (Dat dd_Box_lieOf 12 rfl) rfl rfl ?_
  refine R_geti (Dat dd_Box_lieOf 13 rfl) rfl rfl (tok S.t1) ?_
  obtain ⟨g1, T⟩ := T
  obtain ⟨g2, T⟩ := T
  refine R_ic_ge (Dat dd_Box_lieOf 14 rfl) rfl g1 g2 (fun c => ?_) (fun c => ?_)
  · replace T := T.1 c
    refine R_iconst (Dat dd_Box_lieOf 15 rfl) ?_
    refine R_iload_n (Dat dd_Box_lieOf 16 rfl) rfl ?_
    refine R_iload (Dat dd_Box_lieOf 17 rfl) rfl ?_
    exact R_call0 (Dat dd_Box_lieOf 18 rfl) rfl rfl rfl rfl rfl rfl T
  · replace T := T.2 c
    refine R_iload_n (Dat dd_Box_lieOf 47 rfl) rfl ?_
    exact R_ireturn (Dat dd_Box_lieOf 48 rfl) rfl T
theorem t_Box_lieOf_30 {h : Hp} {P : Value → Hp → Prop} {a1 a2 a3 a4 s0 s1 : Int} {a5 : Value} (S : XS h) (T : R 64 0 [.int (I (band a3 ((shl s1 s0) - 1)))] [] h (fun v h2 => R 63 43 [.ref 1, .int (I a1), .int (I a2), .int (I a3), .int (I a4), .int (I (shl s1 s0))] (v :: [.int (I a2)]) h2 P)) : R 63 30 [.ref 1, .int (I a1), .int (I a2), .int (I a3), .int (I a4), a5] [.int (I s0), .int (I s1)] h P := by
  refine R_ishl (Dat dd_Box_lieOf 19 rfl) ?_
  refine R_istore (Dat dd_Box_lieOf 20 rfl) rfl rfl ?_
  refine R_iload_n (Dat dd_Box_lieOf 21 rfl) rfl ?_
  refine R_iload_n (Dat dd_Box_lieOf 22 rfl) rfl ?_
  refine R_iload (Dat dd_Box_lieOf 23 rfl) rfl ?_
  refine R_iconst (Dat dd_Box_lieOf 24 rfl) ?_
  refine R_isub (Dat dd_Box_lieOf 25 rfl) ?_
  refine R_iand (Dat dd_Box_lieOf 26 rfl) ?_
  exact R_call0 (Dat dd_Box_lieOf 27 rfl) rfl rfl rfl rfl rfl rfl T
theorem t_Box_lieOf_43 {h : Hp} {P : Value → Hp → Prop} {a1 a3 a4 a5 s0 s1 : Int} {a2 : Value} (S : XS h) (T : (0 ≤ (((iv h 1 1) - 1) - a4)) ∧ ((((iv h 1 1) - 1) - a4) < 8) ∧ R 63 14 [.ref 1, .int (I a1), .int (I (s1 + (s0 * (iv h 500 (((iv h 1 1) - 1) - a4))))), .int (I (band a3 (bxor a5 (-1)))), .int (I (a4 + 1)), .int (I a5)] [] h P) : R 63 43 [.ref 1, .int (I a1), a2, .int (I a3), .int (I a4), .int (I a5)] [.int (I s0), .int (I s1)] h P := by
  refine R_getst (Dat dd_Box_lieOf 28 rfl) (r := 500) rfl S.t500 ?_
  refine R_aload_n (Dat dd_Box_lieOf 29 rfl) rfl rfl ?_
  refine R_geti (Dat dd_Box_lieOf 30 rfl) rfl rfl (tok S.t1) ?_
  refine R_iconst (Dat dd_Box_lieOf 31 rfl) ?_
  refine R_isub (Dat dd_Box_lieOf 32 rfl) ?_
  refine R_iload (Dat dd_Box_lieOf 33 rfl) rfl ?_
  refine R_isub (Dat dd_Box_lieOf 34 rfl) ?_
  obtain ⟨g1, T⟩ := T
  obtain ⟨g2, T⟩ := T
  refine R_iaload (Dat dd_Box_lieOf 35 rfl) (Or.inr S.t500) (lnle (show ln h 500 = 8 from S.l500) (by decide)) g1 (lnlt (show ln h 500 = 8 from S.l500) g2) ?_
  refine R_imul (Dat dd_Box_lieOf 36 rfl) ?_
  refine R_iadd (Dat dd_Box_lieOf 37 rfl) ?_
  refine R_istore_n (Dat dd_Box_lieOf 38 rfl) rfl rfl ?_
  refine R_iload_n (Dat dd_Box_lieOf 39 rfl) rfl ?_
  refine R_iload (Dat dd_Box_lieOf 40 rfl) rfl ?_
  refine R_iconst (Dat dd_Box_lieOf 41 rfl) ?_
  refine R_ixor (Dat dd_Box_lieOf 42 rfl) ?_
  refine R_iand (Dat dd_Box_lieOf 43 rfl) ?_
  refine R_istore_n (Dat dd_Box_lieOf 44 rfl) rfl rfl ?_
  refine R_iinc (Dat dd_Box_lieOf 45 rfl) rfl rfl rfl ?_
  refine R_goto (Dat dd_Box_lieOf 46 rfl) rfl ?_
  exact T
def dl_Box_turnedRow : List (Nat × Instr × Nat) := [(0, .iconst 0, 1), (1, .istore_n 2, 1), (2, .iconst 0, 1), (3, .istore_n 3, 1), (4, .iload_n 3, 1), (5, .aload_n 0, 1), (6, .getfield 25, 3), (9, .if_icmp .ge 19, 3), (12, .iload_n 2, 1), (13, .iconst 3, 1), (14, .ishl, 1), (15, .iload_n 1, 1), (16, .iload_n 3, 1), (17, .invokestatic 70, 3), (20, .ior, 1), (21, .istore_n 2, 1), (22, .iinc 3 1, 3), (25, .goto (-21), 3), (28, .iload_n 2, 1), (29, .ireturn, 1)]
theorem dd_Box_turnedRow : Dall 69 dl_Box_turnedRow = true := by decide +kernel
theorem t_Box_turnedRow {h : Hp} {P : Value → Hp → Prop} {p0 : Int} (S : XS h) (T : R 69 4 [.ref 1, .int (I p0), .int (I 0), .int (I 0)] [] h P) : R 69 0 [.ref 1, .int (I p0), .retAddr 0, .retAddr 0] [] h P := by
  refine R_iconst (Dat dd_Box_turnedRow 0 rfl) ?_
  refine R_istore_n (Dat dd_Box_turnedRow 1 rfl) rfl rfl ?_
  refine R_iconst (Dat dd_Box_turnedRow 2 rfl) ?_
  refine R_istore_n (Dat dd_Box_turnedRow 3 rfl) rfl rfl ?_
  exact T
theorem t_Box_turnedRow_4 {h : Hp} {P : Value → Hp → Prop} {a1 a2 a3 : Int} (S : XS h) (T : (rng a3) ∧ (rng (iv h 1 1)) ∧ ((a3 < (iv h 1 1) → R 32 0 [.int (I a1), .int (I a3)] [] h (fun v h2 => R 69 20 [.ref 1, .int (I a1), .int (I a2), .int (I a3)] (v :: [.int (I (shl a2 3))]) h2 P)) ∧ (¬ a3 < (iv h 1 1) → P (.int (I a2)) h))) : R 69 4 [.ref 1, .int (I a1), .int (I a2), .int (I a3)] [] h P := by
  refine R_iload_n (Dat dd_Box_turnedRow 4 rfl) rfl ?_
  refine R_aload_n (Dat dd_Box_turnedRow 5 rfl) rfl rfl ?_
  refine R_geti (Dat dd_Box_turnedRow 6 rfl) rfl rfl (tok S.t1) ?_
  obtain ⟨g1, T⟩ := T
  obtain ⟨g2, T⟩ := T
  refine R_ic_ge (Dat dd_Box_turnedRow 7 rfl) rfl g1 g2 (fun c => ?_) (fun c => ?_)
  · replace T := T.1 c
    refine R_iload_n (Dat dd_Box_turnedRow 8 rfl) rfl ?_
    refine R_iconst (Dat dd_Box_turnedRow 9 rfl) ?_
    refine R_ishl (Dat dd_Box_turnedRow 10 rfl) ?_
    refine R_iload_n (Dat dd_Box_turnedRow 11 rfl) rfl ?_
    refine R_iload_n (Dat dd_Box_turnedRow 12 rfl) rfl ?_
    exact R_call0 (Dat dd_Box_turnedRow 13 rfl) rfl rfl rfl rfl rfl rfl T
  · replace T := T.2 c
    refine R_iload_n (Dat dd_Box_turnedRow 18 rfl) rfl ?_
    exact R_ireturn (Dat dd_Box_turnedRow 19 rfl) rfl T
theorem t_Box_turnedRow_20 {h : Hp} {P : Value → Hp → Prop} {a1 a3 s0 s1 : Int} {a2 : Value} (S : XS h) (T : R 69 4 [.ref 1, .int (I a1), .int (I (bor s1 s0)), .int (I (a3 + 1))] [] h P) : R 69 20 [.ref 1, .int (I a1), a2, .int (I a3)] [.int (I s0), .int (I s1)] h P := by
  refine R_ior (Dat dd_Box_turnedRow 14 rfl) ?_
  refine R_istore_n (Dat dd_Box_turnedRow 15 rfl) rfl rfl ?_
  refine R_iinc (Dat dd_Box_turnedRow 16 rfl) rfl rfl rfl ?_
  refine R_goto (Dat dd_Box_turnedRow 17 rfl) rfl ?_
  exact T
def dl_Box_spoonedRow : List (Nat × Instr × Nat) := [(0, .iload_n 1, 1), (1, .iconst 3, 1), (2, .ishr, 1), (3, .iload_n 1, 1), (4, .iconst 0, 1), (5, .invokestatic 70, 3), (8, .iconst 3, 1), (9, .aload_n 0, 1), (10, .getfield 25, 3), (13, .iconst 1, 1), (14, .isub, 1), (15, .imul, 1), (16, .ishl, 1), (17, .ior, 1), (18, .ireturn, 1)]
theorem dd_Box_spoonedRow : Dall 72 dl_Box_spoonedRow = true := by decide +kernel
theorem t_Box_spoonedRow {h : Hp} {P : Value → Hp → Prop} {p0 : Int} (S : XS h) (T : R 32 0 [.int (I p0), .int (I 0)] [] h (fun v h2 => R 72 8 [.ref 1, .int (I p0)] (v :: [.int (I (shr p0 3))]) h2 P)) : R 72 0 [.ref 1, .int (I p0)] [] h P := by
  refine R_iload_n (Dat dd_Box_spoonedRow 0 rfl) rfl ?_
  refine R_iconst (Dat dd_Box_spoonedRow 1 rfl) ?_
  refine R_ishr (Dat dd_Box_spoonedRow 2 rfl) ?_
  refine R_iload_n (Dat dd_Box_spoonedRow 3 rfl) rfl ?_
  refine R_iconst (Dat dd_Box_spoonedRow 4 rfl) ?_
  exact R_call0 (Dat dd_Box_spoonedRow 5 rfl) rfl rfl rfl rfl rfl rfl T
theorem t_Box_spoonedRow_8 {h : Hp} {P : Value → Hp → Prop} {s0 s1 : Int} {a1 : Value} (S : XS h) (T : P (.int (I (bor s1 (shl s0 (3 * ((iv h 1 1) - 1)))))) h) : R 72 8 [.ref 1, a1] [.int (I s0), .int (I s1)] h P := by
  refine R_iconst (Dat dd_Box_spoonedRow 6 rfl) ?_
  refine R_aload_n (Dat dd_Box_spoonedRow 7 rfl) rfl rfl ?_
  refine R_geti (Dat dd_Box_spoonedRow 8 rfl) rfl rfl (tok S.t1) ?_
  refine R_iconst (Dat dd_Box_spoonedRow 9 rfl) ?_
  refine R_isub (Dat dd_Box_spoonedRow 10 rfl) ?_
  refine R_imul (Dat dd_Box_spoonedRow 11 rfl) ?_
  refine R_ishl (Dat dd_Box_spoonedRow 12 rfl) ?_
  refine R_ior (Dat dd_Box_spoonedRow 13 rfl) ?_
  exact R_ireturn (Dat dd_Box_spoonedRow 14 rfl) rfl T
def dl_Motion_after : List (Nat × Instr × Nat) := [(0, .aload_n 0, 1), (1, .getfield 16, 3), (4, .iload_n 2, 1), (5, .iaload, 1), (6, .ifCond .ne 31, 3), (9, .aload_n 0, 1), (10, .getfield 16, 3), (13, .iload_n 2, 1), (14, .aload_n 1, 1), (15, .aload_n 0, 1), (16, .getfield 10, 3), (19, .aload_n 1, 1), (20, .iload_n 2, 1), (21, .invokevirtual 32, 3), (24, .aload_n 1, 1), (25, .getfield 38, 3), (28, .invokevirtual 42, 3), (31, .invokevirtual 46, 3), (34, .iconst 1, 1), (35, .iadd, 1), (36, .iastore, 1), (37, .aload_n 0, 1), (38, .getfield 16, 3), (41, .iload_n 2, 1), (42, .iaload, 1), (43, .iconst 1, 1), (44, .isub, 1), (45, .ireturn, 1)]
theorem dd_Motion_after : Dall 74 dl_Motion_after = true := by decide +kernel
theorem t_Motion_after {h : Hp} {P : Value → Hp → Prop} {p1 : Int} {r p0 : Nat} (T : (tg h r = 6) ∧ (fl h r 1 = true) ∧ (tg h (child r 1) ≠ 0) ∧ (tg h (child r 1) = 20 ∨ tg h (child r 1) = 30) ∧ ((ln h (child r 1) : Int) ≤ 2147483648) ∧ (0 ≤ p1) ∧ (p1 < ln h (child r 1)) ∧ (rng (iv h (child r 1) p1)) ∧ (((iv h (child r 1) p1) = 0 → (tg h r = 6) ∧ (fl h r 1 = true) ∧ (tg h (child r 1) ≠ 0) ∧ (tg h r = 6) ∧ (fl h r 0 = true) ∧ (tg h (child r 0) ≠ 0) ∧ (tg h p0 = 1) ∧ R 29 0 [.ref p0, .int (I p1)] [] h (fun v h2 => R 74 24 [.ref r, .ref p0, .int (I p1)] (v :: [.ref (child r 0), .ref p0, .int (I p1), .ref (child r 1)]) h2 P)) ∧ (¬ (iv h (child r 1) p1) = 0 → (tg h r = 6) ∧ (fl h r 1 = true) ∧ (tg h (child r 1) ≠ 0) ∧ (tg h (child r 1) = 20 ∨ tg h (child r 1) = 30) ∧ ((ln h (child r 1) : Int) ≤ 2147483648) ∧ (0 ≤ p1) ∧ (p1 < ln h (child r 1)) ∧ P (.int (I ((iv h (child r 1) p1) - 1))) h))) : R 74 0 [.ref r, .ref p0, .int (I p1)] [] h P := by
  refine R_aload_n (Dat dd_Motion_after 0 rfl) rfl rfl ?_
  obtain ⟨g1, T⟩ := T
  obtain ⟨g2, T⟩ := T
  obtain ⟨g3, T⟩ := T
  refine R_getr (Dat dd_Motion_after 1 rfl) rfl rfl (tok g1) g2 (q := child r 1) rfl g3 ?_
  refine R_iload_n (Dat dd_Motion_after 2 rfl) rfl ?_
  obtain ⟨g4, T⟩ := T
  obtain ⟨g5, T⟩ := T
  obtain ⟨g6, T⟩ := T
  obtain ⟨g7, T⟩ := T
  refine R_iaload (Dat dd_Motion_after 3 rfl) g4 g5 g6 g7 ?_
  obtain ⟨g8, T⟩ := T
  refine R_if_ne (Dat dd_Motion_after 4 rfl) rfl g8  (fun c => ?_) (fun c => ?_)
  · replace T := T.1 c
    refine R_aload_n (Dat dd_Motion_after 5 rfl) rfl rfl ?_
    obtain ⟨g9, T⟩ := T
    obtain ⟨g10, T⟩ := T
    obtain ⟨g11, T⟩ := T
    refine R_getr (Dat dd_Motion_after 6 rfl) rfl rfl (tok g9) g10 (q := child r 1) rfl g11 ?_
    refine R_iload_n (Dat dd_Motion_after 7 rfl) rfl ?_
    refine R_aload_n (Dat dd_Motion_after 8 rfl) rfl rfl ?_
    refine R_aload_n (Dat dd_Motion_after 9 rfl) rfl rfl ?_
    obtain ⟨g12, T⟩ := T
    obtain ⟨g13, T⟩ := T
    obtain ⟨g14, T⟩ := T
    refine R_getr (Dat dd_Motion_after 10 rfl) rfl rfl (tok g12) g13 (q := child r 0) rfl g14 ?_
    refine R_aload_n (Dat dd_Motion_after 11 rfl) rfl rfl ?_
    refine R_iload_n (Dat dd_Motion_after 12 rfl) rfl ?_
    obtain ⟨g15, T⟩ := T
    exact R_call1 (Dat dd_Motion_after 13 rfl) rfl g15 rfl rfl rfl rfl rfl T
  · replace T := T.2 c
    refine R_aload_n (Dat dd_Motion_after 21 rfl) rfl rfl ?_
    obtain ⟨g16, T⟩ := T
    obtain ⟨g17, T⟩ := T
    obtain ⟨g18, T⟩ := T
    refine R_getr (Dat dd_Motion_after 22 rfl) rfl rfl (tok g16) g17 (q := child r 1) rfl g18 ?_
    refine R_iload_n (Dat dd_Motion_after 23 rfl) rfl ?_
    obtain ⟨g19, T⟩ := T
    obtain ⟨g20, T⟩ := T
    obtain ⟨g21, T⟩ := T
    obtain ⟨g22, T⟩ := T
    refine R_iaload (Dat dd_Motion_after 24 rfl) g19 g20 g21 g22 ?_
    refine R_iconst (Dat dd_Motion_after 25 rfl) ?_
    refine R_isub (Dat dd_Motion_after 26 rfl) ?_
    exact R_ireturn (Dat dd_Motion_after 27 rfl) rfl T
theorem t_Motion_after_24 {h : Hp} {P : Value → Hp → Prop} {a2 s0 s3 : Int} {a0 a1 s1 s2 s4 : Nat} (T : (tg h a1 = 1) ∧ (tg h s1 = 8) ∧ R 61 0 [.ref s1, .int (I s0), .int (I (iv h a1 1))] [] h (fun v h2 => R 74 31 [.ref a0, .ref a1, .int (I a2)] (v :: [.ref s2, .int (I s3), .ref s4]) h2 P)) : R 74 24 [.ref a0, .ref a1, .int (I a2)] [.int (I s0), .ref s1, .ref s2, .int (I s3), .ref s4] h P := by
  refine R_aload_n (Dat dd_Motion_after 14 rfl) rfl rfl ?_
  obtain ⟨g1, T⟩ := T
  refine R_geti (Dat dd_Motion_after 15 rfl) rfl rfl (tok g1) ?_
  obtain ⟨g2, T⟩ := T
  exact R_call1 (Dat dd_Motion_after 16 rfl) rfl g2 rfl rfl rfl rfl rfl T
theorem t_Motion_after_31 {h : Hp} {P : Value → Hp → Prop} {a2 s0 s2 : Int} {a0 s1 s3 : Nat} {a1 : Value} (T : (tg h s1 = 1) ∧ R 63 0 [.ref s1, .int (I s0), .retAddr 0, .retAddr 0, .retAddr 0, .retAddr 0] [] h (fun v h2 => R 74 34 [.ref a0, a1, .int (I a2)] (v :: [.int (I s2), .ref s3]) h2 P)) : R 74 31 [.ref a0, a1, .int (I a2)] [.int (I s0), .ref s1, .int (I s2), .ref s3] h P := by
  obtain ⟨g1, T⟩ := T
  exact R_call1 (Dat dd_Motion_after 17 rfl) rfl g1 rfl rfl rfl rfl rfl T
theorem t_Motion_after_34 {h : Hp} {P : Value → Hp → Prop} {a2 s0 s1 : Int} {a0 s2 : Nat} {a1 : Value} (T : (tg h s2 = 20) ∧ ((ln h s2 : Int) ≤ 2147483648) ∧ (0 ≤ s1) ∧ (s1 < ln h s2) ∧ (tg (setI h s2 s1 (wr (s0 + 1))) a0 = 6) ∧ (fl (setI h s2 s1 (wr (s0 + 1))) a0 1 = true) ∧ (tg (setI h s2 s1 (wr (s0 + 1))) (child a0 1) ≠ 0) ∧ (tg (setI h s2 s1 (wr (s0 + 1))) (child a0 1) = 20 ∨ tg (setI h s2 s1 (wr (s0 + 1))) (child a0 1) = 30) ∧ ((ln (setI h s2 s1 (wr (s0 + 1))) (child a0 1) : Int) ≤ 2147483648) ∧ (0 ≤ a2) ∧ (a2 < ln (setI h s2 s1 (wr (s0 + 1))) (child a0 1)) ∧ P (.int (I ((iv (setI h s2 s1 (wr (s0 + 1))) (child a0 1) a2) - 1))) (setI h s2 s1 (wr (s0 + 1)))) : R 74 34 [.ref a0, a1, .int (I a2)] [.int (I s0), .int (I s1), .ref s2] h P := by
  refine R_iconst (Dat dd_Motion_after 18 rfl) ?_
  refine R_iadd (Dat dd_Motion_after 19 rfl) ?_
  obtain ⟨g1, T⟩ := T
  obtain ⟨g2, T⟩ := T
  obtain ⟨g3, T⟩ := T
  obtain ⟨g4, T⟩ := T
  refine R_iastore (Dat dd_Motion_after 20 rfl) g1 g2 g3 g4 (v := wr (s0 + 1)) rfl ?_
  refine R_aload_n (Dat dd_Motion_after 21 rfl) rfl rfl ?_
  obtain ⟨g5, T⟩ := T
  obtain ⟨g6, T⟩ := T
  obtain ⟨g7, T⟩ := T
  refine R_getr (Dat dd_Motion_after 22 rfl) rfl rfl (tok g5) g6 (q := child a0 1) rfl g7 ?_
  refine R_iload_n (Dat dd_Motion_after 23 rfl) rfl ?_
  obtain ⟨g8, T⟩ := T
  obtain ⟨g9, T⟩ := T
  obtain ⟨g10, T⟩ := T
  obtain ⟨g11, T⟩ := T
  refine R_iaload (Dat dd_Motion_after 24 rfl) g8 g9 g10 g11 ?_
  refine R_iconst (Dat dd_Motion_after 25 rfl) ?_
  refine R_isub (Dat dd_Motion_after 26 rfl) ?_
  exact R_ireturn (Dat dd_Motion_after 27 rfl) rfl T
end
section
def dl_X_init : List (Nat × Instr × Nat) := [(0, .aload_n 0, 1), (1, .invokespecial 3, 3), (4, .aload_n 0, 1), (5, .new 9, 3), (8, .dup, 1), (9, .invokespecial 11, 3), (12, .putfield 12, 3), (15, .aload_n 0, 1), (16, .iconst 4, 1), (17, .anewarray 18, 3), (20, .putfield 20, 3), (23, .aload_n 0, 1), (24, .bipush 8, 2), (26, .newarray .int, 2), (28, .putfield 24, 3), (31, .aload_n 0, 1), (32, .bipush 8, 2), (34, .newarray .int, 2), (36, .putfield 28, 3), (39, .aload_n 0, 1), (40, .iconst 4, 1), (41, .anewarray 31, 3), (44, .putfield 33, 3), (47, .aload_n 0, 1), (48, .new 37, 3), (51, .dup, 1), (52, .invokespecial 39, 3), (55, .putfield 40, 3), (58, .aload_n 0, 1), (59, .new 44, 3), (62, .dup, 1), (63, .invokespecial 46, 3), (66, .putfield 47, 3), (69, .aload_n 0, 1), (70, .new 51, 3), (73, .dup, 1), (74, .invokespecial 53, 3), (77, .putfield 54, 3), (80, .aload_n 0, 1), (81, .iconst 0, 1), (82, .newarray .int, 2), (84, .putfield 58, 3), (87, .aload_n 0, 1), (88, .iconst 0, 1), (89, .newarray .int, 2), (91, .putfield 61, 3), (94, .aload_n 0, 1), (95, .iconst 0, 1), (96, .newarray .int, 2), (98, .putfield 64, 3), (101, .iconst 0, 1), (102, .istore_n 1, 1), (103, .iload_n 1, 1), (104, .iconst 4, 1), (105, .if_icmp .ge 22, 3), (108, .aload_n 0, 1), (109, .getfield 33, 3), (112, .iload_n 1, 1), (113, .new 31, 3), (116, .dup, 1), (117, .invokespecial 67, 3), (120, .aastore, 1), (121, .iinc 1 1, 3), (124, .goto (-21), 3), (127, .return_, 1)]
theorem dd_X_init : Dall 0 dl_X_init = true := by decide +kernel
theorem t_X_init {h : Hp} {P : Value → Hp → Prop}  (T : (tg h 1 = 0) ∧ R 2 0 [.ref 1] [] (mk h 1 1 0 5) (fun _ h2 => R 0 12 [.ref 0, .retAddr 0] [.ref 1, .ref 0] h2 P)) : R 0 0 [.ref 0, .retAddr 0] [] h P := by
  refine R_aload_n (Dat dd_X_init 0 rfl) rfl rfl ?_
  refine R_call8 (Dat dd_X_init 1 rfl) rfl rfl ?_
  refine R_aload_n (Dat dd_X_init 2 rfl) rfl rfl ?_
  obtain ⟨g1, T⟩ := T
  refine R_new (Dat dd_X_init 3 rfl) (ci := 0) rfl rfl (q := 1) rfl g1 (Or.inl (by decide)) ?_
  refine R_dup (Dat dd_X_init 4 rfl) rfl ?_
  exact R_call4 (Dat dd_X_init 5 rfl) rfl rfl rfl rfl rfl rfl T
theorem t_X_init_12 {h : Hp} {P : Value → Hp → Prop} {a1 : Value} (T : (tg h 0 = 12) ∧ (tg (setF h 0 0) 4 = 0) ∧ (tg (mk (setF h 0 0) 4 22 (4 : Int).toNat (4 : Int).toNat) 0 = 12) ∧ (tg (setF (mk (setF h 0 0) 4 22 (4 : Int).toNat (4 : Int).toNat) 0 1) 5 = 0) ∧ (tg (mk (setF (mk (setF h 0 0) 4 22 (4 : Int).toNat (4 : Int).toNat) 0 1) 5 20 (8 : Int).toNat (8 : Int).toNat) 0 = 12) ∧ (tg (setF (mk (setF (mk (setF h 0 0) 4 22 (4 : Int).toNat (4 : Int).toNat) 0 1) 5 20 (8 : Int).toNat (8 : Int).toNat) 0 6) 6 = 0) ∧ (tg (mk (setF (mk (setF (mk (setF h 0 0) 4 22 (4 : Int).toNat (4 : Int).toNat) 0 1) 5 20 (8 : Int).toNat (8 : Int).toNat) 0 6) 6 20 (8 : Int).toNat (8 : Int).toNat) 0 = 12) ∧ (tg (setF (mk (setF (mk (setF (mk (setF h 0 0) 4 22 (4 : Int).toNat (4 : Int).toNat) 0 1) 5 20 (8 : Int).toNat (8 : Int).toNat) 0 6) 6 20 (8 : Int).toNat (8 : Int).toNat) 0 7) 7 = 0) ∧ (tg (mk (setF (mk (setF (mk (setF (mk (setF h 0 0) 4 22 (4 : Int).toNat (4 : Int).toNat) 0 1) 5 20 (8 : Int).toNat (8 : Int).toNat) 0 6) 6 20 (8 : Int).toNat (8 : Int).toNat) 0 7) 7 23 (4 : Int).toNat (4 : Int).toNat) 0 = 12) ∧ (tg (setF (mk (setF (mk (setF (mk (setF (mk (setF h 0 0) 4 22 (4 : Int).toNat (4 : Int).toNat) 0 1) 5 20 (8 : Int).toNat (8 : Int).toNat) 0 6) 6 20 (8 : Int).toNat (8 : Int).toNat) 0 7) 7 23 (4 : Int).toNat (4 : Int).toNat) 0 9) 16 = 0) ∧ R 3 0 [.ref 16] [] (mk (setF (mk (setF (mk (setF (mk (setF (mk (setF h 0 0) 4 22 (4 : Int).toNat (4 : Int).toNat) 0 1) 5 20 (8 : Int).toNat (8 : Int).toNat) 0 6) 6 20 (8 : Int).toNat (8 : Int).toNat) 0 7) 7 23 (4 : Int).toNat (4 : Int).toNat) 0 9) 16 11 0 1) (fun _ h2 => R 0 55 [.ref 0, a1] [.ref 16, .ref 0] h2 P)) : R 0 12 [.ref 0, a1] [.ref 1, .ref 0] h P := by
  obtain ⟨g1, T⟩ := T
  refine R_putr (Dat dd_X_init 6 rfl) rfl rfl rfl (tok g1) rfl ?_
  refine R_aload_n (Dat dd_X_init 7 rfl) rfl rfl ?_
  refine R_iconst (Dat dd_X_init 8 rfl) ?_
  obtain ⟨g2, T⟩ := T
  refine R_anew (Dat dd_X_init 9 rfl) (t := 22) rfl rfl (q := 4) rfl g2 (Or.inl (by decide)) (by decide) (by decide) ?_
  obtain ⟨g3, T⟩ := T
  refine R_putr (Dat dd_X_init 10 rfl) rfl rfl rfl (tok g3) rfl ?_
  refine R_aload_n (Dat dd_X_init 11 rfl) rfl rfl ?_
  refine R_bipush (Dat dd_X_init 12 rfl) (a := 8) rfl ?_
  obtain ⟨g4, T⟩ := T
  refine R_newa (Dat dd_X_init 13 rfl) rfl (q := 5) rfl g4 (Or.inl (by decide)) (by decide) (by decide) ?_
  obtain ⟨g5, T⟩ := T
  refine R_putr (Dat dd_X_init 14 rfl) rfl rfl rfl (tok g5) rfl ?_
  refine R_aload_n (Dat dd_X_init 15 rfl) rfl rfl ?_
  refine R_bipush (Dat dd_X_init 16 rfl) (a := 8) rfl ?_
  obtain ⟨g6, T⟩ := T
  refine R_newa (Dat dd_X_init 17 rfl) rfl (q := 6) rfl g6 (Or.inl (by decide)) (by decide) (by decide) ?_
  obtain ⟨g7, T⟩ := T
  refine R_putr (Dat dd_X_init 18 rfl) rfl rfl rfl (tok g7) rfl ?_
  refine R_aload_n (Dat dd_X_init 19 rfl) rfl rfl ?_
  refine R_iconst (Dat dd_X_init 20 rfl) ?_
  obtain ⟨g8, T⟩ := T
  refine R_anew (Dat dd_X_init 21 rfl) (t := 23) rfl rfl (q := 7) rfl g8 (Or.inl (by decide)) (by decide) (by decide) ?_
  obtain ⟨g9, T⟩ := T
  refine R_putr (Dat dd_X_init 22 rfl) rfl rfl rfl (tok g9) rfl ?_
  refine R_aload_n (Dat dd_X_init 23 rfl) rfl rfl ?_
  obtain ⟨g10, T⟩ := T
  refine R_new (Dat dd_X_init 24 rfl) (ci := 10) rfl rfl (q := 16) rfl g10 (Or.inl (by decide)) ?_
  refine R_dup (Dat dd_X_init 25 rfl) rfl ?_
  exact R_call4 (Dat dd_X_init 26 rfl) rfl rfl rfl rfl rfl rfl T
theorem t_X_init_55 {h : Hp} {P : Value → Hp → Prop} {a1 : Value} (T : (tg h 0 = 12) ∧ (tg (setF h 0 10) 17 = 0) ∧ (okg 0 4 [.ref 0, a1] [.ref 17, .ref 0] [.ref 17] = true) ∧ R 4 0 [.ref 17] [] (mk (setF h 0 10) 17 8 0 2) (fun _ h2 => R 0 66 [.ref 0, a1] [.ref 17, .ref 0] h2 P)) : R 0 55 [.ref 0, a1] [.ref 16, .ref 0] h P := by
  obtain ⟨g1, T⟩ := T
  refine R_putr (Dat dd_X_init 27 rfl) rfl rfl rfl (tok g1) rfl ?_
  refine R_aload_n (Dat dd_X_init 28 rfl) rfl rfl ?_
  obtain ⟨g2, T⟩ := T
  refine R_new (Dat dd_X_init 29 rfl) (ci := 7) rfl rfl (q := 17) rfl g2 (Or.inl (by decide)) ?_
  refine R_dup (Dat dd_X_init 30 rfl) rfl ?_
  obtain ⟨g3, T⟩ := T
  exact R_call4 (Dat dd_X_init 31 rfl) rfl rfl rfl rfl g3 rfl T
theorem t_X_init_66 {h : Hp} {P : Value → Hp → Prop} {a1 : Value} (T : (tg h 0 = 12) ∧ (tg (setF h 0 12) 19 = 0) ∧ (okg 0 5 [.ref 0, a1] [.ref 19, .ref 0] [.ref 19] = true) ∧ R 5 0 [.ref 19] [] (mk (setF h 0 12) 19 9 0 5) (fun _ h2 => R 0 77 [.ref 0, a1] [.ref 19, .ref 0] h2 P)) : R 0 66 [.ref 0, a1] [.ref 17, .ref 0] h P := by
  obtain ⟨g1, T⟩ := T
  refine R_putr (Dat dd_X_init 32 rfl) rfl rfl rfl (tok g1) rfl ?_
  refine R_aload_n (Dat dd_X_init 33 rfl) rfl rfl ?_
  obtain ⟨g2, T⟩ := T
  refine R_new (Dat dd_X_init 34 rfl) (ci := 8) rfl rfl (q := 19) rfl g2 (Or.inl (by decide)) ?_
  refine R_dup (Dat dd_X_init 35 rfl) rfl ?_
  obtain ⟨g3, T⟩ := T
  exact R_call4 (Dat dd_X_init 36 rfl) rfl rfl rfl rfl g3 rfl T
theorem t_X_init_77 {h : Hp} {P : Value → Hp → Prop} {a1 : Value} (T : (tg h 0 = 12) ∧ (tg (setF h 0 13) 24 = 0) ∧ (tg (mk (setF h 0 13) 24 20 (0 : Int).toNat (0 : Int).toNat) 0 = 12) ∧ (tg (setF (mk (setF h 0 13) 24 20 (0 : Int).toNat (0 : Int).toNat) 0 14) 25 = 0) ∧ (tg (mk (setF (mk (setF h 0 13) 24 20 (0 : Int).toNat (0 : Int).toNat) 0 14) 25 20 (0 : Int).toNat (0 : Int).toNat) 0 = 12) ∧ (tg (setF (mk (setF (mk (setF h 0 13) 24 20 (0 : Int).toNat (0 : Int).toNat) 0 14) 25 20 (0 : Int).toNat (0 : Int).toNat) 0 15) 26 = 0) ∧ (tg (mk (setF (mk (setF (mk (setF h 0 13) 24 20 (0 : Int).toNat (0 : Int).toNat) 0 14) 25 20 (0 : Int).toNat (0 : Int).toNat) 0 15) 26 20 (0 : Int).toNat (0 : Int).toNat) 0 = 12) ∧ R 0 103 [.ref 0, .int (I 0)] [] (setF (mk (setF (mk (setF (mk (setF h 0 13) 24 20 (0 : Int).toNat (0 : Int).toNat) 0 14) 25 20 (0 : Int).toNat (0 : Int).toNat) 0 15) 26 20 (0 : Int).toNat (0 : Int).toNat) 0 16) P) : R 0 77 [.ref 0, a1] [.ref 19, .ref 0] h P := by
  obtain ⟨g1, T⟩ := T
  refine R_putr (Dat dd_X_init 37 rfl) rfl rfl rfl (tok g1) rfl ?_
  refine R_aload_n (Dat dd_X_init 38 rfl) rfl rfl ?_
  refine R_iconst (Dat dd_X_init 39 rfl) ?_
  obtain ⟨g2, T⟩ := T
  refine R_newa (Dat dd_X_init 40 rfl) rfl (q := 24) rfl g2 (Or.inl (by decide)) (by decide) (by decide) ?_
  obtain ⟨g3, T⟩ := T
  refine R_putr (Dat dd_X_init 41 rfl) rfl rfl rfl (tok g3) rfl ?_
  refine R_aload_n (Dat dd_X_init 42 rfl) rfl rfl ?_
  refine R_iconst (Dat dd_X_init 43 rfl) ?_
  obtain ⟨g4, T⟩ := T
  refine R_newa (Dat dd_X_init 44 rfl) rfl (q := 25) rfl g4 (Or.inl (by decide)) (by decide) (by decide) ?_
  obtain ⟨g5, T⟩ := T
  refine R_putr (Dat dd_X_init 45 rfl) rfl rfl rfl (tok g5) rfl ?_
  refine R_aload_n (Dat dd_X_init 46 rfl) rfl rfl ?_
  refine R_iconst (Dat dd_X_init 47 rfl) ?_
  obtain ⟨g6, T⟩ := T
  refine R_newa (Dat dd_X_init 48 rfl) rfl (q := 26) rfl g6 (Or.inl (by decide)) (by decide) (by decide) ?_
  obtain ⟨g7, T⟩ := T
  refine R_putr (Dat dd_X_init 49 rfl) rfl rfl rfl (tok g7) rfl ?_
  refine R_iconst (Dat dd_X_init 50 rfl) ?_
  refine R_istore_n (Dat dd_X_init 51 rfl) rfl rfl ?_
  exact T
theorem t_X_init_103 {h : Hp} {P : Value → Hp → Prop} {a1 : Int} (T : (rng a1) ∧ ((a1 < 4 → (tg h 0 = 12) ∧ (fl h 0 9 = true) ∧ (tg h 7 ≠ 0) ∧ (tg h (8 + (wr a1).toNat) = 0) ∧ ((8 + (wr a1).toNat) < 500) ∧ (okg 0 6 [.ref 0, .int (I a1)] [.ref (8 + (wr a1).toNat), .int (I a1), .ref 7] [.ref (8 + (wr a1).toNat)] = true) ∧ R 6 0 [.ref (8 + (wr a1).toNat)] [] (mk h (8 + (wr a1).toNat) 10 0 4) (fun _ h2 => R 0 120 [.ref 0, .int (I a1)] [.ref (8 + (wr a1).toNat), .int (I a1), .ref 7] h2 P)) ∧ (¬ a1 < 4 → P .null h))) : R 0 103 [.ref 0, .int (I a1)] [] h P := by
  refine R_iload_n (Dat dd_X_init 52 rfl) rfl ?_
  refine R_iconst (Dat dd_X_init 53 rfl) ?_
  obtain ⟨g1, T⟩ := T
  refine R_ic_ge (Dat dd_X_init 54 rfl) rfl g1 (by decide) (fun c => ?_) (fun c => ?_)
  · replace T := T.1 c
    refine R_aload_n (Dat dd_X_init 55 rfl) rfl rfl ?_
    obtain ⟨g2, T⟩ := T
    obtain ⟨g3, T⟩ := T
    obtain ⟨g4, T⟩ := T
    refine R_getr (Dat dd_X_init 56 rfl) rfl rfl (tok g2) g3 (q := 7) rfl g4 ?_
    refine R_iload_n (Dat dd_X_init 57 rfl) rfl ?_
    obtain ⟨g5, T⟩ := T
    obtain ⟨g6, T⟩ := T
    refine R_new (Dat dd_X_init 58 rfl) (ci := 9) rfl rfl (q := 8 + (wr a1).toNat) rfl g5 (Or.inl g6) ?_
    refine R_dup (Dat dd_X_init 59 rfl) rfl ?_
    obtain ⟨g7, T⟩ := T
    exact R_call4 (Dat dd_X_init 60 rfl) rfl rfl rfl rfl g7 rfl T
  · replace T := T.2 c
    exact R_return (Dat dd_X_init 64 rfl) rfl T
theorem t_X_init_120 {h : Hp} {P : Value → Hp → Prop} {a1 s1 : Int} {s0 : Nat} (T : (elok (tg h 7) (tg h s0) = true) ∧ ((ln h 7 : Int) ≤ 2147483648) ∧ (0 ≤ s1) ∧ (s1 < ln h 7) ∧ (child 7 (s1).toNat = s0) ∧ R 0 103 [.ref 0, .int (I (a1 + 1))] [] (setF h 7 (s1).toNat) P) : R 0 120 [.ref 0, .int (I a1)] [.ref s0, .int (I s1), .ref 7] h P := by
  obtain ⟨g1, T⟩ := T
  obtain ⟨g2, T⟩ := T
  obtain ⟨g3, T⟩ := T
  obtain ⟨g4, T⟩ := T
  obtain ⟨g5, T⟩ := T
  refine R_aastore (Dat dd_X_init 61 rfl) g1 g2 g3 g4 g5 ?_
  refine R_iinc (Dat dd_X_init 62 rfl) rfl rfl rfl ?_
  refine R_goto (Dat dd_X_init 63 rfl) rfl ?_
  exact T
def dl_Trail_init : List (Nat × Instr × Nat) := [(0, .aload_n 0, 1), (1, .invokespecial 1, 3), (4, .return_, 1)]
theorem dd_Trail_init : Dall 3 dl_Trail_init = true := by decide +kernel
theorem t_Trail_init {h : Hp} {P : Value → Hp → Prop}  (T : P .null h) : R 3 0 [.ref 16] [] h P := by
  refine R_aload_n (Dat dd_Trail_init 0 rfl) rfl rfl ?_
  refine R_call8 (Dat dd_Trail_init 1 rfl) rfl rfl ?_
  exact R_return (Dat dd_Trail_init 2 rfl) rfl T
def dl_Search_init : List (Nat × Instr × Nat) := [(0, .aload_n 0, 1), (1, .invokespecial 3, 3), (4, .aload_n 0, 1), (5, .iconst 0, 1), (6, .newarray .int, 2), (8, .putfield 9, 3), (11, .aload_n 0, 1), (12, .iconst 0, 1), (13, .newarray .int, 2), (15, .putfield 15, 3), (18, .aload_n 0, 1), (19, .iconst 0, 1), (20, .newarray .int, 2), (22, .putfield 18, 3), (25, .aload_n 0, 1), (26, .iconst 0, 1), (27, .newarray .int, 2), (29, .putfield 21, 3), (32, .return_, 1)]
theorem dd_Search_init : Dall 5 dl_Search_init = true := by decide +kernel
theorem t_Search_init {h : Hp} {P : Value → Hp → Prop}  (T : (tg h 20 = 0) ∧ (tg (mk h 20 20 (0 : Int).toNat (0 : Int).toNat) 19 = 9) ∧ (tg (setF (mk h 20 20 (0 : Int).toNat (0 : Int).toNat) 19 0) 21 = 0) ∧ (tg (mk (setF (mk h 20 20 (0 : Int).toNat (0 : Int).toNat) 19 0) 21 20 (0 : Int).toNat (0 : Int).toNat) 19 = 9) ∧ (tg (setF (mk (setF (mk h 20 20 (0 : Int).toNat (0 : Int).toNat) 19 0) 21 20 (0 : Int).toNat (0 : Int).toNat) 19 1) 22 = 0) ∧ (tg (mk (setF (mk (setF (mk h 20 20 (0 : Int).toNat (0 : Int).toNat) 19 0) 21 20 (0 : Int).toNat (0 : Int).toNat) 19 1) 22 20 (0 : Int).toNat (0 : Int).toNat) 19 = 9) ∧ (tg (setF (mk (setF (mk (setF (mk h 20 20 (0 : Int).toNat (0 : Int).toNat) 19 0) 21 20 (0 : Int).toNat (0 : Int).toNat) 19 1) 22 20 (0 : Int).toNat (0 : Int).toNat) 19 2) 23 = 0) ∧ (tg (mk (setF (mk (setF (mk (setF (mk h 20 20 (0 : Int).toNat (0 : Int).toNat) 19 0) 21 20 (0 : Int).toNat (0 : Int).toNat) 19 1) 22 20 (0 : Int).toNat (0 : Int).toNat) 19 2) 23 20 (0 : Int).toNat (0 : Int).toNat) 19 = 9) ∧ P .null (setF (mk (setF (mk (setF (mk (setF (mk h 20 20 (0 : Int).toNat (0 : Int).toNat) 19 0) 21 20 (0 : Int).toNat (0 : Int).toNat) 19 1) 22 20 (0 : Int).toNat (0 : Int).toNat) 19 2) 23 20 (0 : Int).toNat (0 : Int).toNat) 19 3)) : R 5 0 [.ref 19] [] h P := by
  refine R_aload_n (Dat dd_Search_init 0 rfl) rfl rfl ?_
  refine R_call8 (Dat dd_Search_init 1 rfl) rfl rfl ?_
  refine R_aload_n (Dat dd_Search_init 2 rfl) rfl rfl ?_
  refine R_iconst (Dat dd_Search_init 3 rfl) ?_
  obtain ⟨g1, T⟩ := T
  refine R_newa (Dat dd_Search_init 4 rfl) rfl (q := 20) rfl g1 (Or.inl (by decide)) (by decide) (by decide) ?_
  obtain ⟨g2, T⟩ := T
  refine R_putr (Dat dd_Search_init 5 rfl) rfl rfl rfl (tok g2) rfl ?_
  refine R_aload_n (Dat dd_Search_init 6 rfl) rfl rfl ?_
  refine R_iconst (Dat dd_Search_init 7 rfl) ?_
  obtain ⟨g3, T⟩ := T
  refine R_newa (Dat dd_Search_init 8 rfl) rfl (q := 21) rfl g3 (Or.inl (by decide)) (by decide) (by decide) ?_
  obtain ⟨g4, T⟩ := T
  refine R_putr (Dat dd_Search_init 9 rfl) rfl rfl rfl (tok g4) rfl ?_
  refine R_aload_n (Dat dd_Search_init 10 rfl) rfl rfl ?_
  refine R_iconst (Dat dd_Search_init 11 rfl) ?_
  obtain ⟨g5, T⟩ := T
  refine R_newa (Dat dd_Search_init 12 rfl) rfl (q := 22) rfl g5 (Or.inl (by decide)) (by decide) (by decide) ?_
  obtain ⟨g6, T⟩ := T
  refine R_putr (Dat dd_Search_init 13 rfl) rfl rfl rfl (tok g6) rfl ?_
  refine R_aload_n (Dat dd_Search_init 14 rfl) rfl rfl ?_
  refine R_iconst (Dat dd_Search_init 15 rfl) ?_
  obtain ⟨g7, T⟩ := T
  refine R_newa (Dat dd_Search_init 16 rfl) rfl (q := 23) rfl g7 (Or.inl (by decide)) (by decide) (by decide) ?_
  obtain ⟨g8, T⟩ := T
  refine R_putr (Dat dd_Search_init 17 rfl) rfl rfl rfl (tok g8) rfl ?_
  exact R_return (Dat dd_Search_init 18 rfl) rfl T
def dl_Sheet_init : List (Nat × Instr × Nat) := [(0, .aload_n 0, 1), (1, .invokespecial 3, 3), (4, .aload_n 0, 1), (5, .bipush 60, 2), (7, .newarray .int, 2), (9, .putfield 9, 3), (12, .return_, 1)]
theorem dd_Sheet_init : Dall 6 dl_Sheet_init = true := by decide +kernel
theorem t_Sheet_init {h : Hp} {P : Value → Hp → Prop} {r : Nat} (T : (tg h (r + 4) = 0) ∧ ((r + 4) < 500) ∧ (tg (mk h (r + 4) 20 (60 : Int).toNat (60 : Int).toNat) r = 10) ∧ (child r 0 = (r + 4)) ∧ P .null (setF (mk h (r + 4) 20 (60 : Int).toNat (60 : Int).toNat) r 0)) : R 6 0 [.ref r] [] h P := by
  refine R_aload_n (Dat dd_Sheet_init 0 rfl) rfl rfl ?_
  refine R_call8 (Dat dd_Sheet_init 1 rfl) rfl rfl ?_
  refine R_aload_n (Dat dd_Sheet_init 2 rfl) rfl rfl ?_
  refine R_bipush (Dat dd_Sheet_init 3 rfl) (a := 60) rfl ?_
  obtain ⟨g1, T⟩ := T
  obtain ⟨g2, T⟩ := T
  refine R_newa (Dat dd_Sheet_init 4 rfl) rfl (q := r + 4) rfl g1 (Or.inl g2) (by decide) (by decide) ?_
  obtain ⟨g3, T⟩ := T
  obtain ⟨g4, T⟩ := T
  refine R_putr (Dat dd_Sheet_init 5 rfl) rfl rfl rfl (tok g3) g4 ?_
  exact R_return (Dat dd_Sheet_init 6 rfl) rfl T
def dl_X_box : List (Nat × Instr × Nat) := [(0, .aload_n 0, 1), (1, .iload_n 1, 1), (2, .iload_n 2, 1), (3, .iload_n 3, 1), (4, .iload 4, 2), (6, .invokevirtual 68, 3), (9, .istore 5, 2), (11, .iload 5, 2), (13, .ifCond .eq 6, 3), (16, .iload 5, 2), (18, .ireturn, 1), (19, .aload_n 0, 1), (20, .getfield 33, 3), (23, .iload_n 1, 1), (24, .aaload, 1), (25, .getfield 72, 3), (28, .astore 6, 2), (30, .aload 6, 2), (32, .iload_n 3, 1), (33, .iload 4, 2), (35, .invokestatic 75, 3), (38, .istore 7, 2), (40, .iload 7, 2), (42, .iconst (-1), 1), (43, .if_icmp .eq 9, 3), (46, .bipush (-100), 2), (48, .iload 7, 2), (50, .isub, 1), (51, .ireturn, 1), (52, .aload_n 0, 1), (53, .getfield 12, 3), (56, .aload 6, 2), (58, .iload_n 3, 1), (59, .iload 4, 2), (61, .invokevirtual 79, 3), (64, .aload_n 0, 1), (65, .invokevirtual 83, 3), (68, .aload_n 0, 1), (69, .iconst 0, 1), (70, .putfield 86, 3), (73, .aload_n 0, 1), (74, .iconst 0, 1), (75, .putfield 90, 3), (78, .aload_n 0, 1), (79, .iconst 0, 1), (80, .putfield 93, 3), (83, .aload_n 0, 1), (84, .getfield 12, 3), (87, .getfield 96, 3), (90, .ireturn, 1)]
theorem dd_X_box : Dall 7 dl_X_box = true := by decide +kernel
theorem t_X_box {h : Hp} {P : Value → Hp → Prop} {p0 p1 p2 p3 : Int} (S : XS h) (T : R 8 0 [.ref 0, .int (I p0), .int (I p1), .int (I p2), .int (I p3), .retAddr 0] [] h (fun v h2 => R 7 9 [.ref 0, .int (I p0), .int (I p1), .int (I p2), .int (I p3), .retAddr 0, .retAddr 0, .retAddr 0] (v :: []) h2 P)) : R 7 0 [.ref 0, .int (I p0), .int (I p1), .int (I p2), .int (I p3), .retAddr 0, .retAddr 0, .retAddr 0] [] h P := by
  refine R_aload_n (Dat dd_X_box 0 rfl) rfl rfl ?_
  refine R_iload_n (Dat dd_X_box 1 rfl) rfl ?_
  refine R_iload_n (Dat dd_X_box 2 rfl) rfl ?_
  refine R_iload_n (Dat dd_X_box 3 rfl) rfl ?_
  refine R_iload (Dat dd_X_box 4 rfl) rfl ?_
  exact R_call1 (Dat dd_X_box 5 rfl) rfl S.t0 rfl rfl rfl rfl rfl T
theorem t_X_box_9 {h : Hp} {P : Value → Hp → Prop} {a1 a3 a4 s0 : Int} {a2 a5 a6 a7 : Value} (S : XS h) (T : (rng s0) ∧ ((s0 = 0 → (0 ≤ a1) ∧ (a1 < 4) ∧ (fl h 7 (a1).toNat = true) ∧ (tg h (child 7 (a1).toNat) ≠ 0) ∧ (tg h (child 7 (a1).toNat) = 10) ∧ (fl h (child 7 (a1).toNat) 0 = true) ∧ (tg h (child (child 7 (a1).toNat) 0) ≠ 0) ∧ R 13 0 [.ref (child (child 7 (a1).toNat) 0), .int (I a3), .int (I a4), .retAddr 0, .retAddr 0, .retAddr 0] [] h (fun v h2 => R 7 38 [.ref 0, .int (I a1), a2, .int (I a3), .int (I a4), .int (I s0), .ref (child (child 7 (a1).toNat) 0), a7] (v :: []) h2 P)) ∧ (¬ s0 = 0 → P (.int (I s0)) h))) : R 7 9 [.ref 0, .int (I a1), a2, .int (I a3), .int (I a4), a5, a6, a7] [.int (I s0)] h P := by
  refine R_istore (Dat dd_X_box 6 rfl) rfl rfl ?_
  refine R_iload (Dat dd_X_box 7 rfl) rfl ?_
  obtain ⟨g1, T⟩ := T
  refine R_if_eq (Dat dd_X_box 8 rfl) rfl g1  (fun c => ?_) (fun c => ?_)
  · replace T := T.1 c
    refine R_aload_n (Dat dd_X_box 11 rfl) rfl rfl ?_
    refine R_getr (Dat dd_X_box 12 rfl) rfl rfl (tok S.t0) S.f0_9 (q := 7) rfl (tnz S.t7) ?_
    refine R_iload_n (Dat dd_X_box 13 rfl) rfl ?_
    obtain ⟨g2, T⟩ := T
    obtain ⟨g3, T⟩ := T
    obtain ⟨g4, T⟩ := T
    obtain ⟨g5, T⟩ := T
    refine R_aaload (Dat dd_X_box 14 rfl) (by rw [show tg h 7 = 23 from S.t7]; decide) (lnle (show ln h 7 = 4 from S.l7) (by decide)) g2 (lnlt (show ln h 7 = 4 from S.l7) g3) g4 rfl g5 ?_
    obtain ⟨g6, T⟩ := T
    obtain ⟨g7, T⟩ := T
    obtain ⟨g8, T⟩ := T
    refine R_getr (Dat dd_X_box 15 rfl) rfl rfl (tok g6) g7 (q := child (child 7 (a1).toNat) 0) rfl g8 ?_
    refine R_astore (Dat dd_X_box 16 rfl) rfl rfl rfl ?_
    refine R_aload (Dat dd_X_box 17 rfl) rfl rfl ?_
    refine R_iload_n (Dat dd_X_box 18 rfl) rfl ?_
    refine R_iload (Dat dd_X_box 19 rfl) rfl ?_
    exact R_call0 (Dat dd_X_box 20 rfl) rfl rfl rfl rfl rfl rfl T
  · replace T := T.2 c
    refine R_iload (Dat dd_X_box 9 rfl) rfl ?_
    exact R_ireturn (Dat dd_X_box 10 rfl) rfl T
theorem t_X_box_38 {h : Hp} {P : Value → Hp → Prop} {a3 a4 s0 : Int} {a6 : Nat} {a1 a2 a5 a7 : Value} (S : XS h) (T : (rng s0) ∧ ((s0 = (-1) → (okg 7 15 [.ref 0, a1, a2, .int (I a3), .int (I a4), a5, .ref a6, .int (I s0)] [] [.ref 1, .ref a6, .int (I a3), .int (I a4)] = true) ∧ R 15 0 [.ref 1, .ref a6, .int (I a3), .int (I a4), .retAddr 0, .retAddr 0, .retAddr 0] [] h (fun _ h2 => R 7 64 [.ref 0, a1, a2, .int (I a3), .int (I a4), a5, .ref a6, .int (I s0)] [] h2 P)) ∧ (¬ s0 = (-1) → P (.int (I ((-100) - s0))) h))) : R 7 38 [.ref 0, a1, a2, .int (I a3), .int (I a4), a5, .ref a6, a7] [.int (I s0)] h P := by
  refine R_istore (Dat dd_X_box 21 rfl) rfl rfl ?_
  refine R_iload (Dat dd_X_box 22 rfl) rfl ?_
  refine R_iconst (Dat dd_X_box 23 rfl) ?_
  obtain ⟨g1, T⟩ := T
  refine R_ic_eq (Dat dd_X_box 24 rfl) rfl g1 (by decide) (fun c => ?_) (fun c => ?_)
  · replace T := T.1 c
    refine R_aload_n (Dat dd_X_box 29 rfl) rfl rfl ?_
    refine R_getr (Dat dd_X_box 30 rfl) rfl rfl (tok S.t0) S.f0_0 (q := 1) rfl (tnz S.t1) ?_
    refine R_aload (Dat dd_X_box 31 rfl) rfl rfl ?_
    refine R_iload_n (Dat dd_X_box 32 rfl) rfl ?_
    refine R_iload (Dat dd_X_box 33 rfl) rfl ?_
    obtain ⟨g2, T⟩ := T
    exact R_call1 (Dat dd_X_box 34 rfl) rfl S.t1 rfl rfl rfl g2 rfl T
  · replace T := T.2 c
    refine R_bipush (Dat dd_X_box 25 rfl) (a := (-100)) rfl ?_
    refine R_iload (Dat dd_X_box 26 rfl) rfl ?_
    refine R_isub (Dat dd_X_box 27 rfl) ?_
    exact R_ireturn (Dat dd_X_box 28 rfl) rfl T
theorem t_X_box_64 {h : Hp} {P : Value → Hp → Prop} {a1 a2 a3 a4 a5 a6 a7 : Value} (S : XS h) (T : (okg 7 25 [.ref 0, a1, a2, a3, a4, a5, a6, a7] [] [.ref 0] = true) ∧ R 25 0 [.ref 0] [] h (fun _ h2 => R 7 68 [.ref 0, a1, a2, a3, a4, a5, a6, a7] [] h2 P)) : R 7 64 [.ref 0, a1, a2, a3, a4, a5, a6, a7] [] h P := by
  refine R_aload_n (Dat dd_X_box 35 rfl) rfl rfl ?_
  obtain ⟨g1, T⟩ := T
  exact R_call1 (Dat dd_X_box 36 rfl) rfl S.t0 rfl rfl rfl g1 rfl T
theorem t_X_box_68 {h : Hp} {P : Value → Hp → Prop} {a1 a2 a3 a4 a5 a6 a7 : Value} (S : XS h) (T : P (.int (I (iv (setI (setI (setI h 0 4 0) 0 8 0) 0 5 0) 1 1))) (setI (setI (setI h 0 4 0) 0 8 0) 0 5 0)) : R 7 68 [.ref 0, a1, a2, a3, a4, a5, a6, a7] [] h P := by
  refine R_aload_n (Dat dd_X_box 37 rfl) rfl rfl ?_
  refine R_iconst (Dat dd_X_box 38 rfl) ?_
  refine R_puti (Dat dd_X_box 39 rfl) rfl rfl rfl (tok S.t0) rfl (v := 0) rfl ?_
  refine R_aload_n (Dat dd_X_box 40 rfl) rfl rfl ?_
  refine R_iconst (Dat dd_X_box 41 rfl) ?_
  refine R_puti (Dat dd_X_box 42 rfl) rfl rfl rfl (tok S.t0) rfl (v := 0) rfl ?_
  refine R_aload_n (Dat dd_X_box 43 rfl) rfl rfl ?_
  refine R_iconst (Dat dd_X_box 44 rfl) ?_
  refine R_puti (Dat dd_X_box 45 rfl) rfl rfl rfl (tok S.t0) rfl (v := 0) rfl ?_
  refine R_aload_n (Dat dd_X_box 46 rfl) rfl rfl ?_
  refine R_getr (Dat dd_X_box 47 rfl) rfl rfl (tok S.t0) S.f0_0 (q := 1) rfl (tnz S.t1) ?_
  refine R_geti (Dat dd_X_box 48 rfl) rfl rfl (tok S.t1) ?_
  exact R_ireturn (Dat dd_X_box 49 rfl) rfl T
def dl_X_refusalOfCells : List (Nat × Instr × Nat) := [(0, .aload_n 0, 1), (1, .iconst 0, 1), (2, .putfield 266, 3), (5, .iload_n 1, 1), (6, .invokestatic 278, 3), (9, .ifCond .eq 5, 3), (12, .iconst (-1), 1), (13, .ireturn, 1), (14, .iload_n 2, 1), (15, .invokestatic 281, 3), (18, .ifCond .eq 6, 3), (21, .bipush (-2), 2), (23, .ireturn, 1), (24, .aload_n 0, 1), (25, .getfield 33, 3), (28, .iload_n 1, 1), (29, .aaload, 1), (30, .astore 5, 2), (32, .aload 5, 2), (34, .getfield 291, 3), (37, .ifCond .eq 18, 3), (40, .aload 5, 2), (42, .getfield 301, 3), (45, .iload_n 2, 1), (46, .if_icmp .eq 9, 3), (49, .aload_n 0, 1), (50, .iconst 2, 1), (51, .invokevirtual 284, 3), (54, .ireturn, 1), (55, .aload 5, 2), (57, .getfield 291, 3), (60, .ifCond .ne 9, 3), (63, .aload_n 0, 1), (64, .iconst 1, 1), (65, .invokevirtual 284, 3), (68, .ireturn, 1), (69, .iload 4, 2), (71, .ifCond .ge 9, 3), (74, .aload_n 0, 1), (75, .iconst 4, 1), (76, .invokevirtual 284, 3), (79, .ireturn, 1), (80, .aload 5, 2), (82, .iload_n 3, 1), (83, .iload 4, 2), (85, .invokevirtual 304, 3), (88, .ifCond .eq 11, 3), (91, .aload_n 0, 1), (92, .iconst 3, 1), (93, .invokevirtual 284, 3), (96, .goto 4, 3), (99, .iconst 0, 1), (100, .ireturn, 1)]
theorem dd_X_refusalOfCells : Dall 8 dl_X_refusalOfCells = true := by decide +kernel
theorem t_X_refusalOfCells {h : Hp} {P : Value → Hp → Prop} {p0 p1 p2 p3 : Int} (S : XS h) (T : R 9 0 [.int (I p0)] [] (setI h 0 11 0) (fun v h2 => R 8 9 [.ref 0, .int (I p0), .int (I p1), .int (I p2), .int (I p3), .retAddr 0] (v :: []) h2 P)) : R 8 0 [.ref 0, .int (I p0), .int (I p1), .int (I p2), .int (I p3), .retAddr 0] [] h P := by
  refine R_aload_n (Dat dd_X_refusalOfCells 0 rfl) rfl rfl ?_
  refine R_iconst (Dat dd_X_refusalOfCells 1 rfl) ?_
  refine R_puti (Dat dd_X_refusalOfCells 2 rfl) rfl rfl rfl (tok S.t0) rfl (v := 0) rfl ?_
  refine R_iload_n (Dat dd_X_refusalOfCells 3 rfl) rfl ?_
  exact R_call0 (Dat dd_X_refusalOfCells 4 rfl) rfl rfl rfl rfl rfl rfl T
theorem t_X_refusalOfCells_9 {h : Hp} {P : Value → Hp → Prop} {a1 a2 a3 a4 s0 : Int} {a5 : Value} (S : XS h) (T : (rng s0) ∧ ((s0 = 0 → R 10 0 [.int (I a2)] [] h (fun v h2 => R 8 18 [.ref 0, .int (I a1), .int (I a2), .int (I a3), .int (I a4), a5] (v :: []) h2 P)) ∧ (¬ s0 = 0 → P (.int (I (-1))) h))) : R 8 9 [.ref 0, .int (I a1), .int (I a2), .int (I a3), .int (I a4), a5] [.int (I s0)] h P := by
  obtain ⟨g1, T⟩ := T
  refine R_if_eq (Dat dd_X_refusalOfCells 5 rfl) rfl g1  (fun c => ?_) (fun c => ?_)
  · replace T := T.1 c
    refine R_iload_n (Dat dd_X_refusalOfCells 8 rfl) rfl ?_
    exact R_call0 (Dat dd_X_refusalOfCells 9 rfl) rfl rfl rfl rfl rfl rfl T
  · replace T := T.2 c
    refine R_iconst (Dat dd_X_refusalOfCells 6 rfl) ?_
    exact R_ireturn (Dat dd_X_refusalOfCells 7 rfl) rfl T
theorem t_X_refusalOfCells_18 {h : Hp} {P : Value → Hp → Prop} {a1 a2 a3 a4 s0 : Int} {a5 : Value} (S : XS h) (T : (rng s0) ∧ ((s0 = 0 → (0 ≤ a1) ∧ (a1 < 4) ∧ (fl h 7 (a1).toNat = true) ∧ (tg h (child 7 (a1).toNat) ≠ 0) ∧ (tg h (child 7 (a1).toNat) = 10) ∧ (rng (iv h (child 7 (a1).toNat) 1)) ∧ (((iv h (child 7 (a1).toNat) 1) = 0 → (tg h (child 7 (a1).toNat) = 10) ∧ (rng (iv h (child 7 (a1).toNat) 1)) ∧ (((iv h (child 7 (a1).toNat) 1) = 0 → R 11 0 [.ref 0, .int (I 1)] [] h (fun v h2 => R 8 68 [.ref 0, .int (I a1), .int (I a2), .int (I a3), .int (I a4), .ref (child 7 (a1).toNat)] (v :: []) h2 P)) ∧ (¬ (iv h (child 7 (a1).toNat) 1) = 0 → (rng a4) ∧ ((a4 < 0 → R 11 0 [.ref 0, .int (I 4)] [] h (fun v h2 => R 8 79 [.ref 0, .int (I a1), .int (I a2), .int (I a3), .int (I a4), .ref (child 7 (a1).toNat)] (v :: []) h2 P)) ∧ (¬ a4 < 0 → (tg h (child 7 (a1).toNat) = 10) ∧ R 12 0 [.ref (child 7 (a1).toNat), .int (I a3), .int (I a4)] [] h (fun v h2 => R 8 88 [.ref 0, .int (I a1), .int (I a2), .int (I a3), .int (I a4), .ref (child 7 (a1).toNat)] (v :: []) h2 P)))))) ∧ (¬ (iv h (child 7 (a1).toNat) 1) = 0 → (tg h (child 7 (a1).toNat) = 10) ∧ (rng (iv h (child 7 (a1).toNat) 2)) ∧ (rng a2) ∧ (((iv h (child 7 (a1).toNat) 2) = a2 → (tg h (child 7 (a1).toNat) = 10) ∧ (rng (iv h (child 7 (a1).toNat) 1)) ∧ (((iv h (child 7 (a1).toNat) 1) = 0 → R 11 0 [.ref 0, .int (I 1)] [] h (fun v h2 => R 8 68 [.ref 0, .int (I a1), .int (I a2), .int (I a3), .int (I a4), .ref (child 7 (a1).toNat)] (v :: []) h2 P)) ∧ (¬ (iv h (child 7 (a1).toNat) 1) = 0 → (rng a4) ∧ ((a4 < 0 → R 11 0 [.ref 0, .int (I 4)] [] h (fun v h2 => R 8 79 [.ref 0, .int (I a1), .int (I a2), .int (I a3), .int (I a4), .ref (child 7 (a1).toNat)] (v :: []) h2 P)) ∧ (¬ a4 < 0 → (tg h (child 7 (a1).toNat) = 10) ∧ R 12 0 [.ref (child 7 (a1).toNat), .int (I a3), .int (I a4)] [] h (fun v h2 => R 8 88 [.ref 0, .int (I a1), .int (I a2), .int (I a3), .int (I a4), .ref (child 7 (a1).toNat)] (v :: []) h2 P)))))) ∧ (¬ (iv h (child 7 (a1).toNat) 2) = a2 → R 11 0 [.ref 0, .int (I 2)] [] h (fun v h2 => R 8 54 [.ref 0, .int (I a1), .int (I a2), .int (I a3), .int (I a4), .ref (child 7 (a1).toNat)] (v :: []) h2 P)))))) ∧ (¬ s0 = 0 → P (.int (I (-2))) h))) : R 8 18 [.ref 0, .int (I a1), .int (I a2), .int (I a3), .int (I a4), a5] [.int (I s0)] h P := by
  obtain ⟨g1, T⟩ := T
  refine R_if_eq (Dat dd_X_refusalOfCells 10 rfl) rfl g1  (fun c => ?_) (fun c => ?_)
  · replace T := T.1 c
    refine R_aload_n (Dat dd_X_refusalOfCells 13 rfl) rfl rfl ?_
    refine R_getr (Dat dd_X_refusalOfCells 14 rfl) rfl rfl (tok S.t0) S.f0_9 (q := 7) rfl (tnz S.t7) ?_
    refine R_iload_n (Dat dd_X_refusalOfCells 15 rfl) rfl ?_
    obtain ⟨g2, T⟩ := T
    obtain ⟨g3, T⟩ := T
    obtain ⟨g4, T⟩ := T
    obtain ⟨g5, T⟩ := T
    refine R_aaload (Dat dd_X_refusalOfCells 16 rfl) (by rw [show tg h 7 = 23 from S.t7]; decide) (lnle (show ln h 7 = 4 from S.l7) (by decide)) g2 (lnlt (show ln h 7 = 4 from S.l7) g3) g4 rfl g5 ?_
    refine R_astore (Dat dd_X_refusalOfCells 17 rfl) rfl rfl rfl ?_
    refine R_aload (Dat dd_X_refusalOfCells 18 rfl) rfl rfl ?_
    obtain ⟨g6, T⟩ := T
    refine R_geti (Dat dd_X_refusalOfCells 19 rfl) rfl rfl (tok g6) ?_
    obtain ⟨g7, T⟩ := T
    refine R_if_eq (Dat dd_X_refusalOfCells 20 rfl) rfl g7  (fun c => ?_) (fun c => ?_)
    · replace T := T.1 c
      refine R_aload (Dat dd_X_refusalOfCells 29 rfl) rfl rfl ?_
      obtain ⟨g8, T⟩ := T
      refine R_geti (Dat dd_X_refusalOfCells 30 rfl) rfl rfl (tok g8) ?_
      obtain ⟨g9, T⟩ := T
      refine R_if_ne (Dat dd_X_refusalOfCells 31 rfl) rfl g9  (fun c => ?_) (fun c => ?_)
      · replace T := T.1 c
        refine R_aload_n (Dat dd_X_refusalOfCells 32 rfl) rfl rfl ?_
        refine R_iconst (Dat dd_X_refusalOfCells 33 rfl) ?_
        exact R_call1 (Dat dd_X_refusalOfCells 34 rfl) rfl S.t0 rfl rfl rfl rfl rfl T
      · replace T := T.2 c
        refine R_iload (Dat dd_X_refusalOfCells 36 rfl) rfl ?_
        obtain ⟨g10, T⟩ := T
        refine R_if_ge (Dat dd_X_refusalOfCells 37 rfl) rfl g10  (fun c => ?_) (fun c => ?_)
        · replace T := T.1 c
          refine R_aload_n (Dat dd_X_refusalOfCells 38 rfl) rfl rfl ?_
          refine R_iconst (Dat dd_X_refusalOfCells 39 rfl) ?_
          exact R_call1 (Dat dd_X_refusalOfCells 40 rfl) rfl S.t0 rfl rfl rfl rfl rfl T
        · replace T := T.2 c
          refine R_aload (Dat dd_X_refusalOfCells 42 rfl) rfl rfl ?_
          refine R_iload_n (Dat dd_X_refusalOfCells 43 rfl) rfl ?_
          refine R_iload (Dat dd_X_refusalOfCells 44 rfl) rfl ?_
          obtain ⟨g11, T⟩ := T
          exact R_call1 (Dat dd_X_refusalOfCells 45 rfl) rfl g11 rfl rfl rfl rfl rfl T
    · replace T := T.2 c
      refine R_aload (Dat dd_X_refusalOfCells 21 rfl) rfl rfl ?_
      obtain ⟨g12, T⟩ := T
      refine R_geti (Dat dd_X_refusalOfCells 22 rfl) rfl rfl (tok g12) ?_
      refine R_iload_n (Dat dd_X_refusalOfCells 23 rfl) rfl ?_
      obtain ⟨g13, T⟩ := T
      obtain ⟨g14, T⟩ := T
      refine R_ic_eq (Dat dd_X_refusalOfCells 24 rfl) rfl g13 g14 (fun c => ?_) (fun c => ?_)
      · replace T := T.1 c
        refine R_aload (Dat dd_X_refusalOfCells 29 rfl) rfl rfl ?_
        obtain ⟨g15, T⟩ := T
        refine R_geti (Dat dd_X_refusalOfCells 30 rfl) rfl rfl (tok g15) ?_
        obtain ⟨g16, T⟩ := T
        refine R_if_ne (Dat dd_X_refusalOfCells 31 rfl) rfl g16  (fun c => ?_) (fun c => ?_)
        · replace T := T.1 c
          refine R_aload_n (Dat dd_X_refusalOfCells 32 rfl) rfl rfl ?_
          refine R_iconst (Dat dd_X_refusalOfCells 33 rfl) ?_
          exact R_call1 (Dat dd_X_refusalOfCells 34 rfl) rfl S.t0 rfl rfl rfl rfl rfl T
        · replace T := T.2 c
          refine R_iload (Dat dd_X_refusalOfCells 36 rfl) rfl ?_
          obtain ⟨g17, T⟩ := T
          refine R_if_ge (Dat dd_X_refusalOfCells 37 rfl) rfl g17  (fun c => ?_) (fun c => ?_)
          · replace T := T.1 c
            refine R_aload_n (Dat dd_X_refusalOfCells 38 rfl) rfl rfl ?_
            refine R_iconst (Dat dd_X_refusalOfCells 39 rfl) ?_
            exact R_call1 (Dat dd_X_refusalOfCells 40 rfl) rfl S.t0 rfl rfl rfl rfl rfl T
          · replace T := T.2 c
            refine R_aload (Dat dd_X_refusalOfCells 42 rfl) rfl rfl ?_
            refine R_iload_n (Dat dd_X_refusalOfCells 43 rfl) rfl ?_
            refine R_iload (Dat dd_X_refusalOfCells 44 rfl) rfl ?_
            obtain ⟨g18, T⟩ := T
            exact R_call1 (Dat dd_X_refusalOfCells 45 rfl) rfl g18 rfl rfl rfl rfl rfl T
      · replace T := T.2 c
        refine R_aload_n (Dat dd_X_refusalOfCells 25 rfl) rfl rfl ?_
        refine R_iconst (Dat dd_X_refusalOfCells 26 rfl) ?_
        exact R_call1 (Dat dd_X_refusalOfCells 27 rfl) rfl S.t0 rfl rfl rfl rfl rfl T
  · replace T := T.2 c
    refine R_bipush (Dat dd_X_refusalOfCells 11 rfl) (a := (-2)) rfl ?_
    exact R_ireturn (Dat dd_X_refusalOfCells 12 rfl) rfl T
theorem t_X_refusalOfCells_68 {h : Hp} {P : Value → Hp → Prop} {s0 : Int} {a0 a1 a2 a3 a4 a5 : Value} (S : XS h) (T : P (.int (I s0)) h) : R 8 68 [a0, a1, a2, a3, a4, a5] [.int (I s0)] h P := by
  exact R_ireturn (Dat dd_X_refusalOfCells 35 rfl) rfl T
theorem t_X_refusalOfCells_79 {h : Hp} {P : Value → Hp → Prop} {s0 : Int} {a0 a1 a2 a3 a4 a5 : Value} (S : XS h) (T : P (.int (I s0)) h) : R 8 79 [a0, a1, a2, a3, a4, a5] [.int (I s0)] h P := by
  exact R_ireturn (Dat dd_X_refusalOfCells 41 rfl) rfl T
theorem t_X_refusalOfCells_88 {h : Hp} {P : Value → Hp → Prop} {s0 : Int} {a1 a2 a3 a4 a5 : Value} (S : XS h) (T : (rng s0) ∧ ((s0 = 0 → P (.int (I 0)) h) ∧ (¬ s0 = 0 → R 11 0 [.ref 0, .int (I 3)] [] h (fun v h2 => R 8 96 [.ref 0, a1, a2, a3, a4, a5] (v :: []) h2 P)))) : R 8 88 [.ref 0, a1, a2, a3, a4, a5] [.int (I s0)] h P := by
  obtain ⟨g1, T⟩ := T
  refine R_if_eq (Dat dd_X_refusalOfCells 46 rfl) rfl g1  (fun c => ?_) (fun c => ?_)
  · replace T := T.1 c
    refine R_iconst (Dat dd_X_refusalOfCells 51 rfl) ?_
    exact R_ireturn (Dat dd_X_refusalOfCells 52 rfl) rfl T
  · replace T := T.2 c
    refine R_aload_n (Dat dd_X_refusalOfCells 47 rfl) rfl rfl ?_
    refine R_iconst (Dat dd_X_refusalOfCells 48 rfl) ?_
    exact R_call1 (Dat dd_X_refusalOfCells 49 rfl) rfl S.t0 rfl rfl rfl rfl rfl T
theorem t_X_refusalOfCells_54 {h : Hp} {P : Value → Hp → Prop} {s0 : Int} {a0 a1 a2 a3 a4 a5 : Value} (S : XS h) (T : P (.int (I s0)) h) : R 8 54 [a0, a1, a2, a3, a4, a5] [.int (I s0)] h P := by
  exact R_ireturn (Dat dd_X_refusalOfCells 28 rfl) rfl T
theorem t_X_refusalOfCells_96 {h : Hp} {P : Value → Hp → Prop} {s0 : Int} {a0 a1 a2 a3 a4 a5 : Value} (S : XS h) (T : P (.int (I s0)) h) : R 8 96 [a0, a1, a2, a3, a4, a5] [.int (I s0)] h P := by
  refine R_goto (Dat dd_X_refusalOfCells 50 rfl) rfl ?_
  exact R_ireturn (Dat dd_X_refusalOfCells 52 rfl) rfl T
def dl_X_noSheet : List (Nat × Instr × Nat) := [(0, .iload_n 0, 1), (1, .ifCond .lt 8, 3), (4, .iload_n 0, 1), (5, .iconst 4, 1), (6, .if_icmp .lt 7, 3), (9, .iconst 1, 1), (10, .goto 4, 3), (13, .iconst 0, 1), (14, .ireturn, 1)]
theorem dd_X_noSheet : Dall 9 dl_X_noSheet = true := by decide +kernel
theorem t_X_noSheet {h : Hp} {P : Value → Hp → Prop} {p0 : Int} (T : (rng p0) ∧ ((p0 < 0 → P (.int (I 1)) h) ∧ (¬ p0 < 0 → (rng p0) ∧ ((p0 < 4 → P (.int (I 0)) h) ∧ (¬ p0 < 4 → P (.int (I 1)) h))))) : R 9 0 [.int (I p0)] [] h P := by
  refine R_iload_n (Dat dd_X_noSheet 0 rfl) rfl ?_
  obtain ⟨g1, T⟩ := T
  refine R_if_lt (Dat dd_X_noSheet 1 rfl) rfl g1  (fun c => ?_) (fun c => ?_)
  · replace T := T.1 c
    refine R_iconst (Dat dd_X_noSheet 5 rfl) ?_
    refine R_goto (Dat dd_X_noSheet 6 rfl) rfl ?_
    exact R_ireturn (Dat dd_X_noSheet 8 rfl) rfl T
  · replace T := T.2 c
    refine R_iload_n (Dat dd_X_noSheet 2 rfl) rfl ?_
    refine R_iconst (Dat dd_X_noSheet 3 rfl) ?_
    obtain ⟨g2, T⟩ := T
    refine R_ic_lt (Dat dd_X_noSheet 4 rfl) rfl g2 (by decide) (fun c => ?_) (fun c => ?_)
    · replace T := T.1 c
      refine R_iconst (Dat dd_X_noSheet 7 rfl) ?_
      exact R_ireturn (Dat dd_X_noSheet 8 rfl) rfl T
    · replace T := T.2 c
      refine R_iconst (Dat dd_X_noSheet 5 rfl) ?_
      refine R_goto (Dat dd_X_noSheet 6 rfl) rfl ?_
      exact R_ireturn (Dat dd_X_noSheet 8 rfl) rfl T
def dl_X_noSort : List (Nat × Instr × Nat) := [(0, .iload_n 0, 1), (1, .ifCond .lt 8, 3), (4, .iload_n 0, 1), (5, .iconst 3, 1), (6, .if_icmp .lt 7, 3), (9, .iconst 1, 1), (10, .goto 4, 3), (13, .iconst 0, 1), (14, .ireturn, 1)]
theorem dd_X_noSort : Dall 10 dl_X_noSort = true := by decide +kernel
theorem t_X_noSort {h : Hp} {P : Value → Hp → Prop} {p0 : Int} (T : (rng p0) ∧ ((p0 < 0 → P (.int (I 1)) h) ∧ (¬ p0 < 0 → (rng p0) ∧ ((p0 < 3 → P (.int (I 0)) h) ∧ (¬ p0 < 3 → P (.int (I 1)) h))))) : R 10 0 [.int (I p0)] [] h P := by
  refine R_iload_n (Dat dd_X_noSort 0 rfl) rfl ?_
  obtain ⟨g1, T⟩ := T
  refine R_if_lt (Dat dd_X_noSort 1 rfl) rfl g1  (fun c => ?_) (fun c => ?_)
  · replace T := T.1 c
    refine R_iconst (Dat dd_X_noSort 5 rfl) ?_
    refine R_goto (Dat dd_X_noSort 6 rfl) rfl ?_
    exact R_ireturn (Dat dd_X_noSort 8 rfl) rfl T
  · replace T := T.2 c
    refine R_iload_n (Dat dd_X_noSort 2 rfl) rfl ?_
    refine R_iconst (Dat dd_X_noSort 3 rfl) ?_
    obtain ⟨g2, T⟩ := T
    refine R_ic_lt (Dat dd_X_noSort 4 rfl) rfl g2 (by decide) (fun c => ?_) (fun c => ?_)
    · replace T := T.1 c
      refine R_iconst (Dat dd_X_noSort 7 rfl) ?_
      exact R_ireturn (Dat dd_X_noSort 8 rfl) rfl T
    · replace T := T.2 c
      refine R_iconst (Dat dd_X_noSort 5 rfl) ?_
      refine R_goto (Dat dd_X_noSort 6 rfl) rfl ?_
      exact R_ireturn (Dat dd_X_noSort 8 rfl) rfl T
def dl_X_faulted : List (Nat × Instr × Nat) := [(0, .aload_n 0, 1), (1, .iload_n 1, 1), (2, .putfield 266, 3), (5, .bipush (-10), 2), (7, .iload_n 1, 1), (8, .isub, 1), (9, .ireturn, 1)]
theorem dd_X_faulted : Dall 11 dl_X_faulted = true := by decide +kernel
theorem t_X_faulted {h : Hp} {P : Value → Hp → Prop} {p0 : Int} (S : XS h) (T : P (.int (I ((-10) - p0))) (setI h 0 11 (wr p0))) : R 11 0 [.ref 0, .int (I p0)] [] h P := by
  refine R_aload_n (Dat dd_X_faulted 0 rfl) rfl rfl ?_
  refine R_iload_n (Dat dd_X_faulted 1 rfl) rfl ?_
  refine R_puti (Dat dd_X_faulted 2 rfl) rfl rfl rfl (tok S.t0) rfl (v := wr p0) rfl ?_
  refine R_bipush (Dat dd_X_faulted 3 rfl) (a := (-10)) rfl ?_
  refine R_iload_n (Dat dd_X_faulted 4 rfl) rfl ?_
  refine R_isub (Dat dd_X_faulted 5 rfl) ?_
  exact R_ireturn (Dat dd_X_faulted 6 rfl) rfl T
def dl_Sheet_hasNot : List (Nat × Instr × Nat) := [(0, .iload_n 1, 1), (1, .ifCond .lt 21, 3), (4, .iload_n 1, 1), (5, .aload_n 0, 1), (6, .getfield 23, 3), (9, .if_icmp .gt 13, 3), (12, .iload_n 2, 1), (13, .aload_n 0, 1), (14, .getfield 23, 3), (17, .iload_n 1, 1), (18, .isub, 1), (19, .if_icmp .le 7, 3), (22, .iconst 1, 1), (23, .goto 4, 3), (26, .iconst 0, 1), (27, .ireturn, 1)]
theorem dd_Sheet_hasNot : Dall 12 dl_Sheet_hasNot = true := by decide +kernel
theorem t_Sheet_hasNot {h : Hp} {P : Value → Hp → Prop} {p0 p1 : Int} {r : Nat} (T : (rng p0) ∧ ((p0 < 0 → P (.int (I 1)) h) ∧ (¬ p0 < 0 → (tg h r = 10) ∧ (rng p0) ∧ (rng (iv h r 3)) ∧ (((iv h r 3) < p0 → P (.int (I 1)) h) ∧ (¬ (iv h r 3) < p0 → (tg h r = 10) ∧ (rng p1) ∧ (rng ((iv h r 3) - p0)) ∧ ((((iv h r 3) - p0) < p1 → P (.int (I 1)) h) ∧ (¬ ((iv h r 3) - p0) < p1 → P (.int (I 0)) h))))))) : R 12 0 [.ref r, .int (I p0), .int (I p1)] [] h P := by
  refine R_iload_n (Dat dd_Sheet_hasNot 0 rfl) rfl ?_
  obtain ⟨g1, T⟩ := T
  refine R_if_lt (Dat dd_Sheet_hasNot 1 rfl) rfl g1  (fun c => ?_) (fun c => ?_)
  · replace T := T.1 c
    refine R_iconst (Dat dd_Sheet_hasNot 12 rfl) ?_
    refine R_goto (Dat dd_Sheet_hasNot 13 rfl) rfl ?_
    exact R_ireturn (Dat dd_Sheet_hasNot 15 rfl) rfl T
  · replace T := T.2 c
    refine R_iload_n (Dat dd_Sheet_hasNot 2 rfl) rfl ?_
    refine R_aload_n (Dat dd_Sheet_hasNot 3 rfl) rfl rfl ?_
    obtain ⟨g2, T⟩ := T
    refine R_geti (Dat dd_Sheet_hasNot 4 rfl) rfl rfl (tok g2) ?_
    obtain ⟨g3, T⟩ := T
    obtain ⟨g4, T⟩ := T
    refine R_ic_gt (Dat dd_Sheet_hasNot 5 rfl) rfl g3 g4 (fun c => ?_) (fun c => ?_)
    · replace T := T.1 c
      refine R_iconst (Dat dd_Sheet_hasNot 12 rfl) ?_
      refine R_goto (Dat dd_Sheet_hasNot 13 rfl) rfl ?_
      exact R_ireturn (Dat dd_Sheet_hasNot 15 rfl) rfl T
    · replace T := T.2 c
      refine R_iload_n (Dat dd_Sheet_hasNot 6 rfl) rfl ?_
      refine R_aload_n (Dat dd_Sheet_hasNot 7 rfl) rfl rfl ?_
      obtain ⟨g5, T⟩ := T
      refine R_geti (Dat dd_Sheet_hasNot 8 rfl) rfl rfl (tok g5) ?_
      refine R_iload_n (Dat dd_Sheet_hasNot 9 rfl) rfl ?_
      refine R_isub (Dat dd_Sheet_hasNot 10 rfl) ?_
      obtain ⟨g6, T⟩ := T
      obtain ⟨g7, T⟩ := T
      refine R_ic_le (Dat dd_Sheet_hasNot 11 rfl) rfl g6 g7 (fun c => ?_) (fun c => ?_)
      · replace T := T.1 c
        refine R_iconst (Dat dd_Sheet_hasNot 12 rfl) ?_
        refine R_goto (Dat dd_Sheet_hasNot 13 rfl) rfl ?_
        exact R_ireturn (Dat dd_Sheet_hasNot 15 rfl) rfl T
      · replace T := T.2 c
        refine R_iconst (Dat dd_Sheet_hasNot 14 rfl) ?_
        exact R_ireturn (Dat dd_Sheet_hasNot 15 rfl) rfl T
def dl_X_wideEnough : List (Nat × Instr × Nat) := [(0, .aload_n 0, 1), (1, .arraylength, 1), (2, .iload_n 1, 1), (3, .if_icmp .ge 9, 3), (6, .iload_n 1, 1), (7, .newarray .int, 2), (9, .goto 4, 3), (12, .aload_n 0, 1), (13, .areturn, 1)]
theorem dd_X_wideEnough : Dall 23 dl_X_wideEnough = true := by decide +kernel
theorem t_X_wideEnough {h : Hp} {P : Value → Hp → Prop} {p1 : Int} {p0 : Nat} (T : ((20 ≤ tg h p0 ∧ tg h p0 ≤ 25) ∨ tg h p0 = 30) ∧ (rng (ln h p0 : Int)) ∧ (rng p1) ∧ (((ln h p0 : Int) < p1 → (tg h 38 = 0) ∧ (0 ≤ p1) ∧ (p1 < 1000000) ∧ P (.ref 38) (mk h 38 20 (p1).toNat (p1).toNat)) ∧ (¬ (ln h p0 : Int) < p1 → P (.ref p0) h))) : R 23 0 [.ref p0, .int (I p1)] [] h P := by
  refine R_aload_n (Dat dd_X_wideEnough 0 rfl) rfl rfl ?_
  obtain ⟨g1, T⟩ := T
  refine R_alen (Dat dd_X_wideEnough 1 rfl) g1 ?_
  refine R_iload_n (Dat dd_X_wideEnough 2 rfl) rfl ?_
  obtain ⟨g2, T⟩ := T
  obtain ⟨g3, T⟩ := T
  refine R_ic_ge (Dat dd_X_wideEnough 3 rfl) rfl g2 g3 (fun c => ?_) (fun c => ?_)
  · replace T := T.1 c
    refine R_iload_n (Dat dd_X_wideEnough 4 rfl) rfl ?_
    obtain ⟨g4, T⟩ := T
    obtain ⟨g5, T⟩ := T
    obtain ⟨g6, T⟩ := T
    refine R_newa (Dat dd_X_wideEnough 5 rfl) rfl (q := 38) rfl g4 (Or.inl (by decide)) g5 g6 ?_
    refine R_goto (Dat dd_X_wideEnough 6 rfl) rfl ?_
    exact R_areturn (Dat dd_X_wideEnough 8 rfl) rfl T
  · replace T := T.2 c
    refine R_aload_n (Dat dd_X_wideEnough 7 rfl) rfl rfl ?_
    exact R_areturn (Dat dd_X_wideEnough 8 rfl) rfl T
def dl_Arrays_fill : List (Nat × Instr × Nat) := [(0, .iconst 0, 1), (1, .istore_n 2, 1), (2, .aload_n 0, 1), (3, .arraylength, 1), (4, .istore_n 3, 1), (5, .iload_n 2, 1), (6, .iload_n 3, 1), (7, .if_icmp .ge 13, 3), (10, .aload_n 0, 1), (11, .iload_n 2, 1), (12, .iload_n 1, 1), (13, .iastore, 1), (14, .iinc 2 1, 3), (17, .goto (-12), 3), (20, .return_, 1)]
theorem dd_Arrays_fill : Dall 24 dl_Arrays_fill = true := by decide +kernel
theorem t_Arrays_fill {h : Hp} {P : Value → Hp → Prop} {p1 : Int} {p0 : Nat} (T : ((20 ≤ tg h p0 ∧ tg h p0 ≤ 25) ∨ tg h p0 = 30) ∧ R 24 5 [.ref p0, .int (I p1), .int (I 0), .int (I (ln h p0 : Int))] [] h P) : R 24 0 [.ref p0, .int (I p1), .retAddr 0, .retAddr 0] [] h P := by
  refine R_iconst (Dat dd_Arrays_fill 0 rfl) ?_
  refine R_istore_n (Dat dd_Arrays_fill 1 rfl) rfl rfl ?_
  refine R_aload_n (Dat dd_Arrays_fill 2 rfl) rfl rfl ?_
  obtain ⟨g1, T⟩ := T
  refine R_alen (Dat dd_Arrays_fill 3 rfl) g1 ?_
  refine R_istore_n (Dat dd_Arrays_fill 4 rfl) rfl rfl ?_
  exact T
theorem t_Arrays_fill_5 {h : Hp} {P : Value → Hp → Prop} {a1 a2 a3 : Int} {a0 : Nat} (T : (rng a2) ∧ (rng a3) ∧ ((a2 < a3 → (tg h a0 = 20) ∧ ((ln h a0 : Int) ≤ 2147483648) ∧ (0 ≤ a2) ∧ (a2 < ln h a0) ∧ R 24 5 [.ref a0, .int (I a1), .int (I (a2 + 1)), .int (I a3)] [] (setI h a0 a2 (wr a1)) P) ∧ (¬ a2 < a3 → P .null h))) : R 24 5 [.ref a0, .int (I a1), .int (I a2), .int (I a3)] [] h P := by
  refine R_iload_n (Dat dd_Arrays_fill 5 rfl) rfl ?_
  refine R_iload_n (Dat dd_Arrays_fill 6 rfl) rfl ?_
  obtain ⟨g1, T⟩ := T
  obtain ⟨g2, T⟩ := T
  refine R_ic_ge (Dat dd_Arrays_fill 7 rfl) rfl g1 g2 (fun c => ?_) (fun c => ?_)
  · replace T := T.1 c
    refine R_aload_n (Dat dd_Arrays_fill 8 rfl) rfl rfl ?_
    refine R_iload_n (Dat dd_Arrays_fill 9 rfl) rfl ?_
    refine R_iload_n (Dat dd_Arrays_fill 10 rfl) rfl ?_
    obtain ⟨g3, T⟩ := T
    obtain ⟨g4, T⟩ := T
    obtain ⟨g5, T⟩ := T
    obtain ⟨g6, T⟩ := T
    refine R_iastore (Dat dd_Arrays_fill 11 rfl) g3 g4 g5 g6 (v := wr a1) rfl ?_
    refine R_iinc (Dat dd_Arrays_fill 12 rfl) rfl rfl rfl ?_
    refine R_goto (Dat dd_Arrays_fill 13 rfl) rfl ?_
    exact T
  · replace T := T.2 c
    exact R_return (Dat dd_Arrays_fill 14 rfl) rfl T
def dl_X_widenRows : List (Nat × Instr × Nat) := [(0, .aload_n 0, 1), (1, .aload_n 0, 1), (2, .getfield 58, 3), (5, .aload_n 0, 1), (6, .getfield 12, 3), (9, .getfield 204, 3), (12, .invokestatic 324, 3), (15, .putfield 58, 3), (18, .aload_n 0, 1), (19, .aload_n 0, 1), (20, .getfield 61, 3), (23, .aload_n 0, 1), (24, .getfield 12, 3), (27, .getfield 204, 3), (30, .invokestatic 324, 3), (33, .putfield 61, 3), (36, .aload_n 0, 1), (37, .aload_n 0, 1), (38, .getfield 64, 3), (41, .aload_n 0, 1), (42, .getfield 12, 3), (45, .getfield 204, 3), (48, .invokestatic 324, 3), (51, .putfield 64, 3), (54, .aload_n 0, 1), (55, .getfield 54, 3), (58, .aload_n 0, 1), (59, .getfield 12, 3), (62, .getfield 204, 3), (65, .invokevirtual 328, 3), (68, .return_, 1)]
theorem dd_X_widenRows : Dall 25 dl_X_widenRows = true := by decide +kernel
theorem t_X_widenRows {h : Hp} {P : Value → Hp → Prop}  (S : XS h) (T : R 23 0 [.ref 24, .int (I (iv h 1 2))] [] h (fun v h2 => R 25 15 [.ref 0] (v :: [.ref 0]) h2 P)) : R 25 0 [.ref 0] [] h P := by
  refine R_aload_n (Dat dd_X_widenRows 0 rfl) rfl rfl ?_
  refine R_aload_n (Dat dd_X_widenRows 1 rfl) rfl rfl ?_
  refine R_getr (Dat dd_X_widenRows 2 rfl) rfl rfl (tok S.t0) S.f0_14 (q := 24) rfl (tnz S.t24) ?_
  refine R_aload_n (Dat dd_X_widenRows 3 rfl) rfl rfl ?_
  refine R_getr (Dat dd_X_widenRows 4 rfl) rfl rfl (tok S.t0) S.f0_0 (q := 1) rfl (tnz S.t1) ?_
  refine R_geti (Dat dd_X_widenRows 5 rfl) rfl rfl (tok S.t1) ?_
  exact R_call0 (Dat dd_X_widenRows 6 rfl) rfl rfl rfl rfl rfl rfl T
theorem t_X_widenRows_15 {h : Hp} {P : Value → Hp → Prop} {s0 : Nat} (S : XS h) (T : (s0 = 24 ∨ s0 = 38) ∧ ((s0 = 24 → (fl (setF h 0 14) 0 15 = true) ∧ (fl (setF h 0 14) 0 0 = true) ∧ R 23 0 [.ref 25, .int (I (iv (setF h 0 14) 1 2))] [] (setF h 0 14) (fun v h2 => R 25 33 [.ref 0] (v :: [.ref 0]) h2 P)) ∧ (s0 = 38 → (mv 25 && gw 24 && !gw 0 && decide (24 < 37 ∨ 38 < 24) && tg h 38 == 20 && ng [.ref 0] && ng []) = true ∧ 24 ≠ 38 ∧ (tg (mov h 0 14 24 38) 0 = 12) ∧ (fl (mov h 0 14 24 38) 0 15 = true) ∧ (tg (mov h 0 14 24 38) 25 ≠ 0) ∧ (tg (mov h 0 14 24 38) 0 = 12) ∧ (fl (mov h 0 14 24 38) 0 0 = true) ∧ (tg (mov h 0 14 24 38) 1 ≠ 0) ∧ (tg (mov h 0 14 24 38) 1 = 1) ∧ R 23 0 [.ref 25, .int (I (iv (mov h 0 14 24 38) 1 2))] [] (mov h 0 14 24 38) (fun v h2 => R 25 33 [.ref 0] (v :: [.ref 0]) h2 P)))) : R 25 15 [.ref 0] [.ref s0, .ref 0] h P := by
  obtain ⟨g1, T⟩ := T
  rcases g1 with e | e
  · replace T := T.1 e
    subst e
    refine R_putr (Dat dd_X_widenRows 7 rfl) rfl rfl rfl (tok S.t0) rfl ?_
    refine R_aload_n (Dat dd_X_widenRows 8 rfl) rfl rfl ?_
    refine R_aload_n (Dat dd_X_widenRows 9 rfl) rfl rfl ?_
    obtain ⟨g2, T⟩ := T
    refine R_getr (Dat dd_X_widenRows 10 rfl) rfl rfl (tok S.t0) g2 (q := 25) rfl (tnz S.t25) ?_
    refine R_aload_n (Dat dd_X_widenRows 11 rfl) rfl rfl ?_
    obtain ⟨g3, T⟩ := T
    refine R_getr (Dat dd_X_widenRows 12 rfl) rfl rfl (tok S.t0) g3 (q := 1) rfl (tnz S.t1) ?_
    refine R_geti (Dat dd_X_widenRows 13 rfl) rfl rfl (tok S.t1) ?_
    exact R_call0 (Dat dd_X_widenRows 14 rfl) rfl rfl rfl rfl rfl rfl T
  · replace T := T.2 e
    subst e
    obtain ⟨g4, g5, T⟩ := T
    refine R_putm (Dat dd_X_widenRows 7 rfl) rfl rfl rfl (tok S.t0) (q := 24) rfl g5 g4 ?_
    refine R_aload_n (Dat dd_X_widenRows 8 rfl) rfl rfl ?_
    refine R_aload_n (Dat dd_X_widenRows 9 rfl) rfl rfl ?_
    obtain ⟨g6, T⟩ := T
    obtain ⟨g7, T⟩ := T
    obtain ⟨g8, T⟩ := T
    refine R_getr (Dat dd_X_widenRows 10 rfl) rfl rfl (tok g6) g7 (q := 25) rfl g8 ?_
    refine R_aload_n (Dat dd_X_widenRows 11 rfl) rfl rfl ?_
    obtain ⟨g9, T⟩ := T
    obtain ⟨g10, T⟩ := T
    obtain ⟨g11, T⟩ := T
    refine R_getr (Dat dd_X_widenRows 12 rfl) rfl rfl (tok g9) g10 (q := 1) rfl g11 ?_
    obtain ⟨g12, T⟩ := T
    refine R_geti (Dat dd_X_widenRows 13 rfl) rfl rfl (tok g12) ?_
    exact R_call0 (Dat dd_X_widenRows 14 rfl) rfl rfl rfl rfl rfl rfl T
theorem t_X_widenRows_33 {h : Hp} {P : Value → Hp → Prop} {s0 : Nat} (S : XS h) (T : (s0 = 25 ∨ s0 = 38) ∧ ((s0 = 25 → (fl (setF h 0 15) 0 16 = true) ∧ (fl (setF h 0 15) 0 0 = true) ∧ R 23 0 [.ref 26, .int (I (iv (setF h 0 15) 1 2))] [] (setF h 0 15) (fun v h2 => R 25 51 [.ref 0] (v :: [.ref 0]) h2 P)) ∧ (s0 = 38 → (mv 25 && gw 25 && !gw 0 && decide (25 < 37 ∨ 38 < 25) && tg h 38 == 20 && ng [.ref 0] && ng []) = true ∧ 25 ≠ 38 ∧ (tg (mov h 0 15 25 38) 0 = 12) ∧ (fl (mov h 0 15 25 38) 0 16 = true) ∧ (tg (mov h 0 15 25 38) 26 ≠ 0) ∧ (tg (mov h 0 15 25 38) 0 = 12) ∧ (fl (mov h 0 15 25 38) 0 0 = true) ∧ (tg (mov h 0 15 25 38) 1 ≠ 0) ∧ (tg (mov h 0 15 25 38) 1 = 1) ∧ R 23 0 [.ref 26, .int (I (iv (mov h 0 15 25 38) 1 2))] [] (mov h 0 15 25 38) (fun v h2 => R 25 51 [.ref 0] (v :: [.ref 0]) h2 P)))) : R 25 33 [.ref 0] [.ref s0, .ref 0] h P := by
  obtain ⟨g1, T⟩ := T
  rcases g1 with e | e
  · replace T := T.1 e
    subst e
    refine R_putr (Dat dd_X_widenRows 15 rfl) rfl rfl rfl (tok S.t0) rfl ?_
    refine R_aload_n (Dat dd_X_widenRows 16 rfl) rfl rfl ?_
    refine R_aload_n (Dat dd_X_widenRows 17 rfl) rfl rfl ?_
    obtain ⟨g2, T⟩ := T
    refine R_getr (Dat dd_X_widenRows 18 rfl) rfl rfl (tok S.t0) g2 (q := 26) rfl (tnz S.t26) ?_
    refine R_aload_n (Dat dd_X_widenRows 19 rfl) rfl rfl ?_
    obtain ⟨g3, T⟩ := T
    refine R_getr (Dat dd_X_widenRows 20 rfl) rfl rfl (tok S.t0) g3 (q := 1) rfl (tnz S.t1) ?_
    refine R_geti (Dat dd_X_widenRows 21 rfl) rfl rfl (tok S.t1) ?_
    exact R_call0 (Dat dd_X_widenRows 22 rfl) rfl rfl rfl rfl rfl rfl T
  · replace T := T.2 e
    subst e
    obtain ⟨g4, g5, T⟩ := T
    refine R_putm (Dat dd_X_widenRows 15 rfl) rfl rfl rfl (tok S.t0) (q := 25) rfl g5 g4 ?_
    refine R_aload_n (Dat dd_X_widenRows 16 rfl) rfl rfl ?_
    refine R_aload_n (Dat dd_X_widenRows 17 rfl) rfl rfl ?_
    obtain ⟨g6, T⟩ := T
    obtain ⟨g7, T⟩ := T
    obtain ⟨g8, T⟩ := T
    refine R_getr (Dat dd_X_widenRows 18 rfl) rfl rfl (tok g6) g7 (q := 26) rfl g8 ?_
    refine R_aload_n (Dat dd_X_widenRows 19 rfl) rfl rfl ?_
    obtain ⟨g9, T⟩ := T
    obtain ⟨g10, T⟩ := T
    obtain ⟨g11, T⟩ := T
    refine R_getr (Dat dd_X_widenRows 20 rfl) rfl rfl (tok g9) g10 (q := 1) rfl g11 ?_
    obtain ⟨g12, T⟩ := T
    refine R_geti (Dat dd_X_widenRows 21 rfl) rfl rfl (tok g12) ?_
    exact R_call0 (Dat dd_X_widenRows 22 rfl) rfl rfl rfl rfl rfl rfl T
theorem t_X_widenRows_51 {h : Hp} {P : Value → Hp → Prop} {s0 : Nat} (S : XS h) (T : (s0 = 26 ∨ s0 = 38) ∧ ((s0 = 26 → (fl (setF h 0 16) 0 13 = true) ∧ (fl (setF h 0 16) 0 0 = true) ∧ R 26 0 [.ref 19, .int (I (iv (setF h 0 16) 1 2))] [] (setF h 0 16) (fun _ h2 => R 25 68 [.ref 0] [] h2 P)) ∧ (s0 = 38 → (mv 25 && gw 26 && !gw 0 && decide (26 < 37 ∨ 38 < 26) && tg h 38 == 20 && ng [.ref 0] && ng []) = true ∧ 26 ≠ 38 ∧ (tg (mov h 0 16 26 38) 0 = 12) ∧ (fl (mov h 0 16 26 38) 0 13 = true) ∧ (tg (mov h 0 16 26 38) 19 ≠ 0) ∧ (tg (mov h 0 16 26 38) 0 = 12) ∧ (fl (mov h 0 16 26 38) 0 0 = true) ∧ (tg (mov h 0 16 26 38) 1 ≠ 0) ∧ (tg (mov h 0 16 26 38) 1 = 1) ∧ (tg (mov h 0 16 26 38) 19 = 9) ∧ R 26 0 [.ref 19, .int (I (iv (mov h 0 16 26 38) 1 2))] [] (mov h 0 16 26 38) (fun _ h2 => R 25 68 [.ref 0] [] h2 P)))) : R 25 51 [.ref 0] [.ref s0, .ref 0] h P := by
  obtain ⟨g1, T⟩ := T
  rcases g1 with e | e
  · replace T := T.1 e
    subst e
    refine R_putr (Dat dd_X_widenRows 23 rfl) rfl rfl rfl (tok S.t0) rfl ?_
    refine R_aload_n (Dat dd_X_widenRows 24 rfl) rfl rfl ?_
    obtain ⟨g2, T⟩ := T
    refine R_getr (Dat dd_X_widenRows 25 rfl) rfl rfl (tok S.t0) g2 (q := 19) rfl (tnz S.t19) ?_
    refine R_aload_n (Dat dd_X_widenRows 26 rfl) rfl rfl ?_
    obtain ⟨g3, T⟩ := T
    refine R_getr (Dat dd_X_widenRows 27 rfl) rfl rfl (tok S.t0) g3 (q := 1) rfl (tnz S.t1) ?_
    refine R_geti (Dat dd_X_widenRows 28 rfl) rfl rfl (tok S.t1) ?_
    exact R_call1 (Dat dd_X_widenRows 29 rfl) rfl S.t19 rfl rfl rfl rfl rfl T
  · replace T := T.2 e
    subst e
    obtain ⟨g4, g5, T⟩ := T
    refine R_putm (Dat dd_X_widenRows 23 rfl) rfl rfl rfl (tok S.t0) (q := 26) rfl g5 g4 ?_
    refine R_aload_n (Dat dd_X_widenRows 24 rfl) rfl rfl ?_
    obtain ⟨g6, T⟩ := T
    obtain ⟨g7, T⟩ := T
    obtain ⟨g8, T⟩ := T
    refine R_getr (Dat dd_X_widenRows 25 rfl) rfl rfl (tok g6) g7 (q := 19) rfl g8 ?_
    refine R_aload_n (Dat dd_X_widenRows 26 rfl) rfl rfl ?_
    obtain ⟨g9, T⟩ := T
    obtain ⟨g10, T⟩ := T
    obtain ⟨g11, T⟩ := T
    refine R_getr (Dat dd_X_widenRows 27 rfl) rfl rfl (tok g9) g10 (q := 1) rfl g11 ?_
    obtain ⟨g12, T⟩ := T
    refine R_geti (Dat dd_X_widenRows 28 rfl) rfl rfl (tok g12) ?_
    obtain ⟨g13, T⟩ := T
    exact R_call1 (Dat dd_X_widenRows 29 rfl) rfl g13 rfl rfl rfl rfl rfl T
theorem t_X_widenRows_68 {h : Hp} {P : Value → Hp → Prop} {a0 : Value} (S : XS h) (T : P .null h) : R 25 68 [a0] [] h P := by
  exact R_return (Dat dd_X_widenRows 30 rfl) rfl T
def dl_Search_widen : List (Nat × Instr × Nat) := [(0, .aload_n 0, 1), (1, .aload_n 0, 1), (2, .getfield 9, 3), (5, .iload_n 1, 1), (6, .invokestatic 24, 3), (9, .putfield 9, 3), (12, .aload_n 0, 1), (13, .aload_n 0, 1), (14, .getfield 15, 3), (17, .iload_n 1, 1), (18, .invokestatic 24, 3), (21, .putfield 15, 3), (24, .aload_n 0, 1), (25, .aload_n 0, 1), (26, .getfield 18, 3), (29, .iload_n 1, 1), (30, .invokestatic 24, 3), (33, .putfield 18, 3), (36, .aload_n 0, 1), (37, .aload_n 0, 1), (38, .getfield 21, 3), (41, .iload_n 1, 1), (42, .invokestatic 24, 3), (45, .putfield 21, 3), (48, .return_, 1)]
theorem dd_Search_widen : Dall 26 dl_Search_widen = true := by decide +kernel
theorem t_Search_widen {h : Hp} {P : Value → Hp → Prop} {p0 : Int} (S : XS h) (T : R 23 0 [.ref 20, .int (I p0)] [] h (fun v h2 => R 26 9 [.ref 19, .int (I p0)] (v :: [.ref 19]) h2 P)) : R 26 0 [.ref 19, .int (I p0)] [] h P := by
  refine R_aload_n (Dat dd_Search_widen 0 rfl) rfl rfl ?_
  refine R_aload_n (Dat dd_Search_widen 1 rfl) rfl rfl ?_
  refine R_getr (Dat dd_Search_widen 2 rfl) rfl rfl (tok S.t19) S.f19_0 (q := 20) rfl (tnz S.t20) ?_
  refine R_iload_n (Dat dd_Search_widen 3 rfl) rfl ?_
  exact R_call3 (Dat dd_Search_widen 4 rfl) rfl rfl rfl rfl rfl rfl T
theorem t_Search_widen_9 {h : Hp} {P : Value → Hp → Prop} {a1 : Int} {s0 : Nat} (S : XS h) (T : (s0 = 20 ∨ s0 = 38) ∧ ((s0 = 20 → (fl (setF h 19 0) 19 1 = true) ∧ R 23 0 [.ref 21, .int (I a1)] [] (setF h 19 0) (fun v h2 => R 26 21 [.ref 19, .int (I a1)] (v :: [.ref 19]) h2 P)) ∧ (s0 = 38 → (mv 26 && gw 20 && !gw 19 && decide (20 < 37 ∨ 38 < 20) && tg h 38 == 20 && ng [.ref 19, .int (I a1)] && ng []) = true ∧ 20 ≠ 38 ∧ (tg (mov h 19 0 20 38) 19 = 9) ∧ (fl (mov h 19 0 20 38) 19 1 = true) ∧ (tg (mov h 19 0 20 38) 21 ≠ 0) ∧ R 23 0 [.ref 21, .int (I a1)] [] (mov h 19 0 20 38) (fun v h2 => R 26 21 [.ref 19, .int (I a1)] (v :: [.ref 19]) h2 P)))) : R 26 9 [.ref 19, .int (I a1)] [.ref s0, .ref 19] h P := by
  obtain ⟨g1, T⟩ := T
  rcases g1 with e | e
  · replace T := T.1 e
    subst e
    refine R_putr (Dat dd_Search_widen 5 rfl) rfl rfl rfl (tok S.t19) rfl ?_
    refine R_aload_n (Dat dd_Search_widen 6 rfl) rfl rfl ?_
    refine R_aload_n (Dat dd_Search_widen 7 rfl) rfl rfl ?_
    obtain ⟨g2, T⟩ := T
    refine R_getr (Dat dd_Search_widen 8 rfl) rfl rfl (tok S.t19) g2 (q := 21) rfl (tnz S.t21) ?_
    refine R_iload_n (Dat dd_Search_widen 9 rfl) rfl ?_
    exact R_call3 (Dat dd_Search_widen 10 rfl) rfl rfl rfl rfl rfl rfl T
  · replace T := T.2 e
    subst e
    obtain ⟨g3, g4, T⟩ := T
    refine R_putm (Dat dd_Search_widen 5 rfl) rfl rfl rfl (tok S.t19) (q := 20) rfl g4 g3 ?_
    refine R_aload_n (Dat dd_Search_widen 6 rfl) rfl rfl ?_
    refine R_aload_n (Dat dd_Search_widen 7 rfl) rfl rfl ?_
    obtain ⟨g5, T⟩ := T
    obtain ⟨g6, T⟩ := T
    obtain ⟨g7, T⟩ := T
    refine R_getr (Dat dd_Search_widen 8 rfl) rfl rfl (tok g5) g6 (q := 21) rfl g7 ?_
    refine R_iload_n (Dat dd_Search_widen 9 rfl) rfl ?_
    exact R_call3 (Dat dd_Search_widen 10 rfl) rfl rfl rfl rfl rfl rfl T
theorem t_Search_widen_21 {h : Hp} {P : Value → Hp → Prop} {a1 : Int} {s0 : Nat} (S : XS h) (T : (s0 = 21 ∨ s0 = 38) ∧ ((s0 = 21 → (fl (setF h 19 1) 19 2 = true) ∧ R 23 0 [.ref 22, .int (I a1)] [] (setF h 19 1) (fun v h2 => R 26 33 [.ref 19, .int (I a1)] (v :: [.ref 19]) h2 P)) ∧ (s0 = 38 → (mv 26 && gw 21 && !gw 19 && decide (21 < 37 ∨ 38 < 21) && tg h 38 == 20 && ng [.ref 19, .int (I a1)] && ng []) = true ∧ 21 ≠ 38 ∧ (tg (mov h 19 1 21 38) 19 = 9) ∧ (fl (mov h 19 1 21 38) 19 2 = true) ∧ (tg (mov h 19 1 21 38) 22 ≠ 0) ∧ R 23 0 [.ref 22, .int (I a1)] [] (mov h 19 1 21 38) (fun v h2 => R 26 33 [.ref 19, .int (I a1)] (v :: [.ref 19]) h2 P)))) : R 26 21 [.ref 19, .int (I a1)] [.ref s0, .ref 19] h P := by
  obtain ⟨g1, T⟩ := T
  rcases g1 with e | e
  · replace T := T.1 e
    subst e
    refine R_putr (Dat dd_Search_widen 11 rfl) rfl rfl rfl (tok S.t19) rfl ?_
    refine R_aload_n (Dat dd_Search_widen 12 rfl) rfl rfl ?_
    refine R_aload_n (Dat dd_Search_widen 13 rfl) rfl rfl ?_
    obtain ⟨g2, T⟩ := T
    refine R_getr (Dat dd_Search_widen 14 rfl) rfl rfl (tok S.t19) g2 (q := 22) rfl (tnz S.t22) ?_
    refine R_iload_n (Dat dd_Search_widen 15 rfl) rfl ?_
    exact R_call3 (Dat dd_Search_widen 16 rfl) rfl rfl rfl rfl rfl rfl T
  · replace T := T.2 e
    subst e
    obtain ⟨g3, g4, T⟩ := T
    refine R_putm (Dat dd_Search_widen 11 rfl) rfl rfl rfl (tok S.t19) (q := 21) rfl g4 g3 ?_
    refine R_aload_n (Dat dd_Search_widen 12 rfl) rfl rfl ?_
    refine R_aload_n (Dat dd_Search_widen 13 rfl) rfl rfl ?_
    obtain ⟨g5, T⟩ := T
    obtain ⟨g6, T⟩ := T
    obtain ⟨g7, T⟩ := T
    refine R_getr (Dat dd_Search_widen 14 rfl) rfl rfl (tok g5) g6 (q := 22) rfl g7 ?_
    refine R_iload_n (Dat dd_Search_widen 15 rfl) rfl ?_
    exact R_call3 (Dat dd_Search_widen 16 rfl) rfl rfl rfl rfl rfl rfl T
theorem t_Search_widen_33 {h : Hp} {P : Value → Hp → Prop} {a1 : Int} {s0 : Nat} (S : XS h) (T : (s0 = 22 ∨ s0 = 38) ∧ ((s0 = 22 → (fl (setF h 19 2) 19 3 = true) ∧ R 23 0 [.ref 23, .int (I a1)] [] (setF h 19 2) (fun v h2 => R 26 45 [.ref 19, .int (I a1)] (v :: [.ref 19]) h2 P)) ∧ (s0 = 38 → (mv 26 && gw 22 && !gw 19 && decide (22 < 37 ∨ 38 < 22) && tg h 38 == 20 && ng [.ref 19, .int (I a1)] && ng []) = true ∧ 22 ≠ 38 ∧ (tg (mov h 19 2 22 38) 19 = 9) ∧ (fl (mov h 19 2 22 38) 19 3 = true) ∧ (tg (mov h 19 2 22 38) 23 ≠ 0) ∧ R 23 0 [.ref 23, .int (I a1)] [] (mov h 19 2 22 38) (fun v h2 => R 26 45 [.ref 19, .int (I a1)] (v :: [.ref 19]) h2 P)))) : R 26 33 [.ref 19, .int (I a1)] [.ref s0, .ref 19] h P := by
  obtain ⟨g1, T⟩ := T
  rcases g1 with e | e
  · replace T := T.1 e
    subst e
    refine R_putr (Dat dd_Search_widen 17 rfl) rfl rfl rfl (tok S.t19) rfl ?_
    refine R_aload_n (Dat dd_Search_widen 18 rfl) rfl rfl ?_
    refine R_aload_n (Dat dd_Search_widen 19 rfl) rfl rfl ?_
    obtain ⟨g2, T⟩ := T
    refine R_getr (Dat dd_Search_widen 20 rfl) rfl rfl (tok S.t19) g2 (q := 23) rfl (tnz S.t23) ?_
    refine R_iload_n (Dat dd_Search_widen 21 rfl) rfl ?_
    exact R_call3 (Dat dd_Search_widen 22 rfl) rfl rfl rfl rfl rfl rfl T
  · replace T := T.2 e
    subst e
    obtain ⟨g3, g4, T⟩ := T
    refine R_putm (Dat dd_Search_widen 17 rfl) rfl rfl rfl (tok S.t19) (q := 22) rfl g4 g3 ?_
    refine R_aload_n (Dat dd_Search_widen 18 rfl) rfl rfl ?_
    refine R_aload_n (Dat dd_Search_widen 19 rfl) rfl rfl ?_
    obtain ⟨g5, T⟩ := T
    obtain ⟨g6, T⟩ := T
    obtain ⟨g7, T⟩ := T
    refine R_getr (Dat dd_Search_widen 20 rfl) rfl rfl (tok g5) g6 (q := 23) rfl g7 ?_
    refine R_iload_n (Dat dd_Search_widen 21 rfl) rfl ?_
    exact R_call3 (Dat dd_Search_widen 22 rfl) rfl rfl rfl rfl rfl rfl T
theorem t_Search_widen_45 {h : Hp} {P : Value → Hp → Prop} {s0 : Nat} {a0 a1 : Value} (S : XS h) (T : (s0 = 23 ∨ s0 = 38) ∧ ((s0 = 23 → P .null (setF h 19 3)) ∧ (s0 = 38 → (mv 26 && gw 23 && !gw 19 && decide (23 < 37 ∨ 38 < 23) && tg h 38 == 20 && ng [a0, a1] && ng []) = true ∧ 23 ≠ 38 ∧ P .null (mov h 19 3 23 38)))) : R 26 45 [a0, a1] [.ref s0, .ref 19] h P := by
  obtain ⟨g1, T⟩ := T
  rcases g1 with e | e
  · replace T := T.1 e
    subst e
    refine R_putr (Dat dd_Search_widen 23 rfl) rfl rfl rfl (tok S.t19) rfl ?_
    exact R_return (Dat dd_Search_widen 24 rfl) rfl T
  · replace T := T.2 e
    subst e
    obtain ⟨g2, g3, T⟩ := T
    refine R_putm (Dat dd_Search_widen 23 rfl) rfl rfl rfl (tok S.t19) (q := 23) rfl g3 g2 ?_
    exact R_return (Dat dd_Search_widen 24 rfl) rfl T
def dl_X_ofGrain : List (Nat × Instr × Nat) := [(0, .aload_n 0, 1), (1, .iload_n 1, 1), (2, .invokevirtual 99, 3), (5, .ifCond .eq 5, 3), (8, .iconst (-1), 1), (9, .ireturn, 1), (10, .aload_n 0, 1), (11, .getfield 12, 3), (14, .getfield 103, 3), (17, .iload_n 1, 1), (18, .aaload, 1), (19, .astore_n 3, 1), (20, .iload_n 2, 1), (21, .tableswitch 84 0 5 #[39, 44, 49, 54, 59, 64], 39), (60, .aload_n 3, 1), (61, .getfield 107, 3), (64, .ireturn, 1), (65, .aload_n 3, 1), (66, .getfield 112, 3), (69, .ireturn, 1), (70, .aload_n 3, 1), (71, .getfield 115, 3), (74, .ireturn, 1), (75, .aload_n 3, 1), (76, .getfield 118, 3), (79, .ireturn, 1), (80, .aload_n 3, 1), (81, .getfield 121, 3), (84, .ireturn, 1), (85, .aload_n 0, 1), (86, .getfield 12, 3), (89, .iload_n 1, 1), (90, .aload_n 0, 1), (91, .getfield 12, 3), (94, .aload_n 0, 1), (95, .getfield 86, 3), (98, .invokevirtual 124, 3), (101, .invokevirtual 128, 3), (104, .ireturn, 1), (105, .bipush (-2), 2), (107, .ireturn, 1)]
theorem dd_X_ofGrain : Dall 27 dl_X_ofGrain = true := by decide +kernel
theorem t_X_ofGrain {h : Hp} {P : Value → Hp → Prop} {p0 p1 : Int} (S : XS h) (T : R 28 0 [.ref 0, .int (I p0)] [] h (fun v h2 => R 27 5 [.ref 0, .int (I p0), .int (I p1), .retAddr 0] (v :: []) h2 P)) : R 27 0 [.ref 0, .int (I p0), .int (I p1), .retAddr 0] [] h P := by
  refine R_aload_n (Dat dd_X_ofGrain 0 rfl) rfl rfl ?_
  refine R_iload_n (Dat dd_X_ofGrain 1 rfl) rfl ?_
  exact R_call1 (Dat dd_X_ofGrain 2 rfl) rfl S.t0 rfl rfl rfl rfl rfl T
theorem t_X_ofGrain_5 {h : Hp} {P : Value → Hp → Prop} {a1 a2 s0 : Int} {a3 : Value} (S : XS h) (T : (rng s0) ∧ ((s0 = 0 → (0 ≤ a1) ∧ (a1 < 7) ∧ (fl h 2 (a1).toNat = true) ∧ (tg h (child 2 (a1).toNat) ≠ 0) ∧ (rng a2) ∧ (((a2 = 0 → (tagok 2 (tg h (child 2 (a1).toNat)) = true) ∧ P (.int (I (iv h (child 2 (a1).toNat) 1))) h) ∧ (a2 = 1 → (tagok 2 (tg h (child 2 (a1).toNat)) = true) ∧ P (.int (I (iv h (child 2 (a1).toNat) 2))) h) ∧ (a2 = 2 → (tagok 2 (tg h (child 2 (a1).toNat)) = true) ∧ P (.int (I (iv h (child 2 (a1).toNat) 3))) h) ∧ (a2 = 3 → (tagok 2 (tg h (child 2 (a1).toNat)) = true) ∧ P (.int (I (iv h (child 2 (a1).toNat) 4))) h) ∧ (a2 = 4 → (tagok 2 (tg h (child 2 (a1).toNat)) = true) ∧ P (.int (I (iv h (child 2 (a1).toNat) 5))) h) ∧ (a2 = 5 → R 29 0 [.ref 1, .int (I (iv h 0 4))] [] h (fun v h2 => R 27 101 [.ref 0, .int (I a1), .int (I a2), .ref (child 2 (a1).toNat)] (v :: [.int (I a1), .ref 1]) h2 P))) ∧ (a2 < 0 ∨ 5 < a2 → P (.int (I (-2))) h))) ∧ (¬ s0 = 0 → P (.int (I (-1))) h))) : R 27 5 [.ref 0, .int (I a1), .int (I a2), a3] [.int (I s0)] h P := by
  obtain ⟨g1, T⟩ := T
  refine R_if_eq (Dat dd_X_ofGrain 3 rfl) rfl g1  (fun c => ?_) (fun c => ?_)
  · replace T := T.1 c
    refine R_aload_n (Dat dd_X_ofGrain 6 rfl) rfl rfl ?_
    refine R_getr (Dat dd_X_ofGrain 7 rfl) rfl rfl (tok S.t0) S.f0_0 (q := 1) rfl (tnz S.t1) ?_
    refine R_getr (Dat dd_X_ofGrain 8 rfl) rfl rfl (tok S.t1) S.f1_0 (q := 2) rfl (tnz S.t2) ?_
    refine R_iload_n (Dat dd_X_ofGrain 9 rfl) rfl ?_
    obtain ⟨g2, T⟩ := T
    obtain ⟨g3, T⟩ := T
    obtain ⟨g4, T⟩ := T
    obtain ⟨g5, T⟩ := T
    refine R_aaload (Dat dd_X_ofGrain 10 rfl) (by rw [show tg h 2 = 21 from S.t2]; decide) (lnle (show ln h 2 = 7 from S.l2) (by decide)) g2 (lnlt (show ln h 2 = 7 from S.l2) g3) g4 rfl g5 ?_
    refine R_astore_n (Dat dd_X_ofGrain 11 rfl) rfl rfl rfl ?_
    refine R_iload_n (Dat dd_X_ofGrain 12 rfl) rfl ?_
    obtain ⟨g6, T⟩ := T
    refine R_tsw (lo := 0) (hi := 5) (Dat dd_X_ofGrain 13 rfl) (td := 105) (ts := [60, 65, 70, 75, 80, 85]) g6 rfl rfl rfl rfl (fun i hi hc => ?_) (fun c => ?_)
    · obtain ⟨T, -⟩ := T
      have hi : i < 6 := hi
      rcases (show i = 0 ∨ i = 1 ∨ i = 2 ∨ i = 3 ∨ i = 4 ∨ i = 5 by omega) with rfl | rfl | rfl | rfl | rfl | rfl
      · replace T := T.1 (by exact hc)
        refine R_aload_n (Dat dd_X_ofGrain 14 rfl) rfl rfl ?_
        obtain ⟨g7, T⟩ := T
        refine R_geti (Dat dd_X_ofGrain 15 rfl) rfl rfl g7 ?_
        exact R_ireturn (Dat dd_X_ofGrain 16 rfl) rfl T
      · replace T := T.2.1 (by exact hc)
        refine R_aload_n (Dat dd_X_ofGrain 17 rfl) rfl rfl ?_
        obtain ⟨g8, T⟩ := T
        refine R_geti (Dat dd_X_ofGrain 18 rfl) rfl rfl g8 ?_
        exact R_ireturn (Dat dd_X_ofGrain 19 rfl) rfl T
      · replace T := T.2.2.1 (by exact hc)
        refine R_aload_n (Dat dd_X_ofGrain 20 rfl) rfl rfl ?_
        obtain ⟨g9, T⟩ := T
        refine R_geti (Dat dd_X_ofGrain 21 rfl) rfl rfl g9 ?_
        exact R_ireturn (Dat dd_X_ofGrain 22 rfl) rfl T
      · replace T := T.2.2.2.1 (by exact hc)
        refine R_aload_n (Dat dd_X_ofGrain 23 rfl) rfl rfl ?_
        obtain ⟨g10, T⟩ := T
        refine R_geti (Dat dd_X_ofGrain 24 rfl) rfl rfl g10 ?_
        exact R_ireturn (Dat dd_X_ofGrain 25 rfl) rfl T
      · replace T := T.2.2.2.2.1 (by exact hc)
        refine R_aload_n (Dat dd_X_ofGrain 26 rfl) rfl rfl ?_
        obtain ⟨g11, T⟩ := T
        refine R_geti (Dat dd_X_ofGrain 27 rfl) rfl rfl g11 ?_
        exact R_ireturn (Dat dd_X_ofGrain 28 rfl) rfl T
      · replace T := T.2.2.2.2.2 (by exact hc)
        refine R_aload_n (Dat dd_X_ofGrain 29 rfl) rfl rfl ?_
        refine R_getr (Dat dd_X_ofGrain 30 rfl) rfl rfl (tok S.t0) S.f0_0 (q := 1) rfl (tnz S.t1) ?_
        refine R_iload_n (Dat dd_X_ofGrain 31 rfl) rfl ?_
        refine R_aload_n (Dat dd_X_ofGrain 32 rfl) rfl rfl ?_
        refine R_getr (Dat dd_X_ofGrain 33 rfl) rfl rfl (tok S.t0) S.f0_0 (q := 1) rfl (tnz S.t1) ?_
        refine R_aload_n (Dat dd_X_ofGrain 34 rfl) rfl rfl ?_
        refine R_geti (Dat dd_X_ofGrain 35 rfl) rfl rfl (tok S.t0) ?_
        exact R_call1 (Dat dd_X_ofGrain 36 rfl) rfl S.t1 rfl rfl rfl rfl rfl T
    · replace T := T.2 c
      refine R_bipush (Dat dd_X_ofGrain 39 rfl) (a := (-2)) rfl ?_
      exact R_ireturn (Dat dd_X_ofGrain 40 rfl) rfl T
  · replace T := T.2 c
    refine R_iconst (Dat dd_X_ofGrain 4 rfl) ?_
    exact R_ireturn (Dat dd_X_ofGrain 5 rfl) rfl T
theorem t_X_ofGrain_101 {h : Hp} {P : Value → Hp → Prop} {s0 s1 : Int} {a0 a1 a2 a3 : Value} (S : XS h) (T : R 31 0 [.ref 1, .int (I s1), .int (I s0), .retAddr 0] [] h (fun v h2 => R 27 104 [a0, a1, a2, a3] (v :: []) h2 P)) : R 27 101 [a0, a1, a2, a3] [.int (I s0), .int (I s1), .ref 1] h P := by
  exact R_call1 (Dat dd_X_ofGrain 37 rfl) rfl S.t1 rfl rfl rfl rfl rfl T
theorem t_X_ofGrain_104 {h : Hp} {P : Value → Hp → Prop} {s0 : Int} {a0 a1 a2 a3 : Value} (S : XS h) (T : P (.int (I s0)) h) : R 27 104 [a0, a1, a2, a3] [.int (I s0)] h P := by
  exact R_ireturn (Dat dd_X_ofGrain 38 rfl) rfl T
def dl_X_noGrain : List (Nat × Instr × Nat) := [(0, .iload_n 1, 1), (1, .ifCond .lt 14, 3), (4, .iload_n 1, 1), (5, .aload_n 0, 1), (6, .getfield 12, 3), (9, .getfield 96, 3), (12, .if_icmp .lt 7, 3), (15, .iconst 1, 1), (16, .goto 4, 3), (19, .iconst 0, 1), (20, .ireturn, 1)]
theorem dd_X_noGrain : Dall 28 dl_X_noGrain = true := by decide +kernel
theorem t_X_noGrain {h : Hp} {P : Value → Hp → Prop} {p0 : Int} (S : XS h) (T : (rng p0) ∧ ((p0 < 0 → P (.int (I 1)) h) ∧ (¬ p0 < 0 → (rng p0) ∧ (rng (iv h 1 1)) ∧ ((p0 < (iv h 1 1) → P (.int (I 0)) h) ∧ (¬ p0 < (iv h 1 1) → P (.int (I 1)) h))))) : R 28 0 [.ref 0, .int (I p0)] [] h P := by
  refine R_iload_n (Dat dd_X_noGrain 0 rfl) rfl ?_
  obtain ⟨g1, T⟩ := T
  refine R_if_lt (Dat dd_X_noGrain 1 rfl) rfl g1  (fun c => ?_) (fun c => ?_)
  · replace T := T.1 c
    refine R_iconst (Dat dd_X_noGrain 7 rfl) ?_
    refine R_goto (Dat dd_X_noGrain 8 rfl) rfl ?_
    exact R_ireturn (Dat dd_X_noGrain 10 rfl) rfl T
  · replace T := T.2 c
    refine R_iload_n (Dat dd_X_noGrain 2 rfl) rfl ?_
    refine R_aload_n (Dat dd_X_noGrain 3 rfl) rfl rfl ?_
    refine R_getr (Dat dd_X_noGrain 4 rfl) rfl rfl (tok S.t0) S.f0_0 (q := 1) rfl (tnz S.t1) ?_
    refine R_geti (Dat dd_X_noGrain 5 rfl) rfl rfl (tok S.t1) ?_
    obtain ⟨g2, T⟩ := T
    obtain ⟨g3, T⟩ := T
    refine R_ic_lt (Dat dd_X_noGrain 6 rfl) rfl g2 g3 (fun c => ?_) (fun c => ?_)
    · replace T := T.1 c
      refine R_iconst (Dat dd_X_noGrain 9 rfl) ?_
      exact R_ireturn (Dat dd_X_noGrain 10 rfl) rfl T
    · replace T := T.2 c
      refine R_iconst (Dat dd_X_noGrain 7 rfl) ?_
      refine R_goto (Dat dd_X_noGrain 8 rfl) rfl ?_
      exact R_ireturn (Dat dd_X_noGrain 10 rfl) rfl T
def dl_X_at : List (Nat × Instr × Nat) := [(0, .aload_n 0, 1), (1, .iload_n 1, 1), (2, .invokevirtual 132, 3), (5, .ifCond .eq 7, 3), (8, .iconst (-1), 1), (9, .goto 18, 3), (12, .aload_n 0, 1), (13, .getfield 12, 3), (16, .aload_n 0, 1), (17, .getfield 86, 3), (20, .invokevirtual 124, 3), (23, .iload_n 1, 1), (24, .invokestatic 135, 3), (27, .ireturn, 1)]
theorem dd_X_at : Dall 33 dl_X_at = true := by decide +kernel
theorem t_X_at {h : Hp} {P : Value → Hp → Prop} {p0 : Int} (S : XS h) (T : R 34 0 [.ref 0, .int (I p0)] [] h (fun v h2 => R 33 5 [.ref 0, .int (I p0)] (v :: []) h2 P)) : R 33 0 [.ref 0, .int (I p0)] [] h P := by
  refine R_aload_n (Dat dd_X_at 0 rfl) rfl rfl ?_
  refine R_iload_n (Dat dd_X_at 1 rfl) rfl ?_
  exact R_call1 (Dat dd_X_at 2 rfl) rfl S.t0 rfl rfl rfl rfl rfl T
theorem t_X_at_5 {h : Hp} {P : Value → Hp → Prop} {a1 s0 : Int} (S : XS h) (T : (rng s0) ∧ ((s0 = 0 → R 29 0 [.ref 1, .int (I (iv h 0 4))] [] h (fun v h2 => R 33 23 [.ref 0, .int (I a1)] (v :: []) h2 P)) ∧ (¬ s0 = 0 → P (.int (I (-1))) h))) : R 33 5 [.ref 0, .int (I a1)] [.int (I s0)] h P := by
  obtain ⟨g1, T⟩ := T
  refine R_if_eq (Dat dd_X_at 3 rfl) rfl g1  (fun c => ?_) (fun c => ?_)
  · replace T := T.1 c
    refine R_aload_n (Dat dd_X_at 6 rfl) rfl rfl ?_
    refine R_getr (Dat dd_X_at 7 rfl) rfl rfl (tok S.t0) S.f0_0 (q := 1) rfl (tnz S.t1) ?_
    refine R_aload_n (Dat dd_X_at 8 rfl) rfl rfl ?_
    refine R_geti (Dat dd_X_at 9 rfl) rfl rfl (tok S.t0) ?_
    exact R_call1 (Dat dd_X_at 10 rfl) rfl S.t1 rfl rfl rfl rfl rfl T
  · replace T := T.2 c
    refine R_iconst (Dat dd_X_at 4 rfl) ?_
    refine R_goto (Dat dd_X_at 5 rfl) rfl ?_
    exact R_ireturn (Dat dd_X_at 13 rfl) rfl T
theorem t_X_at_23 {h : Hp} {P : Value → Hp → Prop} {a1 s0 : Int} {a0 : Value} (S : XS h) (T : R 32 0 [.int (I s0), .int (I a1)] [] h (fun v h2 => R 33 27 [a0, .int (I a1)] (v :: []) h2 P)) : R 33 23 [a0, .int (I a1)] [.int (I s0)] h P := by
  refine R_iload_n (Dat dd_X_at 11 rfl) rfl ?_
  exact R_call0 (Dat dd_X_at 12 rfl) rfl rfl rfl rfl rfl rfl T
theorem t_X_at_27 {h : Hp} {P : Value → Hp → Prop} {s0 : Int} {a0 a1 : Value} (S : XS h) (T : P (.int (I s0)) h) : R 33 27 [a0, a1] [.int (I s0)] h P := by
  exact R_ireturn (Dat dd_X_at 13 rfl) rfl T
def dl_X_noPlace : List (Nat × Instr × Nat) := [(0, .iload_n 1, 1), (1, .ifCond .lt 14, 3), (4, .iload_n 1, 1), (5, .aload_n 0, 1), (6, .getfield 12, 3), (9, .getfield 96, 3), (12, .if_icmp .lt 7, 3), (15, .iconst 1, 1), (16, .goto 4, 3), (19, .iconst 0, 1), (20, .ireturn, 1)]
theorem dd_X_noPlace : Dall 34 dl_X_noPlace = true := by decide +kernel
theorem t_X_noPlace {h : Hp} {P : Value → Hp → Prop} {p0 : Int} (S : XS h) (T : (rng p0) ∧ ((p0 < 0 → P (.int (I 1)) h) ∧ (¬ p0 < 0 → (rng p0) ∧ (rng (iv h 1 1)) ∧ ((p0 < (iv h 1 1) → P (.int (I 0)) h) ∧ (¬ p0 < (iv h 1 1) → P (.int (I 1)) h))))) : R 34 0 [.ref 0, .int (I p0)] [] h P := by
  refine R_iload_n (Dat dd_X_noPlace 0 rfl) rfl ?_
  obtain ⟨g1, T⟩ := T
  refine R_if_lt (Dat dd_X_noPlace 1 rfl) rfl g1  (fun c => ?_) (fun c => ?_)
  · replace T := T.1 c
    refine R_iconst (Dat dd_X_noPlace 7 rfl) ?_
    refine R_goto (Dat dd_X_noPlace 8 rfl) rfl ?_
    exact R_ireturn (Dat dd_X_noPlace 10 rfl) rfl T
  · replace T := T.2 c
    refine R_iload_n (Dat dd_X_noPlace 2 rfl) rfl ?_
    refine R_aload_n (Dat dd_X_noPlace 3 rfl) rfl rfl ?_
    refine R_getr (Dat dd_X_noPlace 4 rfl) rfl rfl (tok S.t0) S.f0_0 (q := 1) rfl (tnz S.t1) ?_
    refine R_geti (Dat dd_X_noPlace 5 rfl) rfl rfl (tok S.t1) ?_
    obtain ⟨g2, T⟩ := T
    obtain ⟨g3, T⟩ := T
    refine R_ic_lt (Dat dd_X_noPlace 6 rfl) rfl g2 g3 (fun c => ?_) (fun c => ?_)
    · replace T := T.1 c
      refine R_iconst (Dat dd_X_noPlace 9 rfl) ?_
      exact R_ireturn (Dat dd_X_noPlace 10 rfl) rfl T
    · replace T := T.2 c
      refine R_iconst (Dat dd_X_noPlace 7 rfl) ?_
      refine R_goto (Dat dd_X_noPlace 8 rfl) rfl ?_
      exact R_ireturn (Dat dd_X_noPlace 10 rfl) rfl T
def dl_X_lie : List (Nat × Instr × Nat) := [(0, .aload_n 0, 1), (1, .invokevirtual 138, 3), (4, .ifCond .eq 8, 3), (7, .bipush (-3), 2), (9, .goto 7, 3), (12, .aload_n 0, 1), (13, .getfield 86, 3), (16, .ireturn, 1)]
theorem dd_X_lie : Dall 35 dl_X_lie = true := by decide +kernel
theorem t_X_lie {h : Hp} {P : Value → Hp → Prop}  (S : XS h) (T : R 36 0 [.ref 0] [] h (fun v h2 => R 35 4 [.ref 0] (v :: []) h2 P)) : R 35 0 [.ref 0] [] h P := by
  refine R_aload_n (Dat dd_X_lie 0 rfl) rfl rfl ?_
  exact R_call1 (Dat dd_X_lie 1 rfl) rfl S.t0 rfl rfl rfl rfl rfl T
theorem t_X_lie_4 {h : Hp} {P : Value → Hp → Prop} {s0 : Int} (S : XS h) (T : (rng s0) ∧ ((s0 = 0 → P (.int (I (iv h 0 4))) h) ∧ (¬ s0 = 0 → P (.int (I (-3))) h))) : R 35 4 [.ref 0] [.int (I s0)] h P := by
  obtain ⟨g1, T⟩ := T
  refine R_if_eq (Dat dd_X_lie 2 rfl) rfl g1  (fun c => ?_) (fun c => ?_)
  · replace T := T.1 c
    refine R_aload_n (Dat dd_X_lie 5 rfl) rfl rfl ?_
    refine R_geti (Dat dd_X_lie 6 rfl) rfl rfl (tok S.t0) ?_
    exact R_ireturn (Dat dd_X_lie 7 rfl) rfl T
  · replace T := T.2 c
    refine R_bipush (Dat dd_X_lie 3 rfl) (a := (-3)) rfl ?_
    refine R_goto (Dat dd_X_lie 4 rfl) rfl ?_
    exact R_ireturn (Dat dd_X_lie 7 rfl) rfl T
def dl_X_noBox : List (Nat × Instr × Nat) := [(0, .aload_n 0, 1), (1, .getfield 12, 3), (4, .getfield 96, 3), (7, .ifCond .ne 7, 3), (10, .iconst 1, 1), (11, .goto 4, 3), (14, .iconst 0, 1), (15, .ireturn, 1)]
theorem dd_X_noBox : Dall 36 dl_X_noBox = true := by decide +kernel
theorem t_X_noBox {h : Hp} {P : Value → Hp → Prop}  (S : XS h) (T : (rng (iv h 1 1)) ∧ (((iv h 1 1) = 0 → P (.int (I 1)) h) ∧ (¬ (iv h 1 1) = 0 → P (.int (I 0)) h))) : R 36 0 [.ref 0] [] h P := by
  refine R_aload_n (Dat dd_X_noBox 0 rfl) rfl rfl ?_
  refine R_getr (Dat dd_X_noBox 1 rfl) rfl rfl (tok S.t0) S.f0_0 (q := 1) rfl (tnz S.t1) ?_
  refine R_geti (Dat dd_X_noBox 2 rfl) rfl rfl (tok S.t1) ?_
  obtain ⟨g1, T⟩ := T
  refine R_if_ne (Dat dd_X_noBox 3 rfl) rfl g1  (fun c => ?_) (fun c => ?_)
  · replace T := T.1 c
    refine R_iconst (Dat dd_X_noBox 4 rfl) ?_
    refine R_goto (Dat dd_X_noBox 5 rfl) rfl ?_
    exact R_ireturn (Dat dd_X_noBox 7 rfl) rfl T
  · replace T := T.2 c
    refine R_iconst (Dat dd_X_noBox 6 rfl) ?_
    exact R_ireturn (Dat dd_X_noBox 7 rfl) rfl T
def dl_X_lay : List (Nat × Instr × Nat) := [(0, .aload_n 0, 1), (1, .iload_n 1, 1), (2, .invokevirtual 142, 3), (5, .ifCond .eq 5, 3), (8, .iconst (-1), 1), (9, .ireturn, 1), (10, .aload_n 0, 1), (11, .getfield 86, 3), (14, .istore_n 2, 1), (15, .aload_n 0, 1), (16, .iload_n 1, 1), (17, .putfield 86, 3), (20, .iload_n 2, 1), (21, .ireturn, 1)]
theorem dd_X_lay : Dall 37 dl_X_lay = true := by decide +kernel
theorem t_X_lay {h : Hp} {P : Value → Hp → Prop} {p0 : Int} (S : XS h) (T : R 38 0 [.ref 0, .int (I p0)] [] h (fun v h2 => R 37 5 [.ref 0, .int (I p0), .retAddr 0] (v :: []) h2 P)) : R 37 0 [.ref 0, .int (I p0), .retAddr 0] [] h P := by
  refine R_aload_n (Dat dd_X_lay 0 rfl) rfl rfl ?_
  refine R_iload_n (Dat dd_X_lay 1 rfl) rfl ?_
  exact R_call1 (Dat dd_X_lay 2 rfl) rfl S.t0 rfl rfl rfl rfl rfl T
theorem t_X_lay_5 {h : Hp} {P : Value → Hp → Prop} {a1 s0 : Int} {a2 : Value} (S : XS h) (T : (rng s0) ∧ ((s0 = 0 → P (.int (I (iv h 0 4))) (setI h 0 4 (wr a1))) ∧ (¬ s0 = 0 → P (.int (I (-1))) h))) : R 37 5 [.ref 0, .int (I a1), a2] [.int (I s0)] h P := by
  obtain ⟨g1, T⟩ := T
  refine R_if_eq (Dat dd_X_lay 3 rfl) rfl g1  (fun c => ?_) (fun c => ?_)
  · replace T := T.1 c
    refine R_aload_n (Dat dd_X_lay 6 rfl) rfl rfl ?_
    refine R_geti (Dat dd_X_lay 7 rfl) rfl rfl (tok S.t0) ?_
    refine R_istore_n (Dat dd_X_lay 8 rfl) rfl rfl ?_
    refine R_aload_n (Dat dd_X_lay 9 rfl) rfl rfl ?_
    refine R_iload_n (Dat dd_X_lay 10 rfl) rfl ?_
    refine R_puti (Dat dd_X_lay 11 rfl) rfl rfl rfl (tok S.t0) rfl (v := wr a1) rfl ?_
    refine R_iload_n (Dat dd_X_lay 12 rfl) rfl ?_
    exact R_ireturn (Dat dd_X_lay 13 rfl) rfl T
  · replace T := T.2 c
    refine R_iconst (Dat dd_X_lay 4 rfl) ?_
    exact R_ireturn (Dat dd_X_lay 5 rfl) rfl T
def dl_X_noLie : List (Nat × Instr × Nat) := [(0, .iload_n 1, 1), (1, .ifCond .lt 14, 3), (4, .iload_n 1, 1), (5, .aload_n 0, 1), (6, .getfield 12, 3), (9, .getfield 204, 3), (12, .if_icmp .lt 7, 3), (15, .iconst 1, 1), (16, .goto 4, 3), (19, .iconst 0, 1), (20, .ireturn, 1)]
theorem dd_X_noLie : Dall 38 dl_X_noLie = true := by decide +kernel
theorem t_X_noLie {h : Hp} {P : Value → Hp → Prop} {p0 : Int} (S : XS h) (T : (rng p0) ∧ ((p0 < 0 → P (.int (I 1)) h) ∧ (¬ p0 < 0 → (rng p0) ∧ (rng (iv h 1 2)) ∧ ((p0 < (iv h 1 2) → P (.int (I 0)) h) ∧ (¬ p0 < (iv h 1 2) → P (.int (I 1)) h))))) : R 38 0 [.ref 0, .int (I p0)] [] h P := by
  refine R_iload_n (Dat dd_X_noLie 0 rfl) rfl ?_
  obtain ⟨g1, T⟩ := T
  refine R_if_lt (Dat dd_X_noLie 1 rfl) rfl g1  (fun c => ?_) (fun c => ?_)
  · replace T := T.1 c
    refine R_iconst (Dat dd_X_noLie 7 rfl) ?_
    refine R_goto (Dat dd_X_noLie 8 rfl) rfl ?_
    exact R_ireturn (Dat dd_X_noLie 10 rfl) rfl T
  · replace T := T.2 c
    refine R_iload_n (Dat dd_X_noLie 2 rfl) rfl ?_
    refine R_aload_n (Dat dd_X_noLie 3 rfl) rfl rfl ?_
    refine R_getr (Dat dd_X_noLie 4 rfl) rfl rfl (tok S.t0) S.f0_0 (q := 1) rfl (tnz S.t1) ?_
    refine R_geti (Dat dd_X_noLie 5 rfl) rfl rfl (tok S.t1) ?_
    obtain ⟨g2, T⟩ := T
    obtain ⟨g3, T⟩ := T
    refine R_ic_lt (Dat dd_X_noLie 6 rfl) rfl g2 g3 (fun c => ?_) (fun c => ?_)
    · replace T := T.1 c
      refine R_iconst (Dat dd_X_noLie 9 rfl) ?_
      exact R_ireturn (Dat dd_X_noLie 10 rfl) rfl T
    · replace T := T.2 c
      refine R_iconst (Dat dd_X_noLie 7 rfl) ?_
      refine R_goto (Dat dd_X_noLie 8 rfl) rfl ?_
      exact R_ireturn (Dat dd_X_noLie 10 rfl) rfl T
def dl_X_of : List (Nat × Instr × Nat) := [(0, .aload_n 0, 1), (1, .iload_n 1, 1), (2, .invokevirtual 142, 3), (5, .ifCond .ne 11, 3), (8, .aload_n 0, 1), (9, .iload_n 2, 1), (10, .invokevirtual 132, 3), (13, .ifCond .eq 7, 3), (16, .iconst (-1), 1), (17, .goto 15, 3), (20, .aload_n 0, 1), (21, .getfield 12, 3), (24, .iload_n 1, 1), (25, .invokevirtual 124, 3), (28, .iload_n 2, 1), (29, .invokestatic 135, 3), (32, .ireturn, 1)]
theorem dd_X_of : Dall 39 dl_X_of = true := by decide +kernel
theorem t_X_of {h : Hp} {P : Value → Hp → Prop} {p0 p1 : Int} (S : XS h) (T : R 38 0 [.ref 0, .int (I p0)] [] h (fun v h2 => R 39 5 [.ref 0, .int (I p0), .int (I p1)] (v :: []) h2 P)) : R 39 0 [.ref 0, .int (I p0), .int (I p1)] [] h P := by
  refine R_aload_n (Dat dd_X_of 0 rfl) rfl rfl ?_
  refine R_iload_n (Dat dd_X_of 1 rfl) rfl ?_
  exact R_call1 (Dat dd_X_of 2 rfl) rfl S.t0 rfl rfl rfl rfl rfl T
theorem t_X_of_5 {h : Hp} {P : Value → Hp → Prop} {a1 a2 s0 : Int} (S : XS h) (T : (rng s0) ∧ ((s0 = 0 → R 34 0 [.ref 0, .int (I a2)] [] h (fun v h2 => R 39 13 [.ref 0, .int (I a1), .int (I a2)] (v :: []) h2 P)) ∧ (¬ s0 = 0 → P (.int (I (-1))) h))) : R 39 5 [.ref 0, .int (I a1), .int (I a2)] [.int (I s0)] h P := by
  obtain ⟨g1, T⟩ := T
  refine R_if_ne (Dat dd_X_of 3 rfl) rfl g1  (fun c => ?_) (fun c => ?_)
  · replace T := T.1 c
    refine R_aload_n (Dat dd_X_of 4 rfl) rfl rfl ?_
    refine R_iload_n (Dat dd_X_of 5 rfl) rfl ?_
    exact R_call1 (Dat dd_X_of 6 rfl) rfl S.t0 rfl rfl rfl rfl rfl T
  · replace T := T.2 c
    refine R_iconst (Dat dd_X_of 8 rfl) ?_
    refine R_goto (Dat dd_X_of 9 rfl) rfl ?_
    exact R_ireturn (Dat dd_X_of 16 rfl) rfl T
theorem t_X_of_13 {h : Hp} {P : Value → Hp → Prop} {a1 a2 s0 : Int} (S : XS h) (T : (rng s0) ∧ ((s0 = 0 → R 29 0 [.ref 1, .int (I a1)] [] h (fun v h2 => R 39 28 [.ref 0, .int (I a1), .int (I a2)] (v :: []) h2 P)) ∧ (¬ s0 = 0 → P (.int (I (-1))) h))) : R 39 13 [.ref 0, .int (I a1), .int (I a2)] [.int (I s0)] h P := by
  obtain ⟨g1, T⟩ := T
  refine R_if_eq (Dat dd_X_of 7 rfl) rfl g1  (fun c => ?_) (fun c => ?_)
  · replace T := T.1 c
    refine R_aload_n (Dat dd_X_of 10 rfl) rfl rfl ?_
    refine R_getr (Dat dd_X_of 11 rfl) rfl rfl (tok S.t0) S.f0_0 (q := 1) rfl (tnz S.t1) ?_
    refine R_iload_n (Dat dd_X_of 12 rfl) rfl ?_
    exact R_call1 (Dat dd_X_of 13 rfl) rfl S.t1 rfl rfl rfl rfl rfl T
  · replace T := T.2 c
    refine R_iconst (Dat dd_X_of 8 rfl) ?_
    refine R_goto (Dat dd_X_of 9 rfl) rfl ?_
    exact R_ireturn (Dat dd_X_of 16 rfl) rfl T
theorem t_X_of_28 {h : Hp} {P : Value → Hp → Prop} {a2 s0 : Int} {a0 a1 : Value} (S : XS h) (T : R 32 0 [.int (I s0), .int (I a2)] [] h (fun v h2 => R 39 32 [a0, a1, .int (I a2)] (v :: []) h2 P)) : R 39 28 [a0, a1, .int (I a2)] [.int (I s0)] h P := by
  refine R_iload_n (Dat dd_X_of 14 rfl) rfl ?_
  exact R_call0 (Dat dd_X_of 15 rfl) rfl rfl rfl rfl rfl rfl T
theorem t_X_of_32 {h : Hp} {P : Value → Hp → Prop} {s0 : Int} {a0 a1 a2 : Value} (S : XS h) (T : P (.int (I s0)) h) : R 39 32 [a0, a1, a2] [.int (I s0)] h P := by
  exact R_ireturn (Dat dd_X_of 16 rfl) rfl T
def dl_X_law : List (Nat × Instr × Nat) := [(0, .aload_n 0, 1), (1, .iload_n 1, 1), (2, .iload_n 2, 1), (3, .iload_n 3, 1), (4, .iload 4, 2), (6, .invokevirtual 68, 3), (9, .istore 5, 2), (11, .iload 5, 2), (13, .ifCond .eq 6, 3), (16, .iload 5, 2), (18, .ireturn, 1), (19, .aload_n 0, 1), (20, .getfield 33, 3), (23, .iload_n 1, 1), (24, .aaload, 1), (25, .getfield 72, 3), (28, .astore 6, 2), (30, .aload 6, 2), (32, .iload_n 3, 1), (33, .iload 4, 2), (35, .invokestatic 145, 3), (38, .istore 7, 2), (40, .iload 7, 2), (42, .iconst (-1), 1), (43, .if_icmp .eq 9, 3), (46, .bipush (-100), 2), (48, .iload 7, 2), (50, .isub, 1), (51, .ireturn, 1), (52, .aload_n 0, 1), (53, .getfield 146, 3), (56, .iconst 4, 1), (57, .if_icmp .lt 6, 3), (60, .bipush (-4), 2), (62, .ireturn, 1), (63, .aload_n 0, 1), (64, .getfield 20, 3), (67, .aload_n 0, 1), (68, .getfield 146, 3), (71, .new 18, 3), (74, .dup, 1), (75, .aload 6, 2), (77, .iload_n 3, 1), (78, .iload 4, 2), (80, .invokespecial 149, 3), (83, .aastore, 1), (84, .aload_n 0, 1), (85, .dup, 1), (86, .getfield 146, 3), (89, .iconst 1, 1), (90, .iadd, 1), (91, .putfield 146, 3), (94, .aload_n 0, 1), (95, .getfield 146, 3), (98, .iconst 1, 1), (99, .isub, 1), (100, .ireturn, 1)]
theorem dd_X_law : Dall 40 dl_X_law = true := by decide +kernel
theorem t_X_law {h : Hp} {P : Value → Hp → Prop} {p0 p1 p2 p3 : Int} (S : XS h) (T : R 8 0 [.ref 0, .int (I p0), .int (I p1), .int (I p2), .int (I p3), .retAddr 0] [] h (fun v h2 => R 40 9 [.ref 0, .int (I p0), .int (I p1), .int (I p2), .int (I p3), .retAddr 0, .retAddr 0, .retAddr 0] (v :: []) h2 P)) : R 40 0 [.ref 0, .int (I p0), .int (I p1), .int (I p2), .int (I p3), .retAddr 0, .retAddr 0, .retAddr 0] [] h P := by
  refine R_aload_n (Dat dd_X_law 0 rfl) rfl rfl ?_
  refine R_iload_n (Dat dd_X_law 1 rfl) rfl ?_
  refine R_iload_n (Dat dd_X_law 2 rfl) rfl ?_
  refine R_iload_n (Dat dd_X_law 3 rfl) rfl ?_
  refine R_iload (Dat dd_X_law 4 rfl) rfl ?_
  exact R_call1 (Dat dd_X_law 5 rfl) rfl S.t0 rfl rfl rfl rfl rfl T
theorem t_X_law_9 {h : Hp} {P : Value → Hp → Prop} {a1 a3 a4 s0 : Int} {a2 a5 a6 a7 : Value} (S : XS h) (T : (rng s0) ∧ ((s0 = 0 → (0 ≤ a1) ∧ (a1 < 4) ∧ (fl h 7 (a1).toNat = true) ∧ (tg h (child 7 (a1).toNat) ≠ 0) ∧ (tg h (child 7 (a1).toNat) = 10) ∧ (fl h (child 7 (a1).toNat) 0 = true) ∧ (tg h (child (child 7 (a1).toNat) 0) ≠ 0) ∧ R 41 0 [.ref (child (child 7 (a1).toNat) 0), .int (I a3), .int (I a4), .retAddr 0] [] h (fun v h2 => R 40 38 [.ref 0, .int (I a1), a2, .int (I a3), .int (I a4), .int (I s0), .ref (child (child 7 (a1).toNat) 0), a7] (v :: []) h2 P)) ∧ (¬ s0 = 0 → P (.int (I s0)) h))) : R 40 9 [.ref 0, .int (I a1), a2, .int (I a3), .int (I a4), a5, a6, a7] [.int (I s0)] h P := by
  refine R_istore (Dat dd_X_law 6 rfl) rfl rfl ?_
  refine R_iload (Dat dd_X_law 7 rfl) rfl ?_
  obtain ⟨g1, T⟩ := T
  refine R_if_eq (Dat dd_X_law 8 rfl) rfl g1  (fun c => ?_) (fun c => ?_)
  · replace T := T.1 c
    refine R_aload_n (Dat dd_X_law 11 rfl) rfl rfl ?_
    refine R_getr (Dat dd_X_law 12 rfl) rfl rfl (tok S.t0) S.f0_9 (q := 7) rfl (tnz S.t7) ?_
    refine R_iload_n (Dat dd_X_law 13 rfl) rfl ?_
    obtain ⟨g2, T⟩ := T
    obtain ⟨g3, T⟩ := T
    obtain ⟨g4, T⟩ := T
    obtain ⟨g5, T⟩ := T
    refine R_aaload (Dat dd_X_law 14 rfl) (by rw [show tg h 7 = 23 from S.t7]; decide) (lnle (show ln h 7 = 4 from S.l7) (by decide)) g2 (lnlt (show ln h 7 = 4 from S.l7) g3) g4 rfl g5 ?_
    obtain ⟨g6, T⟩ := T
    obtain ⟨g7, T⟩ := T
    obtain ⟨g8, T⟩ := T
    refine R_getr (Dat dd_X_law 15 rfl) rfl rfl (tok g6) g7 (q := child (child 7 (a1).toNat) 0) rfl g8 ?_
    refine R_astore (Dat dd_X_law 16 rfl) rfl rfl rfl ?_
    refine R_aload (Dat dd_X_law 17 rfl) rfl rfl ?_
    refine R_iload_n (Dat dd_X_law 18 rfl) rfl ?_
    refine R_iload (Dat dd_X_law 19 rfl) rfl ?_
    exact R_call0 (Dat dd_X_law 20 rfl) rfl rfl rfl rfl rfl rfl T
  · replace T := T.2 c
    refine R_iload (Dat dd_X_law 9 rfl) rfl ?_
    exact R_ireturn (Dat dd_X_law 10 rfl) rfl T
theorem t_X_law_38 {h : Hp} {P : Value → Hp → Prop} {a3 a4 s0 : Int} {a6 : Nat} {a1 a2 a5 a7 : Value} (S : XS h) (T : (rng s0) ∧ ((s0 = (-1) → (rng (iv h 0 2)) ∧ (((iv h 0 2) < 4 → (tg h (64 * ((iv h 0 2).toNat + 1)) = 0) ∧ ((64 * ((iv h 0 2).toNat + 1)) < 500) ∧ (okg 40 44 [.ref 0, a1, a2, .int (I a3), .int (I a4), a5, .ref a6, .int (I s0)] [.ref (64 * ((iv h 0 2).toNat + 1)), .int (I (iv h 0 2)), .ref 4] [.ref (64 * ((iv h 0 2).toNat + 1)), .ref a6, .int (I a3), .int (I a4)] = true) ∧ R 44 0 [.ref (64 * ((iv h 0 2).toNat + 1)), .ref a6, .int (I a3), .int (I a4), .retAddr 0, .retAddr 0] [] (mk h (64 * ((iv h 0 2).toNat + 1)) 4 0 2) (fun _ h2 => R 40 83 [.ref 0, a1, a2, .int (I a3), .int (I a4), a5, .ref a6, .int (I s0)] [.ref (64 * ((iv h 0 2).toNat + 1)), .int (I (iv h 0 2)), .ref 4] h2 P)) ∧ (¬ (iv h 0 2) < 4 → P (.int (I (-4))) h))) ∧ (¬ s0 = (-1) → P (.int (I ((-100) - s0))) h))) : R 40 38 [.ref 0, a1, a2, .int (I a3), .int (I a4), a5, .ref a6, a7] [.int (I s0)] h P := by
  refine R_istore (Dat dd_X_law 21 rfl) rfl rfl ?_
  refine R_iload (Dat dd_X_law 22 rfl) rfl ?_
  refine R_iconst (Dat dd_X_law 23 rfl) ?_
  obtain ⟨g1, T⟩ := T
  refine R_ic_eq (Dat dd_X_law 24 rfl) rfl g1 (by decide) (fun c => ?_) (fun c => ?_)
  · replace T := T.1 c
    refine R_aload_n (Dat dd_X_law 29 rfl) rfl rfl ?_
    refine R_geti (Dat dd_X_law 30 rfl) rfl rfl (tok S.t0) ?_
    refine R_iconst (Dat dd_X_law 31 rfl) ?_
    obtain ⟨g2, T⟩ := T
    refine R_ic_lt (Dat dd_X_law 32 rfl) rfl g2 (by decide) (fun c => ?_) (fun c => ?_)
    · replace T := T.1 c
      refine R_aload_n (Dat dd_X_law 35 rfl) rfl rfl ?_
      refine R_getr (Dat dd_X_law 36 rfl) rfl rfl (tok S.t0) S.f0_1 (q := 4) rfl (tnz S.t4) ?_
      refine R_aload_n (Dat dd_X_law 37 rfl) rfl rfl ?_
      refine R_geti (Dat dd_X_law 38 rfl) rfl rfl (tok S.t0) ?_
      obtain ⟨g3, T⟩ := T
      obtain ⟨g4, T⟩ := T
      refine R_new (Dat dd_X_law 39 rfl) (ci := 3) rfl rfl (q := 64 * ((iv h 0 2).toNat + 1)) rfl g3 (Or.inl g4) ?_
      refine R_dup (Dat dd_X_law 40 rfl) rfl ?_
      refine R_aload (Dat dd_X_law 41 rfl) rfl rfl ?_
      refine R_iload_n (Dat dd_X_law 42 rfl) rfl ?_
      refine R_iload (Dat dd_X_law 43 rfl) rfl ?_
      obtain ⟨g5, T⟩ := T
      exact R_call2 (Dat dd_X_law 44 rfl) rfl rfl rfl rfl g5 rfl T
    · replace T := T.2 c
      refine R_bipush (Dat dd_X_law 33 rfl) (a := (-4)) rfl ?_
      exact R_ireturn (Dat dd_X_law 34 rfl) rfl T
  · replace T := T.2 c
    refine R_bipush (Dat dd_X_law 25 rfl) (a := (-100)) rfl ?_
    refine R_iload (Dat dd_X_law 26 rfl) rfl ?_
    refine R_isub (Dat dd_X_law 27 rfl) ?_
    exact R_ireturn (Dat dd_X_law 28 rfl) rfl T
theorem t_X_law_83 {h : Hp} {P : Value → Hp → Prop} {s1 : Int} {s0 : Nat} {a1 a2 a3 a4 a5 a6 a7 : Value} (S : XS h) (T : (elok (tg h 4) (tg h s0) = true) ∧ ((ln h 4 : Int) ≤ 2147483648) ∧ (0 ≤ s1) ∧ (s1 < ln h 4) ∧ (child 4 (s1).toNat = s0) ∧ P (.int (I ((iv (setI (setF h 4 (s1).toNat) 0 2 (wr ((iv (setF h 4 (s1).toNat) 0 2) + 1))) 0 2) - 1))) (setI (setF h 4 (s1).toNat) 0 2 (wr ((iv (setF h 4 (s1).toNat) 0 2) + 1)))) : R 40 83 [.ref 0, a1, a2, a3, a4, a5, a6, a7] [.ref s0, .int (I s1), .ref 4] h P := by
  obtain ⟨g1, T⟩ := T
  obtain ⟨g2, T⟩ := T
  obtain ⟨g3, T⟩ := T
  obtain ⟨g4, T⟩ := T
  obtain ⟨g5, T⟩ := T
  refine R_aastore (Dat dd_X_law 45 rfl) g1 g2 g3 g4 g5 ?_
  refine R_aload_n (Dat dd_X_law 46 rfl) rfl rfl ?_
  refine R_dup (Dat dd_X_law 47 rfl) rfl ?_
  refine R_geti (Dat dd_X_law 48 rfl) rfl rfl (tok S.t0) ?_
  refine R_iconst (Dat dd_X_law 49 rfl) ?_
  refine R_iadd (Dat dd_X_law 50 rfl) ?_
  refine R_puti (Dat dd_X_law 51 rfl) rfl rfl rfl (tok S.t0) rfl (v := wr ((iv (setF h 4 (s1).toNat) 0 2) + 1)) rfl ?_
  refine R_aload_n (Dat dd_X_law 52 rfl) rfl rfl ?_
  refine R_geti (Dat dd_X_law 53 rfl) rfl rfl (tok S.t0) ?_
  refine R_iconst (Dat dd_X_law 54 rfl) ?_
  refine R_isub (Dat dd_X_law 55 rfl) ?_
  exact R_ireturn (Dat dd_X_law 56 rfl) rfl T
def dl_X_use : List (Nat × Instr × Nat) := [(0, .iload_n 1, 1), (1, .ifCond .lt 11, 3), (4, .iload_n 1, 1), (5, .aload_n 0, 1), (6, .getfield 146, 3), (9, .if_icmp .lt 5, 3), (12, .iconst (-1), 1), (13, .ireturn, 1), (14, .aload_n 0, 1), (15, .getfield 166, 3), (18, .istore_n 2, 1), (19, .aload_n 0, 1), (20, .iload_n 1, 1), (21, .putfield 166, 3), (24, .iload_n 2, 1), (25, .ireturn, 1)]
theorem dd_X_use : Dall 47 dl_X_use = true := by decide +kernel
theorem t_X_use {h : Hp} {P : Value → Hp → Prop} {p0 : Int} (S : XS h) (T : (rng p0) ∧ ((p0 < 0 → P (.int (I (-1))) h) ∧ (¬ p0 < 0 → (rng p0) ∧ (rng (iv h 0 2)) ∧ ((p0 < (iv h 0 2) → P (.int (I (iv h 0 3))) (setI h 0 3 (wr p0))) ∧ (¬ p0 < (iv h 0 2) → P (.int (I (-1))) h))))) : R 47 0 [.ref 0, .int (I p0), .retAddr 0] [] h P := by
  refine R_iload_n (Dat dd_X_use 0 rfl) rfl ?_
  obtain ⟨g1, T⟩ := T
  refine R_if_lt (Dat dd_X_use 1 rfl) rfl g1  (fun c => ?_) (fun c => ?_)
  · replace T := T.1 c
    refine R_iconst (Dat dd_X_use 6 rfl) ?_
    exact R_ireturn (Dat dd_X_use 7 rfl) rfl T
  · replace T := T.2 c
    refine R_iload_n (Dat dd_X_use 2 rfl) rfl ?_
    refine R_aload_n (Dat dd_X_use 3 rfl) rfl rfl ?_
    refine R_geti (Dat dd_X_use 4 rfl) rfl rfl (tok S.t0) ?_
    obtain ⟨g2, T⟩ := T
    obtain ⟨g3, T⟩ := T
    refine R_ic_lt (Dat dd_X_use 5 rfl) rfl g2 g3 (fun c => ?_) (fun c => ?_)
    · replace T := T.1 c
      refine R_aload_n (Dat dd_X_use 8 rfl) rfl rfl ?_
      refine R_geti (Dat dd_X_use 9 rfl) rfl rfl (tok S.t0) ?_
      refine R_istore_n (Dat dd_X_use 10 rfl) rfl rfl ?_
      refine R_aload_n (Dat dd_X_use 11 rfl) rfl rfl ?_
      refine R_iload_n (Dat dd_X_use 12 rfl) rfl ?_
      refine R_puti (Dat dd_X_use 13 rfl) rfl rfl rfl (tok S.t0) rfl (v := wr p0) rfl ?_
      refine R_iload_n (Dat dd_X_use 14 rfl) rfl ?_
      exact R_ireturn (Dat dd_X_use 15 rfl) rfl T
    · replace T := T.2 c
      refine R_iconst (Dat dd_X_use 6 rfl) ?_
      exact R_ireturn (Dat dd_X_use 7 rfl) rfl T
def dl_X_cause : List (Nat × Instr × Nat) := [(0, .aload_n 0, 1), (1, .iload_n 1, 1), (2, .invokevirtual 99, 3), (5, .ifCond .ne 11, 3), (8, .aload_n 0, 1), (9, .iload_n 2, 1), (10, .invokevirtual 99, 3), (13, .ifCond .eq 5, 3), (16, .iconst (-1), 1), (17, .ireturn, 1), (18, .iload_n 1, 1), (19, .iload_n 2, 1), (20, .if_icmp .eq 28, 3), (23, .iload_n 3, 1), (24, .ifCond .lt 24, 3), (27, .iload_n 3, 1), (28, .aload_n 0, 1), (29, .getfield 12, 3), (32, .getfield 96, 3), (35, .iconst 2, 1), (36, .isub, 1), (37, .if_icmp .gt 11, 3), (40, .iload 4, 2), (42, .invokestatic 169, 3), (45, .ifCond .eq 6, 3), (48, .bipush (-2), 2), (50, .ireturn, 1), (51, .aload_n 0, 1), (52, .invokevirtual 172, 3), (55, .astore 5, 2), (57, .aload 5, 2), (59, .ifnonnull 6, 3), (62, .bipush (-3), 2), (64, .ireturn, 1), (65, .aload 5, 2), (67, .aload_n 0, 1), (68, .getfield 12, 3), (71, .getfield 103, 3), (74, .iload_n 1, 1), (75, .aaload, 1), (76, .aload_n 0, 1), (77, .getfield 12, 3), (80, .getfield 103, 3), (83, .iload_n 2, 1), (84, .aaload, 1), (85, .iload_n 3, 1), (86, .iload 4, 2), (88, .bipush (-9), 2), (90, .invokevirtual 176, 3), (93, .ireturn, 1)]
theorem dd_X_cause : Dall 48 dl_X_cause = true := by decide +kernel
theorem t_X_cause {h : Hp} {P : Value → Hp → Prop} {p0 p1 p2 p3 : Int} (S : XS h) (T : R 28 0 [.ref 0, .int (I p0)] [] h (fun v h2 => R 48 5 [.ref 0, .int (I p0), .int (I p1), .int (I p2), .int (I p3), .retAddr 0] (v :: []) h2 P)) : R 48 0 [.ref 0, .int (I p0), .int (I p1), .int (I p2), .int (I p3), .retAddr 0] [] h P := by
  refine R_aload_n (Dat dd_X_cause 0 rfl) rfl rfl ?_
  refine R_iload_n (Dat dd_X_cause 1 rfl) rfl ?_
  exact R_call1 (Dat dd_X_cause 2 rfl) rfl S.t0 rfl rfl rfl rfl rfl T
theorem t_X_cause_5 {h : Hp} {P : Value → Hp → Prop} {a1 a2 a3 a4 s0 : Int} {a5 : Value} (S : XS h) (T : (rng s0) ∧ ((s0 = 0 → R 28 0 [.ref 0, .int (I a2)] [] h (fun v h2 => R 48 13 [.ref 0, .int (I a1), .int (I a2), .int (I a3), .int (I a4), a5] (v :: []) h2 P)) ∧ (¬ s0 = 0 → P (.int (I (-1))) h))) : R 48 5 [.ref 0, .int (I a1), .int (I a2), .int (I a3), .int (I a4), a5] [.int (I s0)] h P := by
  obtain ⟨g1, T⟩ := T
  refine R_if_ne (Dat dd_X_cause 3 rfl) rfl g1  (fun c => ?_) (fun c => ?_)
  · replace T := T.1 c
    refine R_aload_n (Dat dd_X_cause 4 rfl) rfl rfl ?_
    refine R_iload_n (Dat dd_X_cause 5 rfl) rfl ?_
    exact R_call1 (Dat dd_X_cause 6 rfl) rfl S.t0 rfl rfl rfl rfl rfl T
  · replace T := T.2 c
    refine R_iconst (Dat dd_X_cause 8 rfl) ?_
    exact R_ireturn (Dat dd_X_cause 9 rfl) rfl T
theorem t_X_cause_13 {h : Hp} {P : Value → Hp → Prop} {a1 a2 a3 a4 s0 : Int} {a5 : Value} (S : XS h) (T : (rng s0) ∧ ((s0 = 0 → (rng a1) ∧ (rng a2) ∧ ((a1 = a2 → P (.int (I (-2))) h) ∧ (¬ a1 = a2 → (rng a3) ∧ ((a3 < 0 → P (.int (I (-2))) h) ∧ (¬ a3 < 0 → (rng a3) ∧ (rng ((iv h 1 1) - 2)) ∧ ((((iv h 1 1) - 2) < a3 → P (.int (I (-2))) h) ∧ (¬ ((iv h 1 1) - 2) < a3 → R 49 0 [.int (I a4)] [] h (fun v h2 => R 48 45 [.ref 0, .int (I a1), .int (I a2), .int (I a3), .int (I a4), a5] (v :: []) h2 P)))))))) ∧ (¬ s0 = 0 → P (.int (I (-1))) h))) : R 48 13 [.ref 0, .int (I a1), .int (I a2), .int (I a3), .int (I a4), a5] [.int (I s0)] h P := by
  obtain ⟨g1, T⟩ := T
  refine R_if_eq (Dat dd_X_cause 7 rfl) rfl g1  (fun c => ?_) (fun c => ?_)
  · replace T := T.1 c
    refine R_iload_n (Dat dd_X_cause 10 rfl) rfl ?_
    refine R_iload_n (Dat dd_X_cause 11 rfl) rfl ?_
    obtain ⟨g2, T⟩ := T
    obtain ⟨g3, T⟩ := T
    refine R_ic_eq (Dat dd_X_cause 12 rfl) rfl g2 g3 (fun c => ?_) (fun c => ?_)
    · replace T := T.1 c
      refine R_bipush (Dat dd_X_cause 25 rfl) (a := (-2)) rfl ?_
      exact R_ireturn (Dat dd_X_cause 26 rfl) rfl T
    · replace T := T.2 c
      refine R_iload_n (Dat dd_X_cause 13 rfl) rfl ?_
      obtain ⟨g4, T⟩ := T
      refine R_if_lt (Dat dd_X_cause 14 rfl) rfl g4  (fun c => ?_) (fun c => ?_)
      · replace T := T.1 c
        refine R_bipush (Dat dd_X_cause 25 rfl) (a := (-2)) rfl ?_
        exact R_ireturn (Dat dd_X_cause 26 rfl) rfl T
      · replace T := T.2 c
        refine R_iload_n (Dat dd_X_cause 15 rfl) rfl ?_
        refine R_aload_n (Dat dd_X_cause 16 rfl) rfl rfl ?_
        refine R_getr (Dat dd_X_cause 17 rfl) rfl rfl (tok S.t0) S.f0_0 (q := 1) rfl (tnz S.t1) ?_
        refine R_geti (Dat dd_X_cause 18 rfl) rfl rfl (tok S.t1) ?_
        refine R_iconst (Dat dd_X_cause 19 rfl) ?_
        refine R_isub (Dat dd_X_cause 20 rfl) ?_
        obtain ⟨g5, T⟩ := T
        obtain ⟨g6, T⟩ := T
        refine R_ic_gt (Dat dd_X_cause 21 rfl) rfl g5 g6 (fun c => ?_) (fun c => ?_)
        · replace T := T.1 c
          refine R_bipush (Dat dd_X_cause 25 rfl) (a := (-2)) rfl ?_
          exact R_ireturn (Dat dd_X_cause 26 rfl) rfl T
        · replace T := T.2 c
          refine R_iload (Dat dd_X_cause 22 rfl) rfl ?_
          exact R_call0 (Dat dd_X_cause 23 rfl) rfl rfl rfl rfl rfl rfl T
  · replace T := T.2 c
    refine R_iconst (Dat dd_X_cause 8 rfl) ?_
    exact R_ireturn (Dat dd_X_cause 9 rfl) rfl T
theorem t_X_cause_45 {h : Hp} {P : Value → Hp → Prop} {a1 a2 a3 a4 s0 : Int} {a5 : Value} (S : XS h) (T : (rng s0) ∧ ((s0 = 0 → R 50 0 [.ref 0] [] h (fun v h2 => R 48 55 [.ref 0, .int (I a1), .int (I a2), .int (I a3), .int (I a4), a5] (v :: []) h2 P)) ∧ (¬ s0 = 0 → P (.int (I (-2))) h))) : R 48 45 [.ref 0, .int (I a1), .int (I a2), .int (I a3), .int (I a4), a5] [.int (I s0)] h P := by
  obtain ⟨g1, T⟩ := T
  refine R_if_eq (Dat dd_X_cause 24 rfl) rfl g1  (fun c => ?_) (fun c => ?_)
  · replace T := T.1 c
    refine R_aload_n (Dat dd_X_cause 27 rfl) rfl rfl ?_
    exact R_call1 (Dat dd_X_cause 28 rfl) rfl S.t0 rfl rfl rfl rfl rfl T
  · replace T := T.2 c
    refine R_bipush (Dat dd_X_cause 25 rfl) (a := (-2)) rfl ?_
    exact R_ireturn (Dat dd_X_cause 26 rfl) rfl T
theorem t_X_cause_55 {h : Hp} {P : Value → Hp → Prop} {a1 a2 a3 a4 : Int} {s0 : Nat} {a5 : Value} (S : XS h) (T : (0 ≤ a1) ∧ (a1 < 7) ∧ (fl h 2 (a1).toNat = true) ∧ (tg h (child 2 (a1).toNat) ≠ 0) ∧ (0 ≤ a2) ∧ (a2 < 7) ∧ (fl h 2 (a2).toNat = true) ∧ (tg h (child 2 (a2).toNat) ≠ 0) ∧ (tg h s0 = 4) ∧ R 51 0 [.ref s0, .ref (child 2 (a1).toNat), .ref (child 2 (a2).toNat), .int (I a3), .int (I a4), .int (I (-9)), .retAddr 0] [] h (fun v h2 => R 48 93 [.ref 0, .int (I a1), .int (I a2), .int (I a3), .int (I a4), .ref s0] (v :: []) h2 P)) : R 48 55 [.ref 0, .int (I a1), .int (I a2), .int (I a3), .int (I a4), a5] [.ref s0] h P := by
  refine R_astore (Dat dd_X_cause 29 rfl) rfl rfl rfl ?_
  refine R_aload (Dat dd_X_cause 30 rfl) rfl rfl ?_
  refine R_ifnn1 (Dat dd_X_cause 31 rfl) rfl ?_
  refine R_aload (Dat dd_X_cause 34 rfl) rfl rfl ?_
  refine R_aload_n (Dat dd_X_cause 35 rfl) rfl rfl ?_
  refine R_getr (Dat dd_X_cause 36 rfl) rfl rfl (tok S.t0) S.f0_0 (q := 1) rfl (tnz S.t1) ?_
  refine R_getr (Dat dd_X_cause 37 rfl) rfl rfl (tok S.t1) S.f1_0 (q := 2) rfl (tnz S.t2) ?_
  refine R_iload_n (Dat dd_X_cause 38 rfl) rfl ?_
  obtain ⟨g1, T⟩ := T
  obtain ⟨g2, T⟩ := T
  obtain ⟨g3, T⟩ := T
  obtain ⟨g4, T⟩ := T
  refine R_aaload (Dat dd_X_cause 39 rfl) (by rw [show tg h 2 = 21 from S.t2]; decide) (lnle (show ln h 2 = 7 from S.l2) (by decide)) g1 (lnlt (show ln h 2 = 7 from S.l2) g2) g3 rfl g4 ?_
  refine R_aload_n (Dat dd_X_cause 40 rfl) rfl rfl ?_
  refine R_getr (Dat dd_X_cause 41 rfl) rfl rfl (tok S.t0) S.f0_0 (q := 1) rfl (tnz S.t1) ?_
  refine R_getr (Dat dd_X_cause 42 rfl) rfl rfl (tok S.t1) S.f1_0 (q := 2) rfl (tnz S.t2) ?_
  refine R_iload_n (Dat dd_X_cause 43 rfl) rfl ?_
  obtain ⟨g5, T⟩ := T
  obtain ⟨g6, T⟩ := T
  obtain ⟨g7, T⟩ := T
  obtain ⟨g8, T⟩ := T
  refine R_aaload (Dat dd_X_cause 44 rfl) (by rw [show tg h 2 = 21 from S.t2]; decide) (lnle (show ln h 2 = 7 from S.l2) (by decide)) g5 (lnlt (show ln h 2 = 7 from S.l2) g6) g7 rfl g8 ?_
  refine R_iload_n (Dat dd_X_cause 45 rfl) rfl ?_
  refine R_iload (Dat dd_X_cause 46 rfl) rfl ?_
  refine R_bipush (Dat dd_X_cause 47 rfl) (a := (-9)) rfl ?_
  obtain ⟨g9, T⟩ := T
  exact R_call1 (Dat dd_X_cause 48 rfl) rfl g9 rfl rfl rfl rfl rfl T
theorem t_X_cause_55b {h : Hp} {P : Value → Hp → Prop} {a1 a2 a3 a4 : Int} {a5 : Value} (S : XS h) (T : P (.int (I (-3))) h) : R 48 55 [.ref 0, .int (I a1), .int (I a2), .int (I a3), .int (I a4), a5] [.null] h P := by
  refine R_astore (Dat dd_X_cause 29 rfl) rfl rfl rfl ?_
  refine R_aload (Dat dd_X_cause 30 rfl) rfl rfl ?_
  refine R_ifnn0 (Dat dd_X_cause 31 rfl) ?_
  refine R_bipush (Dat dd_X_cause 32 rfl) (a := (-3)) rfl ?_
  exact R_ireturn (Dat dd_X_cause 33 rfl) rfl T
theorem t_X_cause_93 {h : Hp} {P : Value → Hp → Prop} {s0 : Int} {a0 a1 a2 a3 a4 a5 : Value} (S : XS h) (T : P (.int (I s0)) h) : R 48 93 [a0, a1, a2, a3, a4, a5] [.int (I s0)] h P := by
  exact R_ireturn (Dat dd_X_cause 49 rfl) rfl T
def dl_X_noHard : List (Nat × Instr × Nat) := [(0, .iload_n 0, 1), (1, .iconst 1, 1), (2, .if_icmp .lt 8, 3), (5, .iload_n 0, 1), (6, .iconst 3, 1), (7, .if_icmp .le 7, 3), (10, .iconst 1, 1), (11, .goto 4, 3), (14, .iconst 0, 1), (15, .ireturn, 1)]
theorem dd_X_noHard : Dall 49 dl_X_noHard = true := by decide +kernel
theorem t_X_noHard {h : Hp} {P : Value → Hp → Prop} {p0 : Int} (T : (rng p0) ∧ ((p0 < 1 → P (.int (I 1)) h) ∧ (¬ p0 < 1 → (rng p0) ∧ (((3 : Int) < p0 → P (.int (I 1)) h) ∧ (¬ (3 : Int) < p0 → P (.int (I 0)) h))))) : R 49 0 [.int (I p0)] [] h P := by
  refine R_iload_n (Dat dd_X_noHard 0 rfl) rfl ?_
  refine R_iconst (Dat dd_X_noHard 1 rfl) ?_
  obtain ⟨g1, T⟩ := T
  refine R_ic_lt (Dat dd_X_noHard 2 rfl) rfl g1 (by decide) (fun c => ?_) (fun c => ?_)
  · replace T := T.1 c
    refine R_iconst (Dat dd_X_noHard 6 rfl) ?_
    refine R_goto (Dat dd_X_noHard 7 rfl) rfl ?_
    exact R_ireturn (Dat dd_X_noHard 9 rfl) rfl T
  · replace T := T.2 c
    refine R_iload_n (Dat dd_X_noHard 3 rfl) rfl ?_
    refine R_iconst (Dat dd_X_noHard 4 rfl) ?_
    obtain ⟨g2, T⟩ := T
    refine R_ic_le (Dat dd_X_noHard 5 rfl) rfl g2 (by decide) (fun c => ?_) (fun c => ?_)
    · replace T := T.1 c
      refine R_iconst (Dat dd_X_noHard 6 rfl) ?_
      refine R_goto (Dat dd_X_noHard 7 rfl) rfl ?_
      exact R_ireturn (Dat dd_X_noHard 9 rfl) rfl T
    · replace T := T.2 c
      refine R_iconst (Dat dd_X_noHard 8 rfl) ?_
      exact R_ireturn (Dat dd_X_noHard 9 rfl) rfl T
def dl_X_lawInForce : List (Nat × Instr × Nat) := [(0, .aload_n 0, 1), (1, .getfield 146, 3), (4, .ifCond .ne 7, 3), (7, .aconst_null, 1), (8, .goto 12, 3), (11, .aload_n 0, 1), (12, .getfield 20, 3), (15, .aload_n 0, 1), (16, .getfield 166, 3), (19, .aaload, 1), (20, .areturn, 1)]
theorem dd_X_lawInForce : Dall 50 dl_X_lawInForce = true := by decide +kernel
theorem t_X_lawInForce {h : Hp} {P : Value → Hp → Prop}  (S : XS h) (T : (rng (iv h 0 2)) ∧ (((iv h 0 2) = 0 → P (.null) h) ∧ (¬ (iv h 0 2) = 0 → (0 ≤ (iv h 0 3)) ∧ ((iv h 0 3) < 4) ∧ (fl h 4 (iv h 0 3).toNat = true) ∧ (tg h (child 4 (iv h 0 3).toNat) ≠ 0) ∧ P (.ref (child 4 (iv h 0 3).toNat)) h))) : R 50 0 [.ref 0] [] h P := by
  refine R_aload_n (Dat dd_X_lawInForce 0 rfl) rfl rfl ?_
  refine R_geti (Dat dd_X_lawInForce 1 rfl) rfl rfl (tok S.t0) ?_
  obtain ⟨g1, T⟩ := T
  refine R_if_ne (Dat dd_X_lawInForce 2 rfl) rfl g1  (fun c => ?_) (fun c => ?_)
  · replace T := T.1 c
    refine R_null (Dat dd_X_lawInForce 3 rfl) ?_
    refine R_goto (Dat dd_X_lawInForce 4 rfl) rfl ?_
    exact R_areturn (Dat dd_X_lawInForce 10 rfl) rfl T
  · replace T := T.2 c
    refine R_aload_n (Dat dd_X_lawInForce 5 rfl) rfl rfl ?_
    refine R_getr (Dat dd_X_lawInForce 6 rfl) rfl rfl (tok S.t0) S.f0_1 (q := 4) rfl (tnz S.t4) ?_
    refine R_aload_n (Dat dd_X_lawInForce 7 rfl) rfl rfl ?_
    refine R_geti (Dat dd_X_lawInForce 8 rfl) rfl rfl (tok S.t0) ?_
    obtain ⟨g2, T⟩ := T
    obtain ⟨g3, T⟩ := T
    obtain ⟨g4, T⟩ := T
    obtain ⟨g5, T⟩ := T
    refine R_aaload (Dat dd_X_lawInForce 9 rfl) (by rw [show tg h 4 = 22 from S.t4]; decide) (lnle (show ln h 4 = 4 from S.l4) (by decide)) g2 (lnlt (show ln h 4 = 4 from S.l4) g3) g4 rfl g5 ?_
    exact R_areturn (Dat dd_X_lawInForce 10 rfl) rfl T
def dl_X_shake : List (Nat × Instr × Nat) := [(0, .iload_n 1, 1), (1, .invokestatic 169, 3), (4, .ifCond .ne 13, 3), (7, .iload_n 2, 1), (8, .ifCond .lt 9, 3), (11, .iload_n 2, 1), (12, .bipush 99, 2), (14, .if_icmp .le 6, 3), (17, .bipush (-2), 2), (19, .ireturn, 1), (20, .aload_n 0, 1), (21, .invokevirtual 172, 3), (24, .astore_n 3, 1), (25, .aload_n 0, 1), (26, .invokevirtual 138, 3), (29, .ifCond .ne 7, 3), (32, .aload_n 3, 1), (33, .ifnonnull 6, 3), (36, .bipush (-3), 2), (38, .ireturn, 1), (39, .iconst 0, 1), (40, .istore 4, 2), (42, .iconst 0, 1), (43, .istore 5, 2), (45, .iload 5, 2), (47, .iload_n 2, 1), (48, .if_icmp .ge 20, 3), (51, .iload 4, 2), (53, .aload_n 0, 1), (54, .aload_n 3, 1), (55, .iload_n 1, 1), (56, .invokevirtual 180, 3), (59, .iadd, 1), (60, .istore 4, 2), (62, .iinc 5 1, 3), (65, .goto (-20), 3), (68, .iload 4, 2), (70, .ireturn, 1)]
theorem dd_X_shake : Dall 53 dl_X_shake = true := by decide +kernel
theorem t_X_shake {h : Hp} {P : Value → Hp → Prop} {p0 p1 : Int} (S : XS h) (T : R 49 0 [.int (I p0)] [] h (fun v h2 => R 53 4 [.ref 0, .int (I p0), .int (I p1), .retAddr 0, .retAddr 0, .retAddr 0] (v :: []) h2 P)) : R 53 0 [.ref 0, .int (I p0), .int (I p1), .retAddr 0, .retAddr 0, .retAddr 0] [] h P := by
  refine R_iload_n (Dat dd_X_shake 0 rfl) rfl ?_
  exact R_call0 (Dat dd_X_shake 1 rfl) rfl rfl rfl rfl rfl rfl T
theorem t_X_shake_4 {h : Hp} {P : Value → Hp → Prop} {a1 a2 s0 : Int} {a3 a4 a5 : Value} (S : XS h) (T : (rng s0) ∧ ((s0 = 0 → (rng a2) ∧ ((a2 < 0 → P (.int (I (-2))) h) ∧ (¬ a2 < 0 → (rng a2) ∧ (((99 : Int) < a2 → P (.int (I (-2))) h) ∧ (¬ (99 : Int) < a2 → R 50 0 [.ref 0] [] h (fun v h2 => R 53 24 [.ref 0, .int (I a1), .int (I a2), a3, a4, a5] (v :: []) h2 P)))))) ∧ (¬ s0 = 0 → P (.int (I (-2))) h))) : R 53 4 [.ref 0, .int (I a1), .int (I a2), a3, a4, a5] [.int (I s0)] h P := by
  obtain ⟨g1, T⟩ := T
  refine R_if_ne (Dat dd_X_shake 2 rfl) rfl g1  (fun c => ?_) (fun c => ?_)
  · replace T := T.1 c
    refine R_iload_n (Dat dd_X_shake 3 rfl) rfl ?_
    obtain ⟨g2, T⟩ := T
    refine R_if_lt (Dat dd_X_shake 4 rfl) rfl g2  (fun c => ?_) (fun c => ?_)
    · replace T := T.1 c
      refine R_bipush (Dat dd_X_shake 8 rfl) (a := (-2)) rfl ?_
      exact R_ireturn (Dat dd_X_shake 9 rfl) rfl T
    · replace T := T.2 c
      refine R_iload_n (Dat dd_X_shake 5 rfl) rfl ?_
      refine R_bipush (Dat dd_X_shake 6 rfl) (a := 99) rfl ?_
      obtain ⟨g3, T⟩ := T
      refine R_ic_le (Dat dd_X_shake 7 rfl) rfl g3 (by decide) (fun c => ?_) (fun c => ?_)
      · replace T := T.1 c
        refine R_bipush (Dat dd_X_shake 8 rfl) (a := (-2)) rfl ?_
        exact R_ireturn (Dat dd_X_shake 9 rfl) rfl T
      · replace T := T.2 c
        refine R_aload_n (Dat dd_X_shake 10 rfl) rfl rfl ?_
        exact R_call1 (Dat dd_X_shake 11 rfl) rfl S.t0 rfl rfl rfl rfl rfl T
  · replace T := T.2 c
    refine R_bipush (Dat dd_X_shake 8 rfl) (a := (-2)) rfl ?_
    exact R_ireturn (Dat dd_X_shake 9 rfl) rfl T
theorem t_X_shake_24 {h : Hp} {P : Value → Hp → Prop} {a1 a2 : Int} {s0 : Nat} {a3 a4 a5 : Value} (S : XS h) (T : R 36 0 [.ref 0] [] h (fun v h2 => R 53 29 [.ref 0, .int (I a1), .int (I a2), .ref s0, a4, a5] (v :: []) h2 P)) : R 53 24 [.ref 0, .int (I a1), .int (I a2), a3, a4, a5] [.ref s0] h P := by
  refine R_astore_n (Dat dd_X_shake 12 rfl) rfl rfl rfl ?_
  refine R_aload_n (Dat dd_X_shake 13 rfl) rfl rfl ?_
  exact R_call1 (Dat dd_X_shake 14 rfl) rfl S.t0 rfl rfl rfl rfl rfl T
theorem t_X_shake_24b {h : Hp} {P : Value → Hp → Prop} {a1 a2 : Int} {a3 a4 a5 : Value} (S : XS h) (T : R 36 0 [.ref 0] [] h (fun v h2 => R 53 29 [.ref 0, .int (I a1), .int (I a2), .null, a4, a5] (v :: []) h2 P)) : R 53 24 [.ref 0, .int (I a1), .int (I a2), a3, a4, a5] [.null] h P := by
  refine R_astore_n (Dat dd_X_shake 12 rfl) rfl rfl rfl ?_
  refine R_aload_n (Dat dd_X_shake 13 rfl) rfl rfl ?_
  exact R_call1 (Dat dd_X_shake 14 rfl) rfl S.t0 rfl rfl rfl rfl rfl T
theorem t_X_shake_29 {h : Hp} {P : Value → Hp → Prop} {a1 a2 s0 : Int} {a3 : Nat} {a4 a5 : Value} (S : XS h) (T : (rng s0) ∧ ((s0 = 0 → R 53 45 [.ref 0, .int (I a1), .int (I a2), .ref a3, .int (I 0), .int (I 0)] [] h P) ∧ (¬ s0 = 0 → P (.int (I (-3))) h))) : R 53 29 [.ref 0, .int (I a1), .int (I a2), .ref a3, a4, a5] [.int (I s0)] h P := by
  obtain ⟨g1, T⟩ := T
  refine R_if_ne (Dat dd_X_shake 15 rfl) rfl g1  (fun c => ?_) (fun c => ?_)
  · replace T := T.1 c
    refine R_aload_n (Dat dd_X_shake 16 rfl) rfl rfl ?_
    refine R_ifnn1 (Dat dd_X_shake 17 rfl) rfl ?_
    refine R_iconst (Dat dd_X_shake 20 rfl) ?_
    refine R_istore (Dat dd_X_shake 21 rfl) rfl rfl ?_
    refine R_iconst (Dat dd_X_shake 22 rfl) ?_
    refine R_istore (Dat dd_X_shake 23 rfl) rfl rfl ?_
    exact T
  · replace T := T.2 c
    refine R_bipush (Dat dd_X_shake 18 rfl) (a := (-3)) rfl ?_
    exact R_ireturn (Dat dd_X_shake 19 rfl) rfl T
theorem t_X_shake_29b {h : Hp} {P : Value → Hp → Prop} {a1 a2 s0 : Int} {a4 a5 : Value} (S : XS h) (T : (rng s0) ∧ ((s0 = 0 → P (.int (I (-3))) h) ∧ (¬ s0 = 0 → P (.int (I (-3))) h))) : R 53 29 [.ref 0, .int (I a1), .int (I a2), .null, a4, a5] [.int (I s0)] h P := by
  obtain ⟨g1, T⟩ := T
  refine R_if_ne (Dat dd_X_shake 15 rfl) rfl g1  (fun c => ?_) (fun c => ?_)
  · replace T := T.1 c
    refine R_aload_n (Dat dd_X_shake 16 rfl) rfl rfl ?_
    refine R_ifnn0 (Dat dd_X_shake 17 rfl) ?_
    refine R_bipush (Dat dd_X_shake 18 rfl) (a := (-3)) rfl ?_
    exact R_ireturn (Dat dd_X_shake 19 rfl) rfl T
  · replace T := T.2 c
    refine R_bipush (Dat dd_X_shake 18 rfl) (a := (-3)) rfl ?_
    exact R_ireturn (Dat dd_X_shake 19 rfl) rfl T
theorem t_X_shake_45 {h : Hp} {P : Value → Hp → Prop} {a1 a2 a4 a5 : Int} {a3 : Nat} (S : XS h) (T : (rng a5) ∧ (rng a2) ∧ ((a5 < a2 → (okg 53 54 [.ref 0, .int (I a1), .int (I a2), .ref a3, .int (I a4), .int (I a5)] [.int (I a4)] [.ref 0, .ref a3, .int (I a1)] = true) ∧ R 54 0 [.ref 0, .ref a3, .int (I a1), .retAddr 0] [] h (fun v h2 => R 53 59 [.ref 0, .int (I a1), .int (I a2), .ref a3, .int (I a4), .int (I a5)] (v :: [.int (I a4)]) h2 P)) ∧ (¬ a5 < a2 → P (.int (I a4)) h))) : R 53 45 [.ref 0, .int (I a1), .int (I a2), .ref a3, .int (I a4), .int (I a5)] [] h P := by
  refine R_iload (Dat dd_X_shake 24 rfl) rfl ?_
  refine R_iload_n (Dat dd_X_shake 25 rfl) rfl ?_
  obtain ⟨g1, T⟩ := T
  obtain ⟨g2, T⟩ := T
  refine R_ic_ge (Dat dd_X_shake 26 rfl) rfl g1 g2 (fun c => ?_) (fun c => ?_)
  · replace T := T.1 c
    refine R_iload (Dat dd_X_shake 27 rfl) rfl ?_
    refine R_aload_n (Dat dd_X_shake 28 rfl) rfl rfl ?_
    refine R_aload_n (Dat dd_X_shake 29 rfl) rfl rfl ?_
    refine R_iload_n (Dat dd_X_shake 30 rfl) rfl ?_
    obtain ⟨g3, T⟩ := T
    exact R_call1 (Dat dd_X_shake 31 rfl) rfl S.t0 rfl rfl rfl g3 rfl T
  · replace T := T.2 c
    refine R_iload (Dat dd_X_shake 36 rfl) rfl ?_
    exact R_ireturn (Dat dd_X_shake 37 rfl) rfl T
theorem t_X_shake_59 {h : Hp} {P : Value → Hp → Prop} {a1 a2 a5 s0 s1 : Int} {a3 : Nat} {a4 : Value} (S : XS h) (T : R 53 45 [.ref 0, .int (I a1), .int (I a2), .ref a3, .int (I (s1 + s0)), .int (I (a5 + 1))] [] h P) : R 53 59 [.ref 0, .int (I a1), .int (I a2), .ref a3, a4, .int (I a5)] [.int (I s0), .int (I s1)] h P := by
  refine R_iadd (Dat dd_X_shake 32 rfl) ?_
  refine R_istore (Dat dd_X_shake 33 rfl) rfl rfl ?_
  refine R_iinc (Dat dd_X_shake 34 rfl) rfl rfl rfl ?_
  refine R_goto (Dat dd_X_shake 35 rfl) rfl ?_
  exact T
def dl_X_shakeOnce : List (Nat × Instr × Nat) := [(0, .aload_n 0, 1), (1, .aload_n 1, 1), (2, .iload_n 2, 1), (3, .invokevirtual 194, 3), (6, .getfield 212, 3), (9, .astore_n 3, 1), (10, .aload_n 3, 1), (11, .iconst 0, 1), (12, .putfield 345, 3), (15, .aload_n 0, 1), (16, .aload_n 0, 1), (17, .getfield 12, 3), (20, .aload_n 3, 1), (21, .aload_n 0, 1), (22, .getfield 12, 3), (25, .aload_n 0, 1), (26, .getfield 86, 3), (29, .invokevirtual 124, 3), (32, .aload_n 0, 1), (33, .getfield 12, 3), (36, .getfield 96, 3), (39, .invokevirtual 275, 3), (42, .invokevirtual 348, 3), (45, .putfield 86, 3), (48, .aload_n 0, 1), (49, .dup, 1), (50, .getfield 93, 3), (53, .iconst 1, 1), (54, .iadd, 1), (55, .putfield 93, 3), (58, .aload_n 3, 1), (59, .getfield 345, 3), (62, .ireturn, 1)]
theorem dd_X_shakeOnce : Dall 54 dl_X_shakeOnce = true := by decide +kernel
theorem t_X_shakeOnce {h : Hp} {P : Value → Hp → Prop} {p1 : Int} {p0 : Nat} (S : XS h) (T : (okg 54 55 [.ref 0, .ref p0, .int (I p1), .retAddr 0] [] [.ref 0, .ref p0, .int (I p1)] = true) ∧ R 55 0 [.ref 0, .ref p0, .int (I p1), .retAddr 0] [] h (fun v h2 => R 54 6 [.ref 0, .ref p0, .int (I p1), .retAddr 0] (v :: []) h2 P)) : R 54 0 [.ref 0, .ref p0, .int (I p1), .retAddr 0] [] h P := by
  refine R_aload_n (Dat dd_X_shakeOnce 0 rfl) rfl rfl ?_
  refine R_aload_n (Dat dd_X_shakeOnce 1 rfl) rfl rfl ?_
  refine R_iload_n (Dat dd_X_shakeOnce 2 rfl) rfl ?_
  obtain ⟨g1, T⟩ := T
  exact R_call1 (Dat dd_X_shakeOnce 3 rfl) rfl S.t0 rfl rfl rfl g1 rfl T
theorem t_X_shakeOnce_6 {h : Hp} {P : Value → Hp → Prop} {s0 : Nat} {a1 a2 a3 : Value} (S : XS h) (T : (tg h s0 = 6) ∧ (fl h s0 0 = true) ∧ (tg h (child s0 0) ≠ 0) ∧ (tg h (child s0 0) = 8) ∧ R 29 0 [.ref 1, .int (I (iv (setI h (child s0 0) 1 0) 0 4))] [] (setI h (child s0 0) 1 0) (fun v h2 => R 54 32 [.ref 0, a1, a2, .ref (child s0 0)] (v :: [.ref (child s0 0), .ref 1, .ref 0]) h2 P)) : R 54 6 [.ref 0, a1, a2, a3] [.ref s0] h P := by
  obtain ⟨g1, T⟩ := T
  obtain ⟨g2, T⟩ := T
  obtain ⟨g3, T⟩ := T
  refine R_getr (Dat dd_X_shakeOnce 4 rfl) rfl rfl (tok g1) g2 (q := child s0 0) rfl g3 ?_
  refine R_astore_n (Dat dd_X_shakeOnce 5 rfl) rfl rfl rfl ?_
  refine R_aload_n (Dat dd_X_shakeOnce 6 rfl) rfl rfl ?_
  refine R_iconst (Dat dd_X_shakeOnce 7 rfl) ?_
  obtain ⟨g4, T⟩ := T
  refine R_puti (Dat dd_X_shakeOnce 8 rfl) rfl rfl rfl (tok g4) rfl (v := 0) rfl ?_
  refine R_aload_n (Dat dd_X_shakeOnce 9 rfl) rfl rfl ?_
  refine R_aload_n (Dat dd_X_shakeOnce 10 rfl) rfl rfl ?_
  refine R_getr (Dat dd_X_shakeOnce 11 rfl) rfl rfl (tok S.t0) S.f0_0 (q := 1) rfl (tnz S.t1) ?_
  refine R_aload_n (Dat dd_X_shakeOnce 12 rfl) rfl rfl ?_
  refine R_aload_n (Dat dd_X_shakeOnce 13 rfl) rfl rfl ?_
  refine R_getr (Dat dd_X_shakeOnce 14 rfl) rfl rfl (tok S.t0) S.f0_0 (q := 1) rfl (tnz S.t1) ?_
  refine R_aload_n (Dat dd_X_shakeOnce 15 rfl) rfl rfl ?_
  refine R_geti (Dat dd_X_shakeOnce 16 rfl) rfl rfl (tok S.t0) ?_
  exact R_call1 (Dat dd_X_shakeOnce 17 rfl) rfl S.t1 rfl rfl rfl rfl rfl T
theorem t_X_shakeOnce_32 {h : Hp} {P : Value → Hp → Prop} {s0 : Int} {a3 s1 : Nat} {a1 a2 : Value} (S : XS h) (T : (tg h s1 = 8) ∧ R 61 0 [.ref s1, .int (I s0), .int (I (iv h 1 1))] [] h (fun v h2 => R 54 42 [.ref 0, a1, a2, .ref a3] (v :: [.ref 1, .ref 0]) h2 P)) : R 54 32 [.ref 0, a1, a2, .ref a3] [.int (I s0), .ref s1, .ref 1, .ref 0] h P := by
  refine R_aload_n (Dat dd_X_shakeOnce 18 rfl) rfl rfl ?_
  refine R_getr (Dat dd_X_shakeOnce 19 rfl) rfl rfl (tok S.t0) S.f0_0 (q := 1) rfl (tnz S.t1) ?_
  refine R_geti (Dat dd_X_shakeOnce 20 rfl) rfl rfl (tok S.t1) ?_
  obtain ⟨g1, T⟩ := T
  exact R_call1 (Dat dd_X_shakeOnce 21 rfl) rfl g1 rfl rfl rfl rfl rfl T
theorem t_X_shakeOnce_42 {h : Hp} {P : Value → Hp → Prop} {s0 : Int} {a3 : Nat} {a1 a2 : Value} (S : XS h) (T : R 63 0 [.ref 1, .int (I s0), .retAddr 0, .retAddr 0, .retAddr 0, .retAddr 0] [] h (fun v h2 => R 54 45 [.ref 0, a1, a2, .ref a3] (v :: [.ref 0]) h2 P)) : R 54 42 [.ref 0, a1, a2, .ref a3] [.int (I s0), .ref 1, .ref 0] h P := by
  exact R_call1 (Dat dd_X_shakeOnce 22 rfl) rfl S.t1 rfl rfl rfl rfl rfl T
theorem t_X_shakeOnce_45 {h : Hp} {P : Value → Hp → Prop} {s0 : Int} {a3 : Nat} {a1 a2 : Value} (S : XS h) (T : (tg (setI (setI h 0 4 (wr s0)) 0 5 (wr ((iv (setI h 0 4 (wr s0)) 0 5) + 1))) a3 = 8) ∧ P (.int (I (iv (setI (setI h 0 4 (wr s0)) 0 5 (wr ((iv (setI h 0 4 (wr s0)) 0 5) + 1))) a3 1))) (setI (setI h 0 4 (wr s0)) 0 5 (wr ((iv (setI h 0 4 (wr s0)) 0 5) + 1)))) : R 54 45 [.ref 0, a1, a2, .ref a3] [.int (I s0), .ref 0] h P := by
  refine R_puti (Dat dd_X_shakeOnce 23 rfl) rfl rfl rfl (tok S.t0) rfl (v := wr s0) rfl ?_
  refine R_aload_n (Dat dd_X_shakeOnce 24 rfl) rfl rfl ?_
  refine R_dup (Dat dd_X_shakeOnce 25 rfl) rfl ?_
  refine R_geti (Dat dd_X_shakeOnce 26 rfl) rfl rfl (tok S.t0) ?_
  refine R_iconst (Dat dd_X_shakeOnce 27 rfl) ?_
  refine R_iadd (Dat dd_X_shakeOnce 28 rfl) ?_
  refine R_puti (Dat dd_X_shakeOnce 29 rfl) rfl rfl rfl (tok S.t0) rfl (v := wr ((iv (setI h 0 4 (wr s0)) 0 5) + 1)) rfl ?_
  refine R_aload_n (Dat dd_X_shakeOnce 30 rfl) rfl rfl ?_
  obtain ⟨g1, T⟩ := T
  refine R_geti (Dat dd_X_shakeOnce 31 rfl) rfl rfl (tok g1) ?_
  exact R_ireturn (Dat dd_X_shakeOnce 32 rfl) rfl T
def dl_X_motionOf : List (Nat × Instr × Nat) := [(0, .aload_n 1, 1), (1, .getfield 332, 3), (4, .iload_n 2, 1), (5, .iconst 1, 1), (6, .isub, 1), (7, .aaload, 1), (8, .astore_n 3, 1), (9, .aload_n 3, 1), (10, .getfield 336, 3), (13, .aload_n 0, 1), (14, .getfield 12, 3), (17, .getfield 339, 3), (20, .if_icmp .eq 40, 3), (23, .aload_n 3, 1), (24, .aload_n 0, 1), (25, .getfield 12, 3), (28, .getfield 339, 3), (31, .putfield 336, 3), (34, .aload_n 3, 1), (35, .getfield 212, 3), (38, .aload_n 0, 1), (39, .getfield 12, 3), (42, .aload_n 1, 1), (43, .iload_n 2, 1), (44, .bipush (-9), 2), (46, .invokevirtual 223, 3), (49, .aload_n 3, 1), (50, .aload_n 0, 1), (51, .getfield 12, 3), (54, .getfield 204, 3), (57, .invokevirtual 342, 3), (60, .aload_n 3, 1), (61, .areturn, 1)]
theorem dd_X_motionOf : Dall 55 dl_X_motionOf = true := by decide +kernel
theorem t_X_motionOf {h : Hp} {P : Value → Hp → Prop} {p1 : Int} {p0 : Nat} (S : XS h) (T : (tg h p0 = 4) ∧ (fl h p0 1 = true) ∧ (tg h (child p0 1) ≠ 0) ∧ (21 ≤ tg h (child p0 1) ∧ tg h (child p0 1) ≤ 25) ∧ ((ln h (child p0 1) : Int) ≤ 2147483648) ∧ (0 ≤ (p1 - 1)) ∧ ((p1 - 1) < ln h (child p0 1)) ∧ (fl h (child p0 1) (p1 - 1).toNat = true) ∧ (tg h (child (child p0 1) (p1 - 1).toNat) ≠ 0) ∧ (tg h (child (child p0 1) (p1 - 1).toNat) = 6) ∧ (rng (iv h (child (child p0 1) (p1 - 1).toNat) 2)) ∧ (rng (iv h 1 3)) ∧ (((iv h (child (child p0 1) (p1 - 1).toNat) 2) = (iv h 1 3) → P (.ref (child (child p0 1) (p1 - 1).toNat)) h) ∧ (¬ (iv h (child (child p0 1) (p1 - 1).toNat) 2) = (iv h 1 3) → (tg h (child (child p0 1) (p1 - 1).toNat) = 6) ∧ (tg (setI h (child (child p0 1) (p1 - 1).toNat) 2 (wr (iv h 1 3))) (child (child p0 1) (p1 - 1).toNat) = 6) ∧ (fl (setI h (child (child p0 1) (p1 - 1).toNat) 2 (wr (iv h 1 3))) (child (child p0 1) (p1 - 1).toNat) 0 = true) ∧ (tg (setI h (child (child p0 1) (p1 - 1).toNat) 2 (wr (iv h 1 3))) (child (child (child p0 1) (p1 - 1).toNat) 0) ≠ 0) ∧ (tg (setI h (child (child p0 1) (p1 - 1).toNat) 2 (wr (iv h 1 3))) (child (child (child p0 1) (p1 - 1).toNat) 0) = 8) ∧ R 56 0 [.ref (child (child (child p0 1) (p1 - 1).toNat) 0), .ref 1, .ref p0, .int (I p1), .int (I (-9)), .retAddr 0, .retAddr 0, .retAddr 0, .retAddr 0] [] (setI h (child (child p0 1) (p1 - 1).toNat) 2 (wr (iv h 1 3))) (fun _ h2 => R 55 49 [.ref 0, .ref p0, .int (I p1), .ref (child (child p0 1) (p1 - 1).toNat)] [] h2 P)))) : R 55 0 [.ref 0, .ref p0, .int (I p1), .retAddr 0] [] h P := by
  refine R_aload_n (Dat dd_X_motionOf 0 rfl) rfl rfl ?_
  obtain ⟨g1, T⟩ := T
  obtain ⟨g2, T⟩ := T
  obtain ⟨g3, T⟩ := T
  refine R_getr (Dat dd_X_motionOf 1 rfl) rfl rfl (tok g1) g2 (q := child p0 1) rfl g3 ?_
  refine R_iload_n (Dat dd_X_motionOf 2 rfl) rfl ?_
  refine R_iconst (Dat dd_X_motionOf 3 rfl) ?_
  refine R_isub (Dat dd_X_motionOf 4 rfl) ?_
  obtain ⟨g4, T⟩ := T
  obtain ⟨g5, T⟩ := T
  obtain ⟨g6, T⟩ := T
  obtain ⟨g7, T⟩ := T
  obtain ⟨g8, T⟩ := T
  obtain ⟨g9, T⟩ := T
  refine R_aaload (Dat dd_X_motionOf 5 rfl) g4 g5 g6 g7 g8 rfl g9 ?_
  refine R_astore_n (Dat dd_X_motionOf 6 rfl) rfl rfl rfl ?_
  refine R_aload_n (Dat dd_X_motionOf 7 rfl) rfl rfl ?_
  obtain ⟨g10, T⟩ := T
  refine R_geti (Dat dd_X_motionOf 8 rfl) rfl rfl (tok g10) ?_
  refine R_aload_n (Dat dd_X_motionOf 9 rfl) rfl rfl ?_
  refine R_getr (Dat dd_X_motionOf 10 rfl) rfl rfl (tok S.t0) S.f0_0 (q := 1) rfl (tnz S.t1) ?_
  refine R_geti (Dat dd_X_motionOf 11 rfl) rfl rfl (tok S.t1) ?_
  obtain ⟨g11, T⟩ := T
  obtain ⟨g12, T⟩ := T
  refine R_ic_eq (Dat dd_X_motionOf 12 rfl) rfl g11 g12 (fun c => ?_) (fun c => ?_)
  · replace T := T.1 c
    refine R_aload_n (Dat dd_X_motionOf 31 rfl) rfl rfl ?_
    exact R_areturn (Dat dd_X_motionOf 32 rfl) rfl T
  · replace T := T.2 c
    refine R_aload_n (Dat dd_X_motionOf 13 rfl) rfl rfl ?_
    refine R_aload_n (Dat dd_X_motionOf 14 rfl) rfl rfl ?_
    refine R_getr (Dat dd_X_motionOf 15 rfl) rfl rfl (tok S.t0) S.f0_0 (q := 1) rfl (tnz S.t1) ?_
    refine R_geti (Dat dd_X_motionOf 16 rfl) rfl rfl (tok S.t1) ?_
    obtain ⟨g13, T⟩ := T
    refine R_puti (Dat dd_X_motionOf 17 rfl) rfl rfl rfl (tok g13) rfl (v := wr (iv h 1 3)) rfl ?_
    refine R_aload_n (Dat dd_X_motionOf 18 rfl) rfl rfl ?_
    obtain ⟨g14, T⟩ := T
    obtain ⟨g15, T⟩ := T
    obtain ⟨g16, T⟩ := T
    refine R_getr (Dat dd_X_motionOf 19 rfl) rfl rfl (tok g14) g15 (q := child (child (child p0 1) (p1 - 1).toNat) 0) rfl g16 ?_
    refine R_aload_n (Dat dd_X_motionOf 20 rfl) rfl rfl ?_
    refine R_getr (Dat dd_X_motionOf 21 rfl) rfl rfl (tok S.t0) S.f0_0 (q := 1) rfl (tnz S.t1) ?_
    refine R_aload_n (Dat dd_X_motionOf 22 rfl) rfl rfl ?_
    refine R_iload_n (Dat dd_X_motionOf 23 rfl) rfl ?_
    refine R_bipush (Dat dd_X_motionOf 24 rfl) (a := (-9)) rfl ?_
    obtain ⟨g17, T⟩ := T
    exact R_call1 (Dat dd_X_motionOf 25 rfl) rfl g17 rfl rfl rfl rfl rfl T
theorem t_X_motionOf_49 {h : Hp} {P : Value → Hp → Prop} {a3 : Nat} {a1 a2 : Value} (S : XS h) (T : (okg 55 58 [.ref 0, a1, a2, .ref a3] [] [.ref a3, .int (I (iv h 1 2))] = true) ∧ (tg h a3 = 6) ∧ R 58 0 [.ref a3, .int (I (iv h 1 2))] [] h (fun _ h2 => R 55 60 [.ref 0, a1, a2, .ref a3] [] h2 P)) : R 55 49 [.ref 0, a1, a2, .ref a3] [] h P := by
  refine R_aload_n (Dat dd_X_motionOf 26 rfl) rfl rfl ?_
  refine R_aload_n (Dat dd_X_motionOf 27 rfl) rfl rfl ?_
  refine R_getr (Dat dd_X_motionOf 28 rfl) rfl rfl (tok S.t0) S.f0_0 (q := 1) rfl (tnz S.t1) ?_
  refine R_geti (Dat dd_X_motionOf 29 rfl) rfl rfl (tok S.t1) ?_
  obtain ⟨g1, T⟩ := T
  obtain ⟨g2, T⟩ := T
  exact R_call1 (Dat dd_X_motionOf 30 rfl) rfl g2 rfl rfl rfl g1 rfl T
theorem t_X_motionOf_60 {h : Hp} {P : Value → Hp → Prop} {a3 : Nat} {a0 a1 a2 : Value} (S : XS h) (T : P (.ref a3) h) : R 55 60 [a0, a1, a2, .ref a3] [] h P := by
  refine R_aload_n (Dat dd_X_motionOf 31 rfl) rfl rfl ?_
  exact R_areturn (Dat dd_X_motionOf 32 rfl) rfl T
def dl_Arrays_fill_4 : List (Nat × Instr × Nat) := [(0, .aload_n 0, 1), (1, .arraylength, 1), (2, .iload_n 1, 1), (3, .iload_n 2, 1), (4, .invokestatic 13, 3), (7, .iload_n 1, 1), (8, .istore 4, 2), (10, .iload 4, 2), (12, .iload_n 2, 1), (13, .if_icmp .ge 14, 3), (16, .aload_n 0, 1), (17, .iload 4, 2), (19, .iload_n 3, 1), (20, .iastore, 1), (21, .iinc 4 1, 3), (24, .goto (-14), 3), (27, .return_, 1)]
theorem dd_Arrays_fill_4 : Dall 59 dl_Arrays_fill_4 = true := by decide +kernel
theorem t_Arrays_fill_4 {h : Hp} {P : Value → Hp → Prop} {p1 p2 p3 : Int} {p0 : Nat} (T : ((20 ≤ tg h p0 ∧ tg h p0 ≤ 25) ∨ tg h p0 = 30) ∧ R 60 0 [.int (I (ln h p0 : Int)), .int (I p1), .int (I p2)] [] h (fun _ h2 => R 59 7 [.ref p0, .int (I p1), .int (I p2), .int (I p3), .retAddr 0] [] h2 P)) : R 59 0 [.ref p0, .int (I p1), .int (I p2), .int (I p3), .retAddr 0] [] h P := by
  refine R_aload_n (Dat dd_Arrays_fill_4 0 rfl) rfl rfl ?_
  obtain ⟨g1, T⟩ := T
  refine R_alen (Dat dd_Arrays_fill_4 1 rfl) g1 ?_
  refine R_iload_n (Dat dd_Arrays_fill_4 2 rfl) rfl ?_
  refine R_iload_n (Dat dd_Arrays_fill_4 3 rfl) rfl ?_
  exact R_call0 (Dat dd_Arrays_fill_4 4 rfl) rfl rfl rfl rfl rfl rfl T
theorem t_Arrays_fill_4_7 {h : Hp} {P : Value → Hp → Prop} {a1 a2 a3 : Int} {a0 : Nat} {a4 : Value} (T : R 59 10 [.ref a0, .int (I a1), .int (I a2), .int (I a3), .int (I a1)] [] h P) : R 59 7 [.ref a0, .int (I a1), .int (I a2), .int (I a3), a4] [] h P := by
  refine R_iload_n (Dat dd_Arrays_fill_4 5 rfl) rfl ?_
  refine R_istore (Dat dd_Arrays_fill_4 6 rfl) rfl rfl ?_
  exact T
theorem t_Arrays_fill_4_10 {h : Hp} {P : Value → Hp → Prop} {a2 a3 a4 : Int} {a0 : Nat} {a1 : Value} (T : (rng a4) ∧ (rng a2) ∧ ((a4 < a2 → (tg h a0 = 20) ∧ ((ln h a0 : Int) ≤ 2147483648) ∧ (0 ≤ a4) ∧ (a4 < ln h a0) ∧ R 59 10 [.ref a0, a1, .int (I a2), .int (I a3), .int (I (a4 + 1))] [] (setI h a0 a4 (wr a3)) P) ∧ (¬ a4 < a2 → P .null h))) : R 59 10 [.ref a0, a1, .int (I a2), .int (I a3), .int (I a4)] [] h P := by
  refine R_iload (Dat dd_Arrays_fill_4 7 rfl) rfl ?_
  refine R_iload_n (Dat dd_Arrays_fill_4 8 rfl) rfl ?_
  obtain ⟨g1, T⟩ := T
  obtain ⟨g2, T⟩ := T
  refine R_ic_ge (Dat dd_Arrays_fill_4 9 rfl) rfl g1 g2 (fun c => ?_) (fun c => ?_)
  · replace T := T.1 c
    refine R_aload_n (Dat dd_Arrays_fill_4 10 rfl) rfl rfl ?_
    refine R_iload (Dat dd_Arrays_fill_4 11 rfl) rfl ?_
    refine R_iload_n (Dat dd_Arrays_fill_4 12 rfl) rfl ?_
    obtain ⟨g3, T⟩ := T
    obtain ⟨g4, T⟩ := T
    obtain ⟨g5, T⟩ := T
    obtain ⟨g6, T⟩ := T
    refine R_iastore (Dat dd_Arrays_fill_4 13 rfl) g3 g4 g5 g6 (v := wr a3) rfl ?_
    refine R_iinc (Dat dd_Arrays_fill_4 14 rfl) rfl rfl rfl ?_
    refine R_goto (Dat dd_Arrays_fill_4 15 rfl) rfl ?_
    exact T
  · replace T := T.2 c
    exact R_return (Dat dd_Arrays_fill_4 16 rfl) rfl T
def dl_Integer_bitCount : List (Nat × Instr × Nat) := [(0, .iload_n 0, 1), (1, .iload_n 0, 1), (2, .iconst 1, 1), (3, .iushr, 1), (4, .ldc_w 265, 3), (7, .iand, 1), (8, .isub, 1), (9, .istore_n 0, 1), (10, .iload_n 0, 1), (11, .ldc_w 266, 3), (14, .iand, 1), (15, .iload_n 0, 1), (16, .iconst 2, 1), (17, .iushr, 1), (18, .ldc_w 266, 3), (21, .iand, 1), (22, .iadd, 1), (23, .istore_n 0, 1), (24, .iload_n 0, 1), (25, .iload_n 0, 1), (26, .iconst 4, 1), (27, .iushr, 1), (28, .iadd, 1), (29, .ldc_w 267, 3), (32, .iand, 1), (33, .istore_n 0, 1), (34, .iload_n 0, 1), (35, .iload_n 0, 1), (36, .bipush 8, 2), (38, .iushr, 1), (39, .iadd, 1), (40, .istore_n 0, 1), (41, .iload_n 0, 1), (42, .iload_n 0, 1), (43, .bipush 16, 2), (45, .iushr, 1), (46, .iadd, 1), (47, .istore_n 0, 1), (48, .iload_n 0, 1), (49, .bipush 63, 2), (51, .iand, 1), (52, .ireturn, 1)]
theorem dd_Integer_bitCount : Dall 64 dl_Integer_bitCount = true := by decide +kernel
theorem t_Integer_bitCount {h : Hp} {P : Value → Hp → Prop} {p0 : Int} (T : P (.int (I (band (((band (((band (p0 - (band (ushr p0 1) 1431655765)) 858993459) + (band (ushr (p0 - (band (ushr p0 1) 1431655765)) 2) 858993459)) + (ushr ((band (p0 - (band (ushr p0 1) 1431655765)) 858993459) + (band (ushr (p0 - (band (ushr p0 1) 1431655765)) 2) 858993459)) 4)) 252645135) + (ushr (band (((band (p0 - (band (ushr p0 1) 1431655765)) 858993459) + (band (ushr (p0 - (band (ushr p0 1) 1431655765)) 2) 858993459)) + (ushr ((band (p0 - (band (ushr p0 1) 1431655765)) 858993459) + (band (ushr (p0 - (band (ushr p0 1) 1431655765)) 2) 858993459)) 4)) 252645135) 8)) + (ushr ((band (((band (p0 - (band (ushr p0 1) 1431655765)) 858993459) + (band (ushr (p0 - (band (ushr p0 1) 1431655765)) 2) 858993459)) + (ushr ((band (p0 - (band (ushr p0 1) 1431655765)) 858993459) + (band (ushr (p0 - (band (ushr p0 1) 1431655765)) 2) 858993459)) 4)) 252645135) + (ushr (band (((band (p0 - (band (ushr p0 1) 1431655765)) 858993459) + (band (ushr (p0 - (band (ushr p0 1) 1431655765)) 2) 858993459)) + (ushr ((band (p0 - (band (ushr p0 1) 1431655765)) 858993459) + (band (ushr (p0 - (band (ushr p0 1) 1431655765)) 2) 858993459)) 4)) 252645135) 8)) 16)) 63))) h) : R 64 0 [.int (I p0)] [] h P := by
  refine R_iload_n (Dat dd_Integer_bitCount 0 rfl) rfl ?_
  refine R_iload_n (Dat dd_Integer_bitCount 1 rfl) rfl ?_
  refine R_iconst (Dat dd_Integer_bitCount 2 rfl) ?_
  refine R_iushr (Dat dd_Integer_bitCount 3 rfl) ?_
  refine R_ldc_w (Dat dd_Integer_bitCount 4 rfl) (a := 1431655765) rfl ?_
  refine R_iand (Dat dd_Integer_bitCount 5 rfl) ?_
  refine R_isub (Dat dd_Integer_bitCount 6 rfl) ?_
  refine R_istore_n (Dat dd_Integer_bitCount 7 rfl) rfl rfl ?_
  refine R_iload_n (Dat dd_Integer_bitCount 8 rfl) rfl ?_
  refine R_ldc_w (Dat dd_Integer_bitCount 9 rfl) (a := 858993459) rfl ?_
  refine R_iand (Dat dd_Integer_bitCount 10 rfl) ?_
  refine R_iload_n (Dat dd_Integer_bitCount 11 rfl) rfl ?_
  refine R_iconst (Dat dd_Integer_bitCount 12 rfl) ?_
  refine R_iushr (Dat dd_Integer_bitCount 13 rfl) ?_
  refine R_ldc_w (Dat dd_Integer_bitCount 14 rfl) (a := 858993459) rfl ?_
  refine R_iand (Dat dd_Integer_bitCount 15 rfl) ?_
  refine R_iadd (Dat dd_Integer_bitCount 16 rfl) ?_
  refine R_istore_n (Dat dd_Integer_bitCount 17 rfl) rfl rfl ?_
  refine R_iload_n (Dat dd_Integer_bitCount 18 rfl) rfl ?_
  refine R_iload_n (Dat dd_Integer_bitCount 19 rfl) rfl ?_
  refine R_iconst (Dat dd_Integer_bitCount 20 rfl) ?_
  refine R_iushr (Dat dd_Integer_bitCount 21 rfl) ?_
  refine R_iadd (Dat dd_Integer_bitCount 22 rfl) ?_
  refine R_ldc_w (Dat dd_Integer_bitCount 23 rfl) (a := 252645135) rfl ?_
  refine R_iand (Dat dd_Integer_bitCount 24 rfl) ?_
  refine R_istore_n (Dat dd_Integer_bitCount 25 rfl) rfl rfl ?_
  refine R_iload_n (Dat dd_Integer_bitCount 26 rfl) rfl ?_
  refine R_iload_n (Dat dd_Integer_bitCount 27 rfl) rfl ?_
  refine R_bipush (Dat dd_Integer_bitCount 28 rfl) (a := 8) rfl ?_
  refine R_iushr (Dat dd_Integer_bitCount 29 rfl) ?_
  refine R_iadd (Dat dd_Integer_bitCount 30 rfl) ?_
  refine R_istore_n (Dat dd_Integer_bitCount 31 rfl) rfl rfl ?_
  refine R_iload_n (Dat dd_Integer_bitCount 32 rfl) rfl ?_
  refine R_iload_n (Dat dd_Integer_bitCount 33 rfl) rfl ?_
  refine R_bipush (Dat dd_Integer_bitCount 34 rfl) (a := 16) rfl ?_
  refine R_iushr (Dat dd_Integer_bitCount 35 rfl) ?_
  refine R_iadd (Dat dd_Integer_bitCount 36 rfl) ?_
  refine R_istore_n (Dat dd_Integer_bitCount 37 rfl) rfl rfl ?_
  refine R_iload_n (Dat dd_Integer_bitCount 38 rfl) rfl ?_
  refine R_bipush (Dat dd_Integer_bitCount 39 rfl) (a := 63) rfl ?_
  refine R_iand (Dat dd_Integer_bitCount 40 rfl) ?_
  exact R_ireturn (Dat dd_Integer_bitCount 41 rfl) rfl T
def dl_X_doing : List (Nat × Instr × Nat) := [(0, .aload_n 0, 1), (1, .iload_n 1, 1), (2, .iload_n 2, 1), (3, .iload_n 3, 1), (4, .iload 4, 2), (6, .invokevirtual 68, 3), (9, .istore 5, 2), (11, .iload 5, 2), (13, .ifCond .eq 6, 3), (16, .iload 5, 2), (18, .ireturn, 1), (19, .aload_n 0, 1), (20, .getfield 33, 3), (23, .iload_n 1, 1), (24, .aaload, 1), (25, .getfield 72, 3), (28, .astore 6, 2), (30, .aload 6, 2), (32, .iload_n 3, 1), (33, .iload 4, 2), (35, .invokestatic 184, 3), (38, .ifCond .ne 6, 3), (41, .bipush (-2), 2), (43, .ireturn, 1), (44, .aload_n 0, 1), (45, .invokevirtual 172, 3), (48, .astore 7, 2), (50, .aload_n 0, 1), (51, .invokevirtual 138, 3), (54, .ifCond .ne 8, 3), (57, .aload 7, 2), (59, .ifnonnull 6, 3), (62, .bipush (-3), 2), (64, .ireturn, 1), (65, .iconst 0, 1), (66, .istore 8, 2), (68, .iconst 0, 1), (69, .istore 9, 2), (71, .iload 9, 2), (73, .iload 4, 2), (75, .if_icmp .ge 27, 3), (78, .iload 8, 2), (80, .aload_n 0, 1), (81, .aload 7, 2), (83, .aload 6, 2), (85, .iload_n 3, 1), (86, .iload 9, 2), (88, .iadd, 1), (89, .iaload, 1), (90, .invokevirtual 180, 3), (93, .iadd, 1), (94, .istore 8, 2), (96, .iinc 9 1, 3), (99, .goto (-28), 3), (102, .iload 8, 2), (104, .ireturn, 1)]
theorem dd_X_doing : Dall 65 dl_X_doing = true := by decide +kernel
theorem t_X_doing {h : Hp} {P : Value → Hp → Prop} {p0 p1 p2 p3 : Int} (S : XS h) (T : R 8 0 [.ref 0, .int (I p0), .int (I p1), .int (I p2), .int (I p3), .retAddr 0] [] h (fun v h2 => R 65 9 [.ref 0, .int (I p0), .int (I p1), .int (I p2), .int (I p3), .retAddr 0, .retAddr 0, .retAddr 0, .retAddr 0, .retAddr 0] (v :: []) h2 P)) : R 65 0 [.ref 0, .int (I p0), .int (I p1), .int (I p2), .int (I p3), .retAddr 0, .retAddr 0, .retAddr 0, .retAddr 0, .retAddr 0] [] h P := by
  refine R_aload_n (Dat dd_X_doing 0 rfl) rfl rfl ?_
  refine R_iload_n (Dat dd_X_doing 1 rfl) rfl ?_
  refine R_iload_n (Dat dd_X_doing 2 rfl) rfl ?_
  refine R_iload_n (Dat dd_X_doing 3 rfl) rfl ?_
  refine R_iload (Dat dd_X_doing 4 rfl) rfl ?_
  exact R_call1 (Dat dd_X_doing 5 rfl) rfl S.t0 rfl rfl rfl rfl rfl T
theorem t_X_doing_9 {h : Hp} {P : Value → Hp → Prop} {a1 a3 a4 s0 : Int} {a2 a5 a6 a7 a8 a9 : Value} (S : XS h) (T : (rng s0) ∧ ((s0 = 0 → (0 ≤ a1) ∧ (a1 < 4) ∧ (fl h 7 (a1).toNat = true) ∧ (tg h (child 7 (a1).toNat) ≠ 0) ∧ (tg h (child 7 (a1).toNat) = 10) ∧ (fl h (child 7 (a1).toNat) 0 = true) ∧ (tg h (child (child 7 (a1).toNat) 0) ≠ 0) ∧ R 66 0 [.ref (child (child 7 (a1).toNat) 0), .int (I a3), .int (I a4), .retAddr 0] [] h (fun v h2 => R 65 38 [.ref 0, .int (I a1), a2, .int (I a3), .int (I a4), .int (I s0), .ref (child (child 7 (a1).toNat) 0), a7, a8, a9] (v :: []) h2 P)) ∧ (¬ s0 = 0 → P (.int (I s0)) h))) : R 65 9 [.ref 0, .int (I a1), a2, .int (I a3), .int (I a4), a5, a6, a7, a8, a9] [.int (I s0)] h P := by
  refine R_istore (Dat dd_X_doing 6 rfl) rfl rfl ?_
  refine R_iload (Dat dd_X_doing 7 rfl) rfl ?_
  obtain ⟨g1, T⟩ := T
  refine R_if_eq (Dat dd_X_doing 8 rfl) rfl g1  (fun c => ?_) (fun c => ?_)
  · replace T := T.1 c
    refine R_aload_n (Dat dd_X_doing 11 rfl) rfl rfl ?_
    refine R_getr (Dat dd_X_doing 12 rfl) rfl rfl (tok S.t0) S.f0_9 (q := 7) rfl (tnz S.t7) ?_
    refine R_iload_n (Dat dd_X_doing 13 rfl) rfl ?_
    obtain ⟨g2, T⟩ := T
    obtain ⟨g3, T⟩ := T
    obtain ⟨g4, T⟩ := T
    obtain ⟨g5, T⟩ := T
    refine R_aaload (Dat dd_X_doing 14 rfl) (by rw [show tg h 7 = 23 from S.t7]; decide) (lnle (show ln h 7 = 4 from S.l7) (by decide)) g2 (lnlt (show ln h 7 = 4 from S.l7) g3) g4 rfl g5 ?_
    obtain ⟨g6, T⟩ := T
    obtain ⟨g7, T⟩ := T
    obtain ⟨g8, T⟩ := T
    refine R_getr (Dat dd_X_doing 15 rfl) rfl rfl (tok g6) g7 (q := child (child 7 (a1).toNat) 0) rfl g8 ?_
    refine R_astore (Dat dd_X_doing 16 rfl) rfl rfl rfl ?_
    refine R_aload (Dat dd_X_doing 17 rfl) rfl rfl ?_
    refine R_iload_n (Dat dd_X_doing 18 rfl) rfl ?_
    refine R_iload (Dat dd_X_doing 19 rfl) rfl ?_
    exact R_call0 (Dat dd_X_doing 20 rfl) rfl rfl rfl rfl rfl rfl T
  · replace T := T.2 c
    refine R_iload (Dat dd_X_doing 9 rfl) rfl ?_
    exact R_ireturn (Dat dd_X_doing 10 rfl) rfl T
theorem t_X_doing_38 {h : Hp} {P : Value → Hp → Prop} {a3 a4 s0 : Int} {a6 : Nat} {a1 a2 a5 a7 a8 a9 : Value} (S : XS h) (T : (rng s0) ∧ ((s0 = 0 → P (.int (I (-2))) h) ∧ (¬ s0 = 0 → R 50 0 [.ref 0] [] h (fun v h2 => R 65 48 [.ref 0, a1, a2, .int (I a3), .int (I a4), a5, .ref a6, a7, a8, a9] (v :: []) h2 P)))) : R 65 38 [.ref 0, a1, a2, .int (I a3), .int (I a4), a5, .ref a6, a7, a8, a9] [.int (I s0)] h P := by
  obtain ⟨g1, T⟩ := T
  refine R_if_ne (Dat dd_X_doing 21 rfl) rfl g1  (fun c => ?_) (fun c => ?_)
  · replace T := T.1 c
    refine R_bipush (Dat dd_X_doing 22 rfl) (a := (-2)) rfl ?_
    exact R_ireturn (Dat dd_X_doing 23 rfl) rfl T
  · replace T := T.2 c
    refine R_aload_n (Dat dd_X_doing 24 rfl) rfl rfl ?_
    exact R_call1 (Dat dd_X_doing 25 rfl) rfl S.t0 rfl rfl rfl rfl rfl T
theorem t_X_doing_48 {h : Hp} {P : Value → Hp → Prop} {a3 a4 : Int} {a6 s0 : Nat} {a1 a2 a5 a7 a8 a9 : Value} (S : XS h) (T : R 36 0 [.ref 0] [] h (fun v h2 => R 65 54 [.ref 0, a1, a2, .int (I a3), .int (I a4), a5, .ref a6, .ref s0, a8, a9] (v :: []) h2 P)) : R 65 48 [.ref 0, a1, a2, .int (I a3), .int (I a4), a5, .ref a6, a7, a8, a9] [.ref s0] h P := by
  refine R_astore (Dat dd_X_doing 26 rfl) rfl rfl rfl ?_
  refine R_aload_n (Dat dd_X_doing 27 rfl) rfl rfl ?_
  exact R_call1 (Dat dd_X_doing 28 rfl) rfl S.t0 rfl rfl rfl rfl rfl T
theorem t_X_doing_48b {h : Hp} {P : Value → Hp → Prop} {a3 a4 : Int} {a6 : Nat} {a1 a2 a5 a7 a8 a9 : Value} (S : XS h) (T : R 36 0 [.ref 0] [] h (fun v h2 => R 65 54 [.ref 0, a1, a2, .int (I a3), .int (I a4), a5, .ref a6, .null, a8, a9] (v :: []) h2 P)) : R 65 48 [.ref 0, a1, a2, .int (I a3), .int (I a4), a5, .ref a6, a7, a8, a9] [.null] h P := by
  refine R_astore (Dat dd_X_doing 26 rfl) rfl rfl rfl ?_
  refine R_aload_n (Dat dd_X_doing 27 rfl) rfl rfl ?_
  exact R_call1 (Dat dd_X_doing 28 rfl) rfl S.t0 rfl rfl rfl rfl rfl T
theorem t_X_doing_54 {h : Hp} {P : Value → Hp → Prop} {a3 a4 s0 : Int} {a6 a7 : Nat} {a1 a2 a5 a8 a9 : Value} (S : XS h) (T : (rng s0) ∧ ((s0 = 0 → R 65 71 [.ref 0, a1, a2, .int (I a3), .int (I a4), a5, .ref a6, .ref a7, .int (I 0), .int (I 0)] [] h P) ∧ (¬ s0 = 0 → P (.int (I (-3))) h))) : R 65 54 [.ref 0, a1, a2, .int (I a3), .int (I a4), a5, .ref a6, .ref a7, a8, a9] [.int (I s0)] h P := by
  obtain ⟨g1, T⟩ := T
  refine R_if_ne (Dat dd_X_doing 29 rfl) rfl g1  (fun c => ?_) (fun c => ?_)
  · replace T := T.1 c
    refine R_aload (Dat dd_X_doing 30 rfl) rfl rfl ?_
    refine R_ifnn1 (Dat dd_X_doing 31 rfl) rfl ?_
    refine R_iconst (Dat dd_X_doing 34 rfl) ?_
    refine R_istore (Dat dd_X_doing 35 rfl) rfl rfl ?_
    refine R_iconst (Dat dd_X_doing 36 rfl) ?_
    refine R_istore (Dat dd_X_doing 37 rfl) rfl rfl ?_
    exact T
  · replace T := T.2 c
    refine R_bipush (Dat dd_X_doing 32 rfl) (a := (-3)) rfl ?_
    exact R_ireturn (Dat dd_X_doing 33 rfl) rfl T
theorem t_X_doing_54b {h : Hp} {P : Value → Hp → Prop} {a3 a4 s0 : Int} {a6 : Nat} {a1 a2 a5 a8 a9 : Value} (S : XS h) (T : (rng s0) ∧ ((s0 = 0 → P (.int (I (-3))) h) ∧ (¬ s0 = 0 → P (.int (I (-3))) h))) : R 65 54 [.ref 0, a1, a2, .int (I a3), .int (I a4), a5, .ref a6, .null, a8, a9] [.int (I s0)] h P := by
  obtain ⟨g1, T⟩ := T
  refine R_if_ne (Dat dd_X_doing 29 rfl) rfl g1  (fun c => ?_) (fun c => ?_)
  · replace T := T.1 c
    refine R_aload (Dat dd_X_doing 30 rfl) rfl rfl ?_
    refine R_ifnn0 (Dat dd_X_doing 31 rfl) ?_
    refine R_bipush (Dat dd_X_doing 32 rfl) (a := (-3)) rfl ?_
    exact R_ireturn (Dat dd_X_doing 33 rfl) rfl T
  · replace T := T.2 c
    refine R_bipush (Dat dd_X_doing 32 rfl) (a := (-3)) rfl ?_
    exact R_ireturn (Dat dd_X_doing 33 rfl) rfl T
theorem t_X_doing_71 {h : Hp} {P : Value → Hp → Prop} {a3 a4 a8 a9 : Int} {a6 a7 : Nat} {a1 a2 a5 : Value} (S : XS h) (T : (rng a9) ∧ (rng a4) ∧ ((a9 < a4 → (tg h a6 = 20 ∨ tg h a6 = 30) ∧ ((ln h a6 : Int) ≤ 2147483648) ∧ (0 ≤ (a3 + a9)) ∧ ((a3 + a9) < ln h a6) ∧ (okg 65 54 [.ref 0, a1, a2, .int (I a3), .int (I a4), a5, .ref a6, .ref a7, .int (I a8), .int (I a9)] [.int (I a8)] [.ref 0, .ref a7, .int (I (iv h a6 (a3 + a9)))] = true) ∧ R 54 0 [.ref 0, .ref a7, .int (I (iv h a6 (a3 + a9))), .retAddr 0] [] h (fun v h2 => R 65 93 [.ref 0, a1, a2, .int (I a3), .int (I a4), a5, .ref a6, .ref a7, .int (I a8), .int (I a9)] (v :: [.int (I a8)]) h2 P)) ∧ (¬ a9 < a4 → P (.int (I a8)) h))) : R 65 71 [.ref 0, a1, a2, .int (I a3), .int (I a4), a5, .ref a6, .ref a7, .int (I a8), .int (I a9)] [] h P := by
  refine R_iload (Dat dd_X_doing 38 rfl) rfl ?_
  refine R_iload (Dat dd_X_doing 39 rfl) rfl ?_
  obtain ⟨g1, T⟩ := T
  obtain ⟨g2, T⟩ := T
  refine R_ic_ge (Dat dd_X_doing 40 rfl) rfl g1 g2 (fun c => ?_) (fun c => ?_)
  · replace T := T.1 c
    refine R_iload (Dat dd_X_doing 41 rfl) rfl ?_
    refine R_aload_n (Dat dd_X_doing 42 rfl) rfl rfl ?_
    refine R_aload (Dat dd_X_doing 43 rfl) rfl rfl ?_
    refine R_aload (Dat dd_X_doing 44 rfl) rfl rfl ?_
    refine R_iload_n (Dat dd_X_doing 45 rfl) rfl ?_
    refine R_iload (Dat dd_X_doing 46 rfl) rfl ?_
    refine R_iadd (Dat dd_X_doing 47 rfl) ?_
    obtain ⟨g3, T⟩ := T
    obtain ⟨g4, T⟩ := T
    obtain ⟨g5, T⟩ := T
    obtain ⟨g6, T⟩ := T
    refine R_iaload (Dat dd_X_doing 48 rfl) g3 g4 g5 g6 ?_
    obtain ⟨g7, T⟩ := T
    exact R_call1 (Dat dd_X_doing 49 rfl) rfl S.t0 rfl rfl rfl g7 rfl T
  · replace T := T.2 c
    refine R_iload (Dat dd_X_doing 54 rfl) rfl ?_
    exact R_ireturn (Dat dd_X_doing 55 rfl) rfl T
theorem t_X_doing_93 {h : Hp} {P : Value → Hp → Prop} {a3 a4 a9 s0 s1 : Int} {a6 a7 : Nat} {a1 a2 a5 a8 : Value} (S : XS h) (T : R 65 71 [.ref 0, a1, a2, .int (I a3), .int (I a4), a5, .ref a6, .ref a7, .int (I (s1 + s0)), .int (I (a9 + 1))] [] h P) : R 65 93 [.ref 0, a1, a2, .int (I a3), .int (I a4), a5, .ref a6, .ref a7, a8, .int (I a9)] [.int (I s0), .int (I s1)] h P := by
  refine R_iadd (Dat dd_X_doing 50 rfl) ?_
  refine R_istore (Dat dd_X_doing 51 rfl) rfl rfl ?_
  refine R_iinc (Dat dd_X_doing 52 rfl) rfl rfl rfl ?_
  refine R_goto (Dat dd_X_doing 53 rfl) rfl ?_
  exact T
def dl_X_allHard : List (Nat × Instr × Nat) := [(0, .iload_n 1, 1), (1, .istore_n 3, 1), (2, .iload_n 3, 1), (3, .iload_n 1, 1), (4, .iload_n 2, 1), (5, .iadd, 1), (6, .if_icmp .ge 20, 3), (9, .aload_n 0, 1), (10, .iload_n 3, 1), (11, .iaload, 1), (12, .invokestatic 169, 3), (15, .ifCond .eq 5, 3), (18, .iconst 0, 1), (19, .ireturn, 1), (20, .iinc 3 1, 3), (23, .goto (-21), 3), (26, .iconst 1, 1), (27, .ireturn, 1)]
theorem dd_X_allHard : Dall 66 dl_X_allHard = true := by decide +kernel
theorem t_X_allHard {h : Hp} {P : Value → Hp → Prop} {p1 p2 : Int} {p0 : Nat} (T : R 66 2 [.ref p0, .int (I p1), .int (I p2), .int (I p1)] [] h P) : R 66 0 [.ref p0, .int (I p1), .int (I p2), .retAddr 0] [] h P := by
  refine R_iload_n (Dat dd_X_allHard 0 rfl) rfl ?_
  refine R_istore_n (Dat dd_X_allHard 1 rfl) rfl rfl ?_
  exact T
theorem t_X_allHard_2 {h : Hp} {P : Value → Hp → Prop} {a1 a2 a3 : Int} {a0 : Nat} (T : (rng a3) ∧ (rng (a1 + a2)) ∧ ((a3 < (a1 + a2) → (tg h a0 = 20 ∨ tg h a0 = 30) ∧ ((ln h a0 : Int) ≤ 2147483648) ∧ (0 ≤ a3) ∧ (a3 < ln h a0) ∧ R 49 0 [.int (I (iv h a0 a3))] [] h (fun v h2 => R 66 15 [.ref a0, .int (I a1), .int (I a2), .int (I a3)] (v :: []) h2 P)) ∧ (¬ a3 < (a1 + a2) → P (.int (I 1)) h))) : R 66 2 [.ref a0, .int (I a1), .int (I a2), .int (I a3)] [] h P := by
  refine R_iload_n (Dat dd_X_allHard 2 rfl) rfl ?_
  refine R_iload_n (Dat dd_X_allHard 3 rfl) rfl ?_
  refine R_iload_n (Dat dd_X_allHard 4 rfl) rfl ?_
  refine R_iadd (Dat dd_X_allHard 5 rfl) ?_
  obtain ⟨g1, T⟩ := T
  obtain ⟨g2, T⟩ := T
  refine R_ic_ge (Dat dd_X_allHard 6 rfl) rfl g1 g2 (fun c => ?_) (fun c => ?_)
  · replace T := T.1 c
    refine R_aload_n (Dat dd_X_allHard 7 rfl) rfl rfl ?_
    refine R_iload_n (Dat dd_X_allHard 8 rfl) rfl ?_
    obtain ⟨g3, T⟩ := T
    obtain ⟨g4, T⟩ := T
    obtain ⟨g5, T⟩ := T
    obtain ⟨g6, T⟩ := T
    refine R_iaload (Dat dd_X_allHard 9 rfl) g3 g4 g5 g6 ?_
    exact R_call0 (Dat dd_X_allHard 10 rfl) rfl rfl rfl rfl rfl rfl T
  · replace T := T.2 c
    refine R_iconst (Dat dd_X_allHard 16 rfl) ?_
    exact R_ireturn (Dat dd_X_allHard 17 rfl) rfl T
theorem t_X_allHard_15 {h : Hp} {P : Value → Hp → Prop} {a1 a2 a3 s0 : Int} {a0 : Nat} (T : (rng s0) ∧ ((s0 = 0 → R 66 2 [.ref a0, .int (I a1), .int (I a2), .int (I (a3 + 1))] [] h P) ∧ (¬ s0 = 0 → P (.int (I 0)) h))) : R 66 15 [.ref a0, .int (I a1), .int (I a2), .int (I a3)] [.int (I s0)] h P := by
  obtain ⟨g1, T⟩ := T
  refine R_if_eq (Dat dd_X_allHard 11 rfl) rfl g1  (fun c => ?_) (fun c => ?_)
  · replace T := T.1 c
    refine R_iinc (Dat dd_X_allHard 14 rfl) rfl rfl rfl ?_
    refine R_goto (Dat dd_X_allHard 15 rfl) rfl ?_
    exact T
  · replace T := T.2 c
    refine R_iconst (Dat dd_X_allHard 12 rfl) ?_
    exact R_ireturn (Dat dd_X_allHard 13 rfl) rfl T
def dl_X_turn : List (Nat × Instr × Nat) := [(0, .aload_n 0, 1), (1, .invokevirtual 138, 3), (4, .ifCond .eq 6, 3), (7, .bipush (-3), 2), (9, .ireturn, 1), (10, .aload_n 0, 1), (11, .aload_n 0, 1), (12, .aload_n 0, 1), (13, .getfield 86, 3), (16, .invokevirtual 188, 3), (19, .putfield 86, 3), (22, .aload_n 0, 1), (23, .getfield 86, 3), (26, .ireturn, 1)]
theorem dd_X_turn : Dall 67 dl_X_turn = true := by decide +kernel
theorem t_X_turn {h : Hp} {P : Value → Hp → Prop}  (S : XS h) (T : R 36 0 [.ref 0] [] h (fun v h2 => R 67 4 [.ref 0] (v :: []) h2 P)) : R 67 0 [.ref 0] [] h P := by
  refine R_aload_n (Dat dd_X_turn 0 rfl) rfl rfl ?_
  exact R_call1 (Dat dd_X_turn 1 rfl) rfl S.t0 rfl rfl rfl rfl rfl T
theorem t_X_turn_4 {h : Hp} {P : Value → Hp → Prop} {s0 : Int} (S : XS h) (T : (rng s0) ∧ ((s0 = 0 → R 68 0 [.ref 0, .int (I (iv h 0 4))] [] h (fun v h2 => R 67 19 [.ref 0] (v :: [.ref 0]) h2 P)) ∧ (¬ s0 = 0 → P (.int (I (-3))) h))) : R 67 4 [.ref 0] [.int (I s0)] h P := by
  obtain ⟨g1, T⟩ := T
  refine R_if_eq (Dat dd_X_turn 2 rfl) rfl g1  (fun c => ?_) (fun c => ?_)
  · replace T := T.1 c
    refine R_aload_n (Dat dd_X_turn 5 rfl) rfl rfl ?_
    refine R_aload_n (Dat dd_X_turn 6 rfl) rfl rfl ?_
    refine R_aload_n (Dat dd_X_turn 7 rfl) rfl rfl ?_
    refine R_geti (Dat dd_X_turn 8 rfl) rfl rfl (tok S.t0) ?_
    exact R_call1 (Dat dd_X_turn 9 rfl) rfl S.t0 rfl rfl rfl rfl rfl T
  · replace T := T.2 c
    refine R_bipush (Dat dd_X_turn 3 rfl) (a := (-3)) rfl ?_
    exact R_ireturn (Dat dd_X_turn 4 rfl) rfl T
theorem t_X_turn_19 {h : Hp} {P : Value → Hp → Prop} {s0 : Int} (S : XS h) (T : P (.int (I (iv (setI h 0 4 (wr s0)) 0 4))) (setI h 0 4 (wr s0))) : R 67 19 [.ref 0] [.int (I s0), .ref 0] h P := by
  refine R_puti (Dat dd_X_turn 10 rfl) rfl rfl rfl (tok S.t0) rfl (v := wr s0) rfl ?_
  refine R_aload_n (Dat dd_X_turn 11 rfl) rfl rfl ?_
  refine R_geti (Dat dd_X_turn 12 rfl) rfl rfl (tok S.t0) ?_
  exact R_ireturn (Dat dd_X_turn 13 rfl) rfl T
def dl_X_turned : List (Nat × Instr × Nat) := [(0, .aload_n 0, 1), (1, .getfield 12, 3), (4, .aload_n 0, 1), (5, .getfield 12, 3), (8, .aload_n 0, 1), (9, .getfield 12, 3), (12, .iload_n 1, 1), (13, .invokevirtual 124, 3), (16, .invokevirtual 351, 3), (19, .invokevirtual 348, 3), (22, .ireturn, 1)]
theorem dd_X_turned : Dall 68 dl_X_turned = true := by decide +kernel
theorem t_X_turned {h : Hp} {P : Value → Hp → Prop} {p0 : Int} (S : XS h) (T : R 29 0 [.ref 1, .int (I p0)] [] h (fun v h2 => R 68 16 [.ref 0, .int (I p0)] (v :: [.ref 1, .ref 1]) h2 P)) : R 68 0 [.ref 0, .int (I p0)] [] h P := by
  refine R_aload_n (Dat dd_X_turned 0 rfl) rfl rfl ?_
  refine R_getr (Dat dd_X_turned 1 rfl) rfl rfl (tok S.t0) S.f0_0 (q := 1) rfl (tnz S.t1) ?_
  refine R_aload_n (Dat dd_X_turned 2 rfl) rfl rfl ?_
  refine R_getr (Dat dd_X_turned 3 rfl) rfl rfl (tok S.t0) S.f0_0 (q := 1) rfl (tnz S.t1) ?_
  refine R_aload_n (Dat dd_X_turned 4 rfl) rfl rfl ?_
  refine R_getr (Dat dd_X_turned 5 rfl) rfl rfl (tok S.t0) S.f0_0 (q := 1) rfl (tnz S.t1) ?_
  refine R_iload_n (Dat dd_X_turned 6 rfl) rfl ?_
  exact R_call1 (Dat dd_X_turned 7 rfl) rfl S.t1 rfl rfl rfl rfl rfl T
theorem t_X_turned_16 {h : Hp} {P : Value → Hp → Prop} {s0 : Int} {a0 a1 : Value} (S : XS h) (T : R 69 0 [.ref 1, .int (I s0), .retAddr 0, .retAddr 0] [] h (fun v h2 => R 68 19 [a0, a1] (v :: [.ref 1]) h2 P)) : R 68 16 [a0, a1] [.int (I s0), .ref 1, .ref 1] h P := by
  exact R_call1 (Dat dd_X_turned 8 rfl) rfl S.t1 rfl rfl rfl rfl rfl T
theorem t_X_turned_19 {h : Hp} {P : Value → Hp → Prop} {s0 : Int} {a0 a1 : Value} (S : XS h) (T : R 63 0 [.ref 1, .int (I s0), .retAddr 0, .retAddr 0, .retAddr 0, .retAddr 0] [] h (fun v h2 => R 68 22 [a0, a1] (v :: []) h2 P)) : R 68 19 [a0, a1] [.int (I s0), .ref 1] h P := by
  exact R_call1 (Dat dd_X_turned 9 rfl) rfl S.t1 rfl rfl rfl rfl rfl T
theorem t_X_turned_22 {h : Hp} {P : Value → Hp → Prop} {s0 : Int} {a0 a1 : Value} (S : XS h) (T : P (.int (I s0)) h) : R 68 22 [a0, a1] [.int (I s0)] h P := by
  exact R_ireturn (Dat dd_X_turned 10 rfl) rfl T
def dl_X_spoon : List (Nat × Instr × Nat) := [(0, .aload_n 0, 1), (1, .invokevirtual 138, 3), (4, .ifCond .eq 6, 3), (7, .bipush (-3), 2), (9, .ireturn, 1), (10, .aload_n 0, 1), (11, .getfield 12, 3), (14, .aload_n 0, 1), (15, .getfield 86, 3), (18, .invokevirtual 124, 3), (21, .iconst 0, 1), (22, .invokestatic 135, 3), (25, .istore_n 1, 1), (26, .aload_n 0, 1), (27, .aload_n 0, 1), (28, .aload_n 0, 1), (29, .getfield 86, 3), (32, .invokevirtual 191, 3), (35, .putfield 86, 3), (38, .iload_n 1, 1), (39, .ireturn, 1)]
theorem dd_X_spoon : Dall 70 dl_X_spoon = true := by decide +kernel
theorem t_X_spoon {h : Hp} {P : Value → Hp → Prop}  (S : XS h) (T : R 36 0 [.ref 0] [] h (fun v h2 => R 70 4 [.ref 0, .retAddr 0] (v :: []) h2 P)) : R 70 0 [.ref 0, .retAddr 0] [] h P := by
  refine R_aload_n (Dat dd_X_spoon 0 rfl) rfl rfl ?_
  exact R_call1 (Dat dd_X_spoon 1 rfl) rfl S.t0 rfl rfl rfl rfl rfl T
theorem t_X_spoon_4 {h : Hp} {P : Value → Hp → Prop} {s0 : Int} {a1 : Value} (S : XS h) (T : (rng s0) ∧ ((s0 = 0 → R 29 0 [.ref 1, .int (I (iv h 0 4))] [] h (fun v h2 => R 70 21 [.ref 0, a1] (v :: []) h2 P)) ∧ (¬ s0 = 0 → P (.int (I (-3))) h))) : R 70 4 [.ref 0, a1] [.int (I s0)] h P := by
  obtain ⟨g1, T⟩ := T
  refine R_if_eq (Dat dd_X_spoon 2 rfl) rfl g1  (fun c => ?_) (fun c => ?_)
  · replace T := T.1 c
    refine R_aload_n (Dat dd_X_spoon 5 rfl) rfl rfl ?_
    refine R_getr (Dat dd_X_spoon 6 rfl) rfl rfl (tok S.t0) S.f0_0 (q := 1) rfl (tnz S.t1) ?_
    refine R_aload_n (Dat dd_X_spoon 7 rfl) rfl rfl ?_
    refine R_geti (Dat dd_X_spoon 8 rfl) rfl rfl (tok S.t0) ?_
    exact R_call1 (Dat dd_X_spoon 9 rfl) rfl S.t1 rfl rfl rfl rfl rfl T
  · replace T := T.2 c
    refine R_bipush (Dat dd_X_spoon 3 rfl) (a := (-3)) rfl ?_
    exact R_ireturn (Dat dd_X_spoon 4 rfl) rfl T
theorem t_X_spoon_21 {h : Hp} {P : Value → Hp → Prop} {s0 : Int} {a1 : Value} (S : XS h) (T : R 32 0 [.int (I s0), .int (I 0)] [] h (fun v h2 => R 70 25 [.ref 0, a1] (v :: []) h2 P)) : R 70 21 [.ref 0, a1] [.int (I s0)] h P := by
  refine R_iconst (Dat dd_X_spoon 10 rfl) ?_
  exact R_call0 (Dat dd_X_spoon 11 rfl) rfl rfl rfl rfl rfl rfl T
theorem t_X_spoon_25 {h : Hp} {P : Value → Hp → Prop} {s0 : Int} {a1 : Value} (S : XS h) (T : R 71 0 [.ref 0, .int (I (iv h 0 4))] [] h (fun v h2 => R 70 35 [.ref 0, .int (I s0)] (v :: [.ref 0]) h2 P)) : R 70 25 [.ref 0, a1] [.int (I s0)] h P := by
  refine R_istore_n (Dat dd_X_spoon 12 rfl) rfl rfl ?_
  refine R_aload_n (Dat dd_X_spoon 13 rfl) rfl rfl ?_
  refine R_aload_n (Dat dd_X_spoon 14 rfl) rfl rfl ?_
  refine R_aload_n (Dat dd_X_spoon 15 rfl) rfl rfl ?_
  refine R_geti (Dat dd_X_spoon 16 rfl) rfl rfl (tok S.t0) ?_
  exact R_call1 (Dat dd_X_spoon 17 rfl) rfl S.t0 rfl rfl rfl rfl rfl T
theorem t_X_spoon_35 {h : Hp} {P : Value → Hp → Prop} {a1 s0 : Int} {a0 : Value} (S : XS h) (T : P (.int (I a1)) (setI h 0 4 (wr s0))) : R 70 35 [a0, .int (I a1)] [.int (I s0), .ref 0] h P := by
  refine R_puti (Dat dd_X_spoon 18 rfl) rfl rfl rfl (tok S.t0) rfl (v := wr s0) rfl ?_
  refine R_iload_n (Dat dd_X_spoon 19 rfl) rfl ?_
  exact R_ireturn (Dat dd_X_spoon 20 rfl) rfl T
def dl_X_spooned : List (Nat × Instr × Nat) := [(0, .aload_n 0, 1), (1, .getfield 12, 3), (4, .aload_n 0, 1), (5, .getfield 12, 3), (8, .aload_n 0, 1), (9, .getfield 12, 3), (12, .iload_n 1, 1), (13, .invokevirtual 124, 3), (16, .invokevirtual 354, 3), (19, .invokevirtual 348, 3), (22, .ireturn, 1)]
theorem dd_X_spooned : Dall 71 dl_X_spooned = true := by decide +kernel
theorem t_X_spooned {h : Hp} {P : Value → Hp → Prop} {p0 : Int} (S : XS h) (T : R 29 0 [.ref 1, .int (I p0)] [] h (fun v h2 => R 71 16 [.ref 0, .int (I p0)] (v :: [.ref 1, .ref 1]) h2 P)) : R 71 0 [.ref 0, .int (I p0)] [] h P := by
  refine R_aload_n (Dat dd_X_spooned 0 rfl) rfl rfl ?_
  refine R_getr (Dat dd_X_spooned 1 rfl) rfl rfl (tok S.t0) S.f0_0 (q := 1) rfl (tnz S.t1) ?_
  refine R_aload_n (Dat dd_X_spooned 2 rfl) rfl rfl ?_
  refine R_getr (Dat dd_X_spooned 3 rfl) rfl rfl (tok S.t0) S.f0_0 (q := 1) rfl (tnz S.t1) ?_
  refine R_aload_n (Dat dd_X_spooned 4 rfl) rfl rfl ?_
  refine R_getr (Dat dd_X_spooned 5 rfl) rfl rfl (tok S.t0) S.f0_0 (q := 1) rfl (tnz S.t1) ?_
  refine R_iload_n (Dat dd_X_spooned 6 rfl) rfl ?_
  exact R_call1 (Dat dd_X_spooned 7 rfl) rfl S.t1 rfl rfl rfl rfl rfl T
theorem t_X_spooned_16 {h : Hp} {P : Value → Hp → Prop} {s0 : Int} {a0 a1 : Value} (S : XS h) (T : R 72 0 [.ref 1, .int (I s0)] [] h (fun v h2 => R 71 19 [a0, a1] (v :: [.ref 1]) h2 P)) : R 71 16 [a0, a1] [.int (I s0), .ref 1, .ref 1] h P := by
  exact R_call1 (Dat dd_X_spooned 8 rfl) rfl S.t1 rfl rfl rfl rfl rfl T
theorem t_X_spooned_19 {h : Hp} {P : Value → Hp → Prop} {s0 : Int} {a0 a1 : Value} (S : XS h) (T : R 63 0 [.ref 1, .int (I s0), .retAddr 0, .retAddr 0, .retAddr 0, .retAddr 0] [] h (fun v h2 => R 71 22 [a0, a1] (v :: []) h2 P)) : R 71 19 [a0, a1] [.int (I s0), .ref 1] h P := by
  exact R_call1 (Dat dd_X_spooned 9 rfl) rfl S.t1 rfl rfl rfl rfl rfl T
theorem t_X_spooned_22 {h : Hp} {P : Value → Hp → Prop} {s0 : Int} {a0 a1 : Value} (S : XS h) (T : P (.int (I s0)) h) : R 71 22 [a0, a1] [.int (I s0)] h P := by
  exact R_ireturn (Dat dd_X_spooned 10 rfl) rfl T
def dl_X_next : List (Nat × Instr × Nat) := [(0, .aload_n 0, 1), (1, .iload_n 1, 1), (2, .invokevirtual 142, 3), (5, .ifCond .eq 5, 3), (8, .iconst (-1), 1), (9, .ireturn, 1), (10, .iload_n 2, 1), (11, .invokestatic 169, 3), (14, .ifCond .eq 6, 3), (17, .bipush (-2), 2), (19, .ireturn, 1), (20, .aload_n 0, 1), (21, .invokevirtual 172, 3), (24, .astore_n 3, 1), (25, .aload_n 3, 1), (26, .ifnonnull 6, 3), (29, .bipush (-3), 2), (31, .ireturn, 1), (32, .aload_n 0, 1), (33, .aload_n 3, 1), (34, .iload_n 2, 1), (35, .invokevirtual 194, 3), (38, .aload_n 0, 1), (39, .getfield 12, 3), (42, .iload_n 1, 1), (43, .invokevirtual 198, 3), (46, .ireturn, 1)]
theorem dd_X_next : Dall 73 dl_X_next = true := by decide +kernel
theorem t_X_next {h : Hp} {P : Value → Hp → Prop} {p0 p1 : Int} (S : XS h) (T : R 38 0 [.ref 0, .int (I p0)] [] h (fun v h2 => R 73 5 [.ref 0, .int (I p0), .int (I p1), .retAddr 0] (v :: []) h2 P)) : R 73 0 [.ref 0, .int (I p0), .int (I p1), .retAddr 0] [] h P := by
  refine R_aload_n (Dat dd_X_next 0 rfl) rfl rfl ?_
  refine R_iload_n (Dat dd_X_next 1 rfl) rfl ?_
  exact R_call1 (Dat dd_X_next 2 rfl) rfl S.t0 rfl rfl rfl rfl rfl T
theorem t_X_next_5 {h : Hp} {P : Value → Hp → Prop} {a1 a2 s0 : Int} {a3 : Value} (S : XS h) (T : (rng s0) ∧ ((s0 = 0 → R 49 0 [.int (I a2)] [] h (fun v h2 => R 73 14 [.ref 0, .int (I a1), .int (I a2), a3] (v :: []) h2 P)) ∧ (¬ s0 = 0 → P (.int (I (-1))) h))) : R 73 5 [.ref 0, .int (I a1), .int (I a2), a3] [.int (I s0)] h P := by
  obtain ⟨g1, T⟩ := T
  refine R_if_eq (Dat dd_X_next 3 rfl) rfl g1  (fun c => ?_) (fun c => ?_)
  · replace T := T.1 c
    refine R_iload_n (Dat dd_X_next 6 rfl) rfl ?_
    exact R_call0 (Dat dd_X_next 7 rfl) rfl rfl rfl rfl rfl rfl T
  · replace T := T.2 c
    refine R_iconst (Dat dd_X_next 4 rfl) ?_
    exact R_ireturn (Dat dd_X_next 5 rfl) rfl T
theorem t_X_next_14 {h : Hp} {P : Value → Hp → Prop} {a1 a2 s0 : Int} {a3 : Value} (S : XS h) (T : (rng s0) ∧ ((s0 = 0 → R 50 0 [.ref 0] [] h (fun v h2 => R 73 24 [.ref 0, .int (I a1), .int (I a2), a3] (v :: []) h2 P)) ∧ (¬ s0 = 0 → P (.int (I (-2))) h))) : R 73 14 [.ref 0, .int (I a1), .int (I a2), a3] [.int (I s0)] h P := by
  obtain ⟨g1, T⟩ := T
  refine R_if_eq (Dat dd_X_next 8 rfl) rfl g1  (fun c => ?_) (fun c => ?_)
  · replace T := T.1 c
    refine R_aload_n (Dat dd_X_next 11 rfl) rfl rfl ?_
    exact R_call1 (Dat dd_X_next 12 rfl) rfl S.t0 rfl rfl rfl rfl rfl T
  · replace T := T.2 c
    refine R_bipush (Dat dd_X_next 9 rfl) (a := (-2)) rfl ?_
    exact R_ireturn (Dat dd_X_next 10 rfl) rfl T
theorem t_X_next_24 {h : Hp} {P : Value → Hp → Prop} {a1 a2 : Int} {s0 : Nat} {a3 : Value} (S : XS h) (T : (okg 73 55 [.ref 0, .int (I a1), .int (I a2), .ref s0] [] [.ref 0, .ref s0, .int (I a2)] = true) ∧ R 55 0 [.ref 0, .ref s0, .int (I a2), .retAddr 0] [] h (fun v h2 => R 73 38 [.ref 0, .int (I a1), .int (I a2), .ref s0] (v :: []) h2 P)) : R 73 24 [.ref 0, .int (I a1), .int (I a2), a3] [.ref s0] h P := by
  refine R_astore_n (Dat dd_X_next 13 rfl) rfl rfl rfl ?_
  refine R_aload_n (Dat dd_X_next 14 rfl) rfl rfl ?_
  refine R_ifnn1 (Dat dd_X_next 15 rfl) rfl ?_
  refine R_aload_n (Dat dd_X_next 18 rfl) rfl rfl ?_
  refine R_aload_n (Dat dd_X_next 19 rfl) rfl rfl ?_
  refine R_iload_n (Dat dd_X_next 20 rfl) rfl ?_
  obtain ⟨g1, T⟩ := T
  exact R_call1 (Dat dd_X_next 21 rfl) rfl S.t0 rfl rfl rfl g1 rfl T
theorem t_X_next_24b {h : Hp} {P : Value → Hp → Prop} {a1 a2 : Int} {a3 : Value} (S : XS h) (T : P (.int (I (-3))) h) : R 73 24 [.ref 0, .int (I a1), .int (I a2), a3] [.null] h P := by
  refine R_astore_n (Dat dd_X_next 13 rfl) rfl rfl rfl ?_
  refine R_aload_n (Dat dd_X_next 14 rfl) rfl rfl ?_
  refine R_ifnn0 (Dat dd_X_next 15 rfl) ?_
  refine R_bipush (Dat dd_X_next 16 rfl) (a := (-3)) rfl ?_
  exact R_ireturn (Dat dd_X_next 17 rfl) rfl T
theorem t_X_next_38 {h : Hp} {P : Value → Hp → Prop} {a1 : Int} {s0 : Nat} {a2 a3 : Value} (S : XS h) (T : (tg h s0 = 6) ∧ R 74 0 [.ref s0, .ref 1, .int (I a1)] [] h (fun v h2 => R 73 46 [.ref 0, .int (I a1), a2, a3] (v :: []) h2 P)) : R 73 38 [.ref 0, .int (I a1), a2, a3] [.ref s0] h P := by
  refine R_aload_n (Dat dd_X_next 22 rfl) rfl rfl ?_
  refine R_getr (Dat dd_X_next 23 rfl) rfl rfl (tok S.t0) S.f0_0 (q := 1) rfl (tnz S.t1) ?_
  refine R_iload_n (Dat dd_X_next 24 rfl) rfl ?_
  obtain ⟨g1, T⟩ := T
  exact R_call1 (Dat dd_X_next 25 rfl) rfl g1 rfl rfl rfl rfl rfl T
theorem t_X_next_46 {h : Hp} {P : Value → Hp → Prop} {s0 : Int} {a0 a1 a2 a3 : Value} (S : XS h) (T : P (.int (I s0)) h) : R 73 46 [a0, a1, a2, a3] [.int (I s0)] h P := by
  exact R_ireturn (Dat dd_X_next 26 rfl) rfl T
def dl_X_still : List (Nat × Instr × Nat) := [(0, .aload_n 0, 1), (1, .iload_n 1, 1), (2, .invokevirtual 142, 3), (5, .ifCond .eq 5, 3), (8, .iconst (-1), 1), (9, .ireturn, 1), (10, .iload_n 2, 1), (11, .invokestatic 169, 3), (14, .ifCond .ne 12, 3), (17, .iload_n 3, 1), (18, .ifCond .lt 8, 3), (21, .iload_n 3, 1), (22, .iconst 1, 1), (23, .if_icmp .le 6, 3), (26, .bipush (-2), 2), (28, .ireturn, 1), (29, .aload_n 0, 1), (30, .invokevirtual 172, 3), (33, .astore 4, 2), (35, .aload 4, 2), (37, .ifnonnull 6, 3), (40, .bipush (-3), 2), (42, .ireturn, 1), (43, .aload_n 0, 1), (44, .aload 4, 2), (46, .iload_n 2, 1), (47, .invokevirtual 194, 3), (50, .astore 5, 2), (52, .aload_n 0, 1), (53, .getfield 64, 3), (56, .iconst 0, 1), (57, .aload_n 0, 1), (58, .getfield 12, 3), (61, .getfield 204, 3), (64, .iconst 0, 1), (65, .invokestatic 207, 3), (68, .iload_n 1, 1), (69, .istore 6, 2), (71, .iconst 1, 1), (72, .istore 7, 2), (74, .iload 7, 2), (76, .aload_n 0, 1), (77, .getfield 12, 3), (80, .getfield 204, 3), (83, .if_icmp .gt 41, 3), (86, .aload_n 0, 1), (87, .getfield 64, 3), (90, .iload 6, 2), (92, .iaload, 1), (93, .ifCond .ne 31, 3), (96, .aload_n 0, 1), (97, .getfield 64, 3), (100, .iload 6, 2), (102, .iload 7, 2), (104, .iastore, 1), (105, .aload 5, 2), (107, .aload_n 0, 1), (108, .getfield 12, 3), (111, .iload 6, 2), (113, .invokevirtual 198, 3), (116, .istore 6, 2), (118, .iinc 7 1, 3), (121, .goto (-47), 3), (124, .iload_n 3, 1), (125, .ifCond .ne 15, 3), (128, .aload_n 0, 1), (129, .getfield 64, 3), (132, .iload 6, 2), (134, .iaload, 1), (135, .iconst 1, 1), (136, .isub, 1), (137, .goto 13, 3), (140, .iload 7, 2), (142, .aload_n 0, 1), (143, .getfield 64, 3), (146, .iload 6, 2), (148, .iaload, 1), (149, .isub, 1), (150, .ireturn, 1)]
theorem dd_X_still : Dall 75 dl_X_still = true := by decide +kernel
theorem t_X_still {h : Hp} {P : Value → Hp → Prop} {p0 p1 p2 : Int} (S : XS h) (T : R 38 0 [.ref 0, .int (I p0)] [] h (fun v h2 => R 75 5 [.ref 0, .int (I p0), .int (I p1), .int (I p2), .retAddr 0, .retAddr 0, .retAddr 0, .retAddr 0] (v :: []) h2 P)) : R 75 0 [.ref 0, .int (I p0), .int (I p1), .int (I p2), .retAddr 0, .retAddr 0, .retAddr 0, .retAddr 0] [] h P := by
  refine R_aload_n (Dat dd_X_still 0 rfl) rfl rfl ?_
  refine R_iload_n (Dat dd_X_still 1 rfl) rfl ?_
  exact R_call1 (Dat dd_X_still 2 rfl) rfl S.t0 rfl rfl rfl rfl rfl T
theorem t_X_still_5 {h : Hp} {P : Value → Hp → Prop} {a1 a2 a3 s0 : Int} {a4 a5 a6 a7 : Value} (S : XS h) (T : (rng s0) ∧ ((s0 = 0 → R 49 0 [.int (I a2)] [] h (fun v h2 => R 75 14 [.ref 0, .int (I a1), .int (I a2), .int (I a3), a4, a5, a6, a7] (v :: []) h2 P)) ∧ (¬ s0 = 0 → P (.int (I (-1))) h))) : R 75 5 [.ref 0, .int (I a1), .int (I a2), .int (I a3), a4, a5, a6, a7] [.int (I s0)] h P := by
  obtain ⟨g1, T⟩ := T
  refine R_if_eq (Dat dd_X_still 3 rfl) rfl g1  (fun c => ?_) (fun c => ?_)
  · replace T := T.1 c
    refine R_iload_n (Dat dd_X_still 6 rfl) rfl ?_
    exact R_call0 (Dat dd_X_still 7 rfl) rfl rfl rfl rfl rfl rfl T
  · replace T := T.2 c
    refine R_iconst (Dat dd_X_still 4 rfl) ?_
    exact R_ireturn (Dat dd_X_still 5 rfl) rfl T
theorem t_X_still_14 {h : Hp} {P : Value → Hp → Prop} {a1 a2 a3 s0 : Int} {a4 a5 a6 a7 : Value} (S : XS h) (T : (rng s0) ∧ ((s0 = 0 → (rng a3) ∧ ((a3 < 0 → P (.int (I (-2))) h) ∧ (¬ a3 < 0 → (rng a3) ∧ (((1 : Int) < a3 → P (.int (I (-2))) h) ∧ (¬ (1 : Int) < a3 → R 50 0 [.ref 0] [] h (fun v h2 => R 75 33 [.ref 0, .int (I a1), .int (I a2), .int (I a3), a4, a5, a6, a7] (v :: []) h2 P)))))) ∧ (¬ s0 = 0 → P (.int (I (-2))) h))) : R 75 14 [.ref 0, .int (I a1), .int (I a2), .int (I a3), a4, a5, a6, a7] [.int (I s0)] h P := by
  obtain ⟨g1, T⟩ := T
  refine R_if_ne (Dat dd_X_still 8 rfl) rfl g1  (fun c => ?_) (fun c => ?_)
  · replace T := T.1 c
    refine R_iload_n (Dat dd_X_still 9 rfl) rfl ?_
    obtain ⟨g2, T⟩ := T
    refine R_if_lt (Dat dd_X_still 10 rfl) rfl g2  (fun c => ?_) (fun c => ?_)
    · replace T := T.1 c
      refine R_bipush (Dat dd_X_still 14 rfl) (a := (-2)) rfl ?_
      exact R_ireturn (Dat dd_X_still 15 rfl) rfl T
    · replace T := T.2 c
      refine R_iload_n (Dat dd_X_still 11 rfl) rfl ?_
      refine R_iconst (Dat dd_X_still 12 rfl) ?_
      obtain ⟨g3, T⟩ := T
      refine R_ic_le (Dat dd_X_still 13 rfl) rfl g3 (by decide) (fun c => ?_) (fun c => ?_)
      · replace T := T.1 c
        refine R_bipush (Dat dd_X_still 14 rfl) (a := (-2)) rfl ?_
        exact R_ireturn (Dat dd_X_still 15 rfl) rfl T
      · replace T := T.2 c
        refine R_aload_n (Dat dd_X_still 16 rfl) rfl rfl ?_
        exact R_call1 (Dat dd_X_still 17 rfl) rfl S.t0 rfl rfl rfl rfl rfl T
  · replace T := T.2 c
    refine R_bipush (Dat dd_X_still 14 rfl) (a := (-2)) rfl ?_
    exact R_ireturn (Dat dd_X_still 15 rfl) rfl T
theorem t_X_still_33 {h : Hp} {P : Value → Hp → Prop} {a1 a2 a3 : Int} {s0 : Nat} {a4 a5 a6 a7 : Value} (S : XS h) (T : (okg 75 55 [.ref 0, .int (I a1), .int (I a2), .int (I a3), .ref s0, a5, a6, a7] [] [.ref 0, .ref s0, .int (I a2)] = true) ∧ R 55 0 [.ref 0, .ref s0, .int (I a2), .retAddr 0] [] h (fun v h2 => R 75 50 [.ref 0, .int (I a1), .int (I a2), .int (I a3), .ref s0, a5, a6, a7] (v :: []) h2 P)) : R 75 33 [.ref 0, .int (I a1), .int (I a2), .int (I a3), a4, a5, a6, a7] [.ref s0] h P := by
  refine R_astore (Dat dd_X_still 18 rfl) rfl rfl rfl ?_
  refine R_aload (Dat dd_X_still 19 rfl) rfl rfl ?_
  refine R_ifnn1 (Dat dd_X_still 20 rfl) rfl ?_
  refine R_aload_n (Dat dd_X_still 23 rfl) rfl rfl ?_
  refine R_aload (Dat dd_X_still 24 rfl) rfl rfl ?_
  refine R_iload_n (Dat dd_X_still 25 rfl) rfl ?_
  obtain ⟨g1, T⟩ := T
  exact R_call1 (Dat dd_X_still 26 rfl) rfl S.t0 rfl rfl rfl g1 rfl T
theorem t_X_still_33b {h : Hp} {P : Value → Hp → Prop} {a1 a2 a3 : Int} {a4 a5 a6 a7 : Value} (S : XS h) (T : P (.int (I (-3))) h) : R 75 33 [.ref 0, .int (I a1), .int (I a2), .int (I a3), a4, a5, a6, a7] [.null] h P := by
  refine R_astore (Dat dd_X_still 18 rfl) rfl rfl rfl ?_
  refine R_aload (Dat dd_X_still 19 rfl) rfl rfl ?_
  refine R_ifnn0 (Dat dd_X_still 20 rfl) ?_
  refine R_bipush (Dat dd_X_still 21 rfl) (a := (-3)) rfl ?_
  exact R_ireturn (Dat dd_X_still 22 rfl) rfl T
theorem t_X_still_50 {h : Hp} {P : Value → Hp → Prop} {a1 a3 : Int} {s0 : Nat} {a2 a4 a5 a6 a7 : Value} (S : XS h) (T : R 59 0 [.ref 26, .int (I 0), .int (I (iv h 1 2)), .int (I 0), .retAddr 0] [] h (fun _ h2 => R 75 68 [.ref 0, .int (I a1), a2, .int (I a3), a4, .ref s0, a6, a7] [] h2 P)) : R 75 50 [.ref 0, .int (I a1), a2, .int (I a3), a4, a5, a6, a7] [.ref s0] h P := by
  refine R_astore (Dat dd_X_still 27 rfl) rfl rfl rfl ?_
  refine R_aload_n (Dat dd_X_still 28 rfl) rfl rfl ?_
  refine R_getr (Dat dd_X_still 29 rfl) rfl rfl (tok S.t0) S.f0_16 (q := 26) rfl (tnz S.t26) ?_
  refine R_iconst (Dat dd_X_still 30 rfl) ?_
  refine R_aload_n (Dat dd_X_still 31 rfl) rfl rfl ?_
  refine R_getr (Dat dd_X_still 32 rfl) rfl rfl (tok S.t0) S.f0_0 (q := 1) rfl (tnz S.t1) ?_
  refine R_geti (Dat dd_X_still 33 rfl) rfl rfl (tok S.t1) ?_
  refine R_iconst (Dat dd_X_still 34 rfl) ?_
  exact R_call0 (Dat dd_X_still 35 rfl) rfl rfl rfl rfl rfl rfl T
theorem t_X_still_68 {h : Hp} {P : Value → Hp → Prop} {a1 a3 : Int} {a5 : Nat} {a2 a4 a6 a7 : Value} (S : XS h) (T : R 75 74 [.ref 0, .int (I a1), a2, .int (I a3), a4, .ref a5, .int (I a1), .int (I 1)] [] h P) : R 75 68 [.ref 0, .int (I a1), a2, .int (I a3), a4, .ref a5, a6, a7] [] h P := by
  refine R_iload_n (Dat dd_X_still 36 rfl) rfl ?_
  refine R_istore (Dat dd_X_still 37 rfl) rfl rfl ?_
  refine R_iconst (Dat dd_X_still 38 rfl) ?_
  refine R_istore (Dat dd_X_still 39 rfl) rfl rfl ?_
  exact T
theorem t_X_still_74 {h : Hp} {P : Value → Hp → Prop} {a3 a6 a7 : Int} {a5 : Nat} {a1 a2 a4 : Value} (S : XS h) (T : (rng a7) ∧ (rng (iv h 1 2)) ∧ (((iv h 1 2) < a7 → (rng a3) ∧ ((a3 = 0 → ((ln h 26 : Int) ≤ 2147483648) ∧ (0 ≤ a6) ∧ (a6 < ln h 26) ∧ P (.int (I ((iv h 26 a6) - 1))) h) ∧ (¬ a3 = 0 → ((ln h 26 : Int) ≤ 2147483648) ∧ (0 ≤ a6) ∧ (a6 < ln h 26) ∧ P (.int (I (a7 - (iv h 26 a6)))) h))) ∧ (¬ (iv h 1 2) < a7 → ((ln h 26 : Int) ≤ 2147483648) ∧ (0 ≤ a6) ∧ (a6 < ln h 26) ∧ (rng (iv h 26 a6)) ∧ (((iv h 26 a6) = 0 → ((ln h 26 : Int) ≤ 2147483648) ∧ (0 ≤ a6) ∧ (a6 < ln h 26) ∧ (tg (setI h 26 a6 (wr a7)) a5 = 6) ∧ R 74 0 [.ref a5, .ref 1, .int (I a6)] [] (setI h 26 a6 (wr a7)) (fun v h2 => R 75 116 [.ref 0, a1, a2, .int (I a3), a4, .ref a5, .int (I a6), .int (I a7)] (v :: []) h2 P)) ∧ (¬ (iv h 26 a6) = 0 → (rng a3) ∧ ((a3 = 0 → ((ln h 26 : Int) ≤ 2147483648) ∧ (0 ≤ a6) ∧ (a6 < ln h 26) ∧ P (.int (I ((iv h 26 a6) - 1))) h) ∧ (¬ a3 = 0 → ((ln h 26 : Int) ≤ 2147483648) ∧ (0 ≤ a6) ∧ (a6 < ln h 26) ∧ P (.int (I (a7 - (iv h 26 a6)))) h))))))) : R 75 74 [.ref 0, a1, a2, .int (I a3), a4, .ref a5, .int (I a6), .int (I a7)] [] h P := by
  refine R_iload (Dat dd_X_still 40 rfl) rfl ?_
  refine R_aload_n (Dat dd_X_still 41 rfl) rfl rfl ?_
  refine R_getr (Dat dd_X_still 42 rfl) rfl rfl (tok S.t0) S.f0_0 (q := 1) rfl (tnz S.t1) ?_
  refine R_geti (Dat dd_X_still 43 rfl) rfl rfl (tok S.t1) ?_
  obtain ⟨g1, T⟩ := T
  obtain ⟨g2, T⟩ := T
  refine R_ic_gt (Dat dd_X_still 44 rfl) rfl g1 g2 (fun c => ?_) (fun c => ?_)
  · replace T := T.1 c
    refine R_iload_n (Dat dd_X_still 63 rfl) rfl ?_
    obtain ⟨g3, T⟩ := T
    refine R_if_ne (Dat dd_X_still 64 rfl) rfl g3  (fun c => ?_) (fun c => ?_)
    · replace T := T.1 c
      refine R_aload_n (Dat dd_X_still 65 rfl) rfl rfl ?_
      refine R_getr (Dat dd_X_still 66 rfl) rfl rfl (tok S.t0) S.f0_16 (q := 26) rfl (tnz S.t26) ?_
      refine R_iload (Dat dd_X_still 67 rfl) rfl ?_
      obtain ⟨g4, T⟩ := T
      obtain ⟨g5, T⟩ := T
      obtain ⟨g6, T⟩ := T
      refine R_iaload (Dat dd_X_still 68 rfl) (Or.inl S.t26) g4 g5 g6 ?_
      refine R_iconst (Dat dd_X_still 69 rfl) ?_
      refine R_isub (Dat dd_X_still 70 rfl) ?_
      refine R_goto (Dat dd_X_still 71 rfl) rfl ?_
      exact R_ireturn (Dat dd_X_still 78 rfl) rfl T
    · replace T := T.2 c
      refine R_iload (Dat dd_X_still 72 rfl) rfl ?_
      refine R_aload_n (Dat dd_X_still 73 rfl) rfl rfl ?_
      refine R_getr (Dat dd_X_still 74 rfl) rfl rfl (tok S.t0) S.f0_16 (q := 26) rfl (tnz S.t26) ?_
      refine R_iload (Dat dd_X_still 75 rfl) rfl ?_
      obtain ⟨g7, T⟩ := T
      obtain ⟨g8, T⟩ := T
      obtain ⟨g9, T⟩ := T
      refine R_iaload (Dat dd_X_still 76 rfl) (Or.inl S.t26) g7 g8 g9 ?_
      refine R_isub (Dat dd_X_still 77 rfl) ?_
      exact R_ireturn (Dat dd_X_still 78 rfl) rfl T
  · replace T := T.2 c
    refine R_aload_n (Dat dd_X_still 45 rfl) rfl rfl ?_
    refine R_getr (Dat dd_X_still 46 rfl) rfl rfl (tok S.t0) S.f0_16 (q := 26) rfl (tnz S.t26) ?_
    refine R_iload (Dat dd_X_still 47 rfl) rfl ?_
    obtain ⟨g10, T⟩ := T
    obtain ⟨g11, T⟩ := T
    obtain ⟨g12, T⟩ := T
    refine R_iaload (Dat dd_X_still 48 rfl) (Or.inl S.t26) g10 g11 g12 ?_
    obtain ⟨g13, T⟩ := T
    refine R_if_ne (Dat dd_X_still 49 rfl) rfl g13  (fun c => ?_) (fun c => ?_)
    · replace T := T.1 c
      refine R_aload_n (Dat dd_X_still 50 rfl) rfl rfl ?_
      refine R_getr (Dat dd_X_still 51 rfl) rfl rfl (tok S.t0) S.f0_16 (q := 26) rfl (tnz S.t26) ?_
      refine R_iload (Dat dd_X_still 52 rfl) rfl ?_
      refine R_iload (Dat dd_X_still 53 rfl) rfl ?_
      obtain ⟨g14, T⟩ := T
      obtain ⟨g15, T⟩ := T
      obtain ⟨g16, T⟩ := T
      refine R_iastore (Dat dd_X_still 54 rfl) S.t26 g14 g15 g16 (v := wr a7) rfl ?_
      refine R_aload (Dat dd_X_still 55 rfl) rfl rfl ?_
      refine R_aload_n (Dat dd_X_still 56 rfl) rfl rfl ?_
      refine R_getr (Dat dd_X_still 57 rfl) rfl rfl (tok S.t0) S.f0_0 (q := 1) rfl (tnz S.t1) ?_
      refine R_iload (Dat dd_X_still 58 rfl) rfl ?_
      obtain ⟨g17, T⟩ := T
      exact R_call1 (Dat dd_X_still 59 rfl) rfl g17 rfl rfl rfl rfl rfl T
    · replace T := T.2 c
      refine R_iload_n (Dat dd_X_still 63 rfl) rfl ?_
      obtain ⟨g18, T⟩ := T
      refine R_if_ne (Dat dd_X_still 64 rfl) rfl g18  (fun c => ?_) (fun c => ?_)
      · replace T := T.1 c
        refine R_aload_n (Dat dd_X_still 65 rfl) rfl rfl ?_
        refine R_getr (Dat dd_X_still 66 rfl) rfl rfl (tok S.t0) S.f0_16 (q := 26) rfl (tnz S.t26) ?_
        refine R_iload (Dat dd_X_still 67 rfl) rfl ?_
        obtain ⟨g19, T⟩ := T
        obtain ⟨g20, T⟩ := T
        obtain ⟨g21, T⟩ := T
        refine R_iaload (Dat dd_X_still 68 rfl) (Or.inl S.t26) g19 g20 g21 ?_
        refine R_iconst (Dat dd_X_still 69 rfl) ?_
        refine R_isub (Dat dd_X_still 70 rfl) ?_
        refine R_goto (Dat dd_X_still 71 rfl) rfl ?_
        exact R_ireturn (Dat dd_X_still 78 rfl) rfl T
      · replace T := T.2 c
        refine R_iload (Dat dd_X_still 72 rfl) rfl ?_
        refine R_aload_n (Dat dd_X_still 73 rfl) rfl rfl ?_
        refine R_getr (Dat dd_X_still 74 rfl) rfl rfl (tok S.t0) S.f0_16 (q := 26) rfl (tnz S.t26) ?_
        refine R_iload (Dat dd_X_still 75 rfl) rfl ?_
        obtain ⟨g22, T⟩ := T
        obtain ⟨g23, T⟩ := T
        obtain ⟨g24, T⟩ := T
        refine R_iaload (Dat dd_X_still 76 rfl) (Or.inl S.t26) g22 g23 g24 ?_
        refine R_isub (Dat dd_X_still 77 rfl) ?_
        exact R_ireturn (Dat dd_X_still 78 rfl) rfl T
theorem t_X_still_116 {h : Hp} {P : Value → Hp → Prop} {a3 a7 s0 : Int} {a5 : Nat} {a1 a2 a4 a6 : Value} (S : XS h) (T : R 75 74 [.ref 0, a1, a2, .int (I a3), a4, .ref a5, .int (I s0), .int (I (a7 + 1))] [] h P) : R 75 116 [.ref 0, a1, a2, .int (I a3), a4, .ref a5, a6, .int (I a7)] [.int (I s0)] h P := by
  refine R_istore (Dat dd_X_still 60 rfl) rfl rfl ?_
  refine R_iinc (Dat dd_X_still 61 rfl) rfl rfl rfl ?_
  refine R_goto (Dat dd_X_still 62 rfl) rfl ?_
  exact T
def dl_X_soon : List (Nat × Instr × Nat) := [(0, .aload_n 0, 1), (1, .iload_n 1, 1), (2, .invokevirtual 99, 3), (5, .ifCond .ne 11, 3), (8, .aload_n 0, 1), (9, .iload_n 2, 1), (10, .invokevirtual 142, 3), (13, .ifCond .eq 5, 3), (16, .iconst (-1), 1), (17, .ireturn, 1), (18, .iload_n 3, 1), (19, .invokestatic 169, 3), (22, .ifCond .eq 6, 3), (25, .bipush (-2), 2), (27, .ireturn, 1), (28, .aload_n 0, 1), (29, .invokevirtual 172, 3), (32, .astore 4, 2), (34, .aload 4, 2), (36, .ifnonnull 6, 3), (39, .bipush (-3), 2), (41, .ireturn, 1), (42, .aload_n 0, 1), (43, .aload_n 0, 1), (44, .aload 4, 2), (46, .iload_n 3, 1), (47, .invokevirtual 194, 3), (50, .getfield 212, 3), (53, .iload_n 1, 1), (54, .iload_n 2, 1), (55, .invokevirtual 215, 3), (58, .ireturn, 1)]
theorem dd_X_soon : Dall 76 dl_X_soon = true := by decide +kernel
theorem t_X_soon {h : Hp} {P : Value → Hp → Prop} {p0 p1 p2 : Int} (S : XS h) (T : R 28 0 [.ref 0, .int (I p0)] [] h (fun v h2 => R 76 5 [.ref 0, .int (I p0), .int (I p1), .int (I p2), .retAddr 0] (v :: []) h2 P)) : R 76 0 [.ref 0, .int (I p0), .int (I p1), .int (I p2), .retAddr 0] [] h P := by
  refine R_aload_n (Dat dd_X_soon 0 rfl) rfl rfl ?_
  refine R_iload_n (Dat dd_X_soon 1 rfl) rfl ?_
  exact R_call1 (Dat dd_X_soon 2 rfl) rfl S.t0 rfl rfl rfl rfl rfl T
theorem t_X_soon_5 {h : Hp} {P : Value → Hp → Prop} {a1 a2 a3 s0 : Int} {a4 : Value} (S : XS h) (T : (rng s0) ∧ ((s0 = 0 → R 38 0 [.ref 0, .int (I a2)] [] h (fun v h2 => R 76 13 [.ref 0, .int (I a1), .int (I a2), .int (I a3), a4] (v :: []) h2 P)) ∧ (¬ s0 = 0 → P (.int (I (-1))) h))) : R 76 5 [.ref 0, .int (I a1), .int (I a2), .int (I a3), a4] [.int (I s0)] h P := by
  obtain ⟨g1, T⟩ := T
  refine R_if_ne (Dat dd_X_soon 3 rfl) rfl g1  (fun c => ?_) (fun c => ?_)
  · replace T := T.1 c
    refine R_aload_n (Dat dd_X_soon 4 rfl) rfl rfl ?_
    refine R_iload_n (Dat dd_X_soon 5 rfl) rfl ?_
    exact R_call1 (Dat dd_X_soon 6 rfl) rfl S.t0 rfl rfl rfl rfl rfl T
  · replace T := T.2 c
    refine R_iconst (Dat dd_X_soon 8 rfl) ?_
    exact R_ireturn (Dat dd_X_soon 9 rfl) rfl T
theorem t_X_soon_13 {h : Hp} {P : Value → Hp → Prop} {a1 a2 a3 s0 : Int} {a4 : Value} (S : XS h) (T : (rng s0) ∧ ((s0 = 0 → R 49 0 [.int (I a3)] [] h (fun v h2 => R 76 22 [.ref 0, .int (I a1), .int (I a2), .int (I a3), a4] (v :: []) h2 P)) ∧ (¬ s0 = 0 → P (.int (I (-1))) h))) : R 76 13 [.ref 0, .int (I a1), .int (I a2), .int (I a3), a4] [.int (I s0)] h P := by
  obtain ⟨g1, T⟩ := T
  refine R_if_eq (Dat dd_X_soon 7 rfl) rfl g1  (fun c => ?_) (fun c => ?_)
  · replace T := T.1 c
    refine R_iload_n (Dat dd_X_soon 10 rfl) rfl ?_
    exact R_call0 (Dat dd_X_soon 11 rfl) rfl rfl rfl rfl rfl rfl T
  · replace T := T.2 c
    refine R_iconst (Dat dd_X_soon 8 rfl) ?_
    exact R_ireturn (Dat dd_X_soon 9 rfl) rfl T
theorem t_X_soon_22 {h : Hp} {P : Value → Hp → Prop} {a1 a2 a3 s0 : Int} {a4 : Value} (S : XS h) (T : (rng s0) ∧ ((s0 = 0 → R 50 0 [.ref 0] [] h (fun v h2 => R 76 32 [.ref 0, .int (I a1), .int (I a2), .int (I a3), a4] (v :: []) h2 P)) ∧ (¬ s0 = 0 → P (.int (I (-2))) h))) : R 76 22 [.ref 0, .int (I a1), .int (I a2), .int (I a3), a4] [.int (I s0)] h P := by
  obtain ⟨g1, T⟩ := T
  refine R_if_eq (Dat dd_X_soon 12 rfl) rfl g1  (fun c => ?_) (fun c => ?_)
  · replace T := T.1 c
    refine R_aload_n (Dat dd_X_soon 15 rfl) rfl rfl ?_
    exact R_call1 (Dat dd_X_soon 16 rfl) rfl S.t0 rfl rfl rfl rfl rfl T
  · replace T := T.2 c
    refine R_bipush (Dat dd_X_soon 13 rfl) (a := (-2)) rfl ?_
    exact R_ireturn (Dat dd_X_soon 14 rfl) rfl T
theorem t_X_soon_32 {h : Hp} {P : Value → Hp → Prop} {a1 a2 a3 : Int} {s0 : Nat} {a4 : Value} (S : XS h) (T : (okg 76 55 [.ref 0, .int (I a1), .int (I a2), .int (I a3), .ref s0] [.ref 0] [.ref 0, .ref s0, .int (I a3)] = true) ∧ R 55 0 [.ref 0, .ref s0, .int (I a3), .retAddr 0] [] h (fun v h2 => R 76 50 [.ref 0, .int (I a1), .int (I a2), .int (I a3), .ref s0] (v :: [.ref 0]) h2 P)) : R 76 32 [.ref 0, .int (I a1), .int (I a2), .int (I a3), a4] [.ref s0] h P := by
  refine R_astore (Dat dd_X_soon 17 rfl) rfl rfl rfl ?_
  refine R_aload (Dat dd_X_soon 18 rfl) rfl rfl ?_
  refine R_ifnn1 (Dat dd_X_soon 19 rfl) rfl ?_
  refine R_aload_n (Dat dd_X_soon 22 rfl) rfl rfl ?_
  refine R_aload_n (Dat dd_X_soon 23 rfl) rfl rfl ?_
  refine R_aload (Dat dd_X_soon 24 rfl) rfl rfl ?_
  refine R_iload_n (Dat dd_X_soon 25 rfl) rfl ?_
  obtain ⟨g1, T⟩ := T
  exact R_call1 (Dat dd_X_soon 26 rfl) rfl S.t0 rfl rfl rfl g1 rfl T
theorem t_X_soon_32b {h : Hp} {P : Value → Hp → Prop} {a1 a2 a3 : Int} {a4 : Value} (S : XS h) (T : P (.int (I (-3))) h) : R 76 32 [.ref 0, .int (I a1), .int (I a2), .int (I a3), a4] [.null] h P := by
  refine R_astore (Dat dd_X_soon 17 rfl) rfl rfl rfl ?_
  refine R_aload (Dat dd_X_soon 18 rfl) rfl rfl ?_
  refine R_ifnn0 (Dat dd_X_soon 19 rfl) ?_
  refine R_bipush (Dat dd_X_soon 20 rfl) (a := (-3)) rfl ?_
  exact R_ireturn (Dat dd_X_soon 21 rfl) rfl T
theorem t_X_soon_50 {h : Hp} {P : Value → Hp → Prop} {a1 a2 : Int} {s0 : Nat} {a0 a3 a4 : Value} (S : XS h) (T : (tg h s0 = 6) ∧ (fl h s0 0 = true) ∧ (tg h (child s0 0) ≠ 0) ∧ R 77 0 [.ref 0, .ref (child s0 0), .int (I a1), .int (I a2), .retAddr 0, .retAddr 0, .retAddr 0] [] h (fun v h2 => R 76 58 [a0, .int (I a1), .int (I a2), a3, a4] (v :: []) h2 P)) : R 76 50 [a0, .int (I a1), .int (I a2), a3, a4] [.ref s0, .ref 0] h P := by
  obtain ⟨g1, T⟩ := T
  obtain ⟨g2, T⟩ := T
  obtain ⟨g3, T⟩ := T
  refine R_getr (Dat dd_X_soon 27 rfl) rfl rfl (tok g1) g2 (q := child s0 0) rfl g3 ?_
  refine R_iload_n (Dat dd_X_soon 28 rfl) rfl ?_
  refine R_iload_n (Dat dd_X_soon 29 rfl) rfl ?_
  exact R_call1 (Dat dd_X_soon 30 rfl) rfl S.t0 rfl rfl rfl rfl rfl T
theorem t_X_soon_58 {h : Hp} {P : Value → Hp → Prop} {s0 : Int} {a0 a1 a2 a3 a4 : Value} (S : XS h) (T : P (.int (I s0)) h) : R 76 58 [a0, a1, a2, a3, a4] [.int (I s0)] h P := by
  exact R_ireturn (Dat dd_X_soon 31 rfl) rfl T
def dl_X_soonBy : List (Nat × Instr × Nat) := [(0, .aload_n 0, 1), (1, .getfield 12, 3), (4, .iload_n 3, 1), (5, .invokevirtual 124, 3), (8, .istore 4, 2), (10, .bipush (-9), 2), (12, .istore 5, 2), (14, .iconst 0, 1), (15, .istore 6, 2), (17, .iload 6, 2), (19, .aload_n 0, 1), (20, .getfield 12, 3), (23, .getfield 204, 3), (26, .if_icmp .gt 72, 3), (29, .iload 4, 2), (31, .aload_n 0, 1), (32, .getfield 12, 3), (35, .getfield 96, 3), (38, .iconst 1, 1), (39, .isub, 1), (40, .invokestatic 135, 3), (43, .iload_n 2, 1), (44, .if_icmp .ne 6, 3), (47, .iload 6, 2), (49, .ireturn, 1), (50, .iload 4, 2), (52, .iload 5, 2), (54, .if_icmp .ne 6, 3), (57, .bipush (-9), 2), (59, .ireturn, 1), (60, .iload 6, 2), (62, .invokestatic 272, 3), (65, .ifCond .eq 8, 3), (68, .iload 4, 2), (70, .goto 5, 3), (73, .iload 5, 2), (75, .istore 5, 2), (77, .aload_n 1, 1), (78, .iload 4, 2), (80, .aload_n 0, 1), (81, .getfield 12, 3), (84, .getfield 96, 3), (87, .invokevirtual 275, 3), (90, .istore 4, 2), (92, .iinc 6 1, 3), (95, .goto (-78), 3), (98, .bipush (-9), 2), (100, .ireturn, 1)]
theorem dd_X_soonBy : Dall 77 dl_X_soonBy = true := by decide +kernel
theorem t_X_soonBy {h : Hp} {P : Value → Hp → Prop} {p1 p2 : Int} {p0 : Nat} (S : XS h) (T : R 29 0 [.ref 1, .int (I p2)] [] h (fun v h2 => R 77 8 [.ref 0, .ref p0, .int (I p1), .int (I p2), .retAddr 0, .retAddr 0, .retAddr 0] (v :: []) h2 P)) : R 77 0 [.ref 0, .ref p0, .int (I p1), .int (I p2), .retAddr 0, .retAddr 0, .retAddr 0] [] h P := by
  refine R_aload_n (Dat dd_X_soonBy 0 rfl) rfl rfl ?_
  refine R_getr (Dat dd_X_soonBy 1 rfl) rfl rfl (tok S.t0) S.f0_0 (q := 1) rfl (tnz S.t1) ?_
  refine R_iload_n (Dat dd_X_soonBy 2 rfl) rfl ?_
  exact R_call1 (Dat dd_X_soonBy 3 rfl) rfl S.t1 rfl rfl rfl rfl rfl T
theorem t_X_soonBy_8 {h : Hp} {P : Value → Hp → Prop} {a2 s0 : Int} {a1 : Nat} {a3 a4 a5 a6 : Value} (S : XS h) (T : R 77 17 [.ref 0, .ref a1, .int (I a2), a3, .int (I s0), .int (I (-9)), .int (I 0)] [] h P) : R 77 8 [.ref 0, .ref a1, .int (I a2), a3, a4, a5, a6] [.int (I s0)] h P := by
  refine R_istore (Dat dd_X_soonBy 4 rfl) rfl rfl ?_
  refine R_bipush (Dat dd_X_soonBy 5 rfl) (a := (-9)) rfl ?_
  refine R_istore (Dat dd_X_soonBy 6 rfl) rfl rfl ?_
  refine R_iconst (Dat dd_X_soonBy 7 rfl) ?_
  refine R_istore (Dat dd_X_soonBy 8 rfl) rfl rfl ?_
  exact T
theorem t_X_soonBy_17 {h : Hp} {P : Value → Hp → Prop} {a2 a4 a5 a6 : Int} {a1 : Nat} {a3 : Value} (S : XS h) (T : (rng a6) ∧ (rng (iv h 1 2)) ∧ (((iv h 1 2) < a6 → P (.int (I (-9))) h) ∧ (¬ (iv h 1 2) < a6 → R 32 0 [.int (I a4), .int (I ((iv h 1 1) - 1))] [] h (fun v h2 => R 77 43 [.ref 0, .ref a1, .int (I a2), a3, .int (I a4), .int (I a5), .int (I a6)] (v :: []) h2 P)))) : R 77 17 [.ref 0, .ref a1, .int (I a2), a3, .int (I a4), .int (I a5), .int (I a6)] [] h P := by
  refine R_iload (Dat dd_X_soonBy 9 rfl) rfl ?_
  refine R_aload_n (Dat dd_X_soonBy 10 rfl) rfl rfl ?_
  refine R_getr (Dat dd_X_soonBy 11 rfl) rfl rfl (tok S.t0) S.f0_0 (q := 1) rfl (tnz S.t1) ?_
  refine R_geti (Dat dd_X_soonBy 12 rfl) rfl rfl (tok S.t1) ?_
  obtain ⟨g1, T⟩ := T
  obtain ⟨g2, T⟩ := T
  refine R_ic_gt (Dat dd_X_soonBy 13 rfl) rfl g1 g2 (fun c => ?_) (fun c => ?_)
  · replace T := T.1 c
    refine R_bipush (Dat dd_X_soonBy 46 rfl) (a := (-9)) rfl ?_
    exact R_ireturn (Dat dd_X_soonBy 47 rfl) rfl T
  · replace T := T.2 c
    refine R_iload (Dat dd_X_soonBy 14 rfl) rfl ?_
    refine R_aload_n (Dat dd_X_soonBy 15 rfl) rfl rfl ?_
    refine R_getr (Dat dd_X_soonBy 16 rfl) rfl rfl (tok S.t0) S.f0_0 (q := 1) rfl (tnz S.t1) ?_
    refine R_geti (Dat dd_X_soonBy 17 rfl) rfl rfl (tok S.t1) ?_
    refine R_iconst (Dat dd_X_soonBy 18 rfl) ?_
    refine R_isub (Dat dd_X_soonBy 19 rfl) ?_
    exact R_call0 (Dat dd_X_soonBy 20 rfl) rfl rfl rfl rfl rfl rfl T
theorem t_X_soonBy_43 {h : Hp} {P : Value → Hp → Prop} {a2 a4 a5 a6 s0 : Int} {a1 : Nat} {a3 : Value} (S : XS h) (T : (rng s0) ∧ (rng a2) ∧ ((s0 = a2 → P (.int (I a6)) h) ∧ (¬ s0 = a2 → (rng a4) ∧ (rng a5) ∧ ((a4 = a5 → P (.int (I (-9))) h) ∧ (¬ a4 = a5 → R 78 0 [.int (I a6)] [] h (fun v h2 => R 77 65 [.ref 0, .ref a1, .int (I a2), a3, .int (I a4), .int (I a5), .int (I a6)] (v :: []) h2 P)))))) : R 77 43 [.ref 0, .ref a1, .int (I a2), a3, .int (I a4), .int (I a5), .int (I a6)] [.int (I s0)] h P := by
  refine R_iload_n (Dat dd_X_soonBy 21 rfl) rfl ?_
  obtain ⟨g1, T⟩ := T
  obtain ⟨g2, T⟩ := T
  refine R_ic_ne (Dat dd_X_soonBy 22 rfl) rfl g1 g2 (fun c => ?_) (fun c => ?_)
  · replace T := T.1 c
    refine R_iload (Dat dd_X_soonBy 23 rfl) rfl ?_
    exact R_ireturn (Dat dd_X_soonBy 24 rfl) rfl T
  · replace T := T.2 c
    refine R_iload (Dat dd_X_soonBy 25 rfl) rfl ?_
    refine R_iload (Dat dd_X_soonBy 26 rfl) rfl ?_
    obtain ⟨g3, T⟩ := T
    obtain ⟨g4, T⟩ := T
    refine R_ic_ne (Dat dd_X_soonBy 27 rfl) rfl g3 g4 (fun c => ?_) (fun c => ?_)
    · replace T := T.1 c
      refine R_bipush (Dat dd_X_soonBy 28 rfl) (a := (-9)) rfl ?_
      exact R_ireturn (Dat dd_X_soonBy 29 rfl) rfl T
    · replace T := T.2 c
      refine R_iload (Dat dd_X_soonBy 30 rfl) rfl ?_
      exact R_call0 (Dat dd_X_soonBy 31 rfl) rfl rfl rfl rfl rfl rfl T
theorem t_X_soonBy_65 {h : Hp} {P : Value → Hp → Prop} {a2 a4 a5 a6 s0 : Int} {a1 : Nat} {a3 : Value} (S : XS h) (T : (rng s0) ∧ ((s0 = 0 → (tg h a1 = 8) ∧ R 61 0 [.ref a1, .int (I a4), .int (I (iv h 1 1))] [] h (fun v h2 => R 77 90 [.ref 0, .ref a1, .int (I a2), a3, .int (I a4), .int (I a5), .int (I a6)] (v :: []) h2 P)) ∧ (¬ s0 = 0 → (tg h a1 = 8) ∧ R 61 0 [.ref a1, .int (I a4), .int (I (iv h 1 1))] [] h (fun v h2 => R 77 90 [.ref 0, .ref a1, .int (I a2), a3, .int (I a4), .int (I a4), .int (I a6)] (v :: []) h2 P)))) : R 77 65 [.ref 0, .ref a1, .int (I a2), a3, .int (I a4), .int (I a5), .int (I a6)] [.int (I s0)] h P := by
  obtain ⟨g1, T⟩ := T
  refine R_if_eq (Dat dd_X_soonBy 32 rfl) rfl g1  (fun c => ?_) (fun c => ?_)
  · replace T := T.1 c
    refine R_iload (Dat dd_X_soonBy 35 rfl) rfl ?_
    refine R_istore (Dat dd_X_soonBy 36 rfl) rfl rfl ?_
    refine R_aload_n (Dat dd_X_soonBy 37 rfl) rfl rfl ?_
    refine R_iload (Dat dd_X_soonBy 38 rfl) rfl ?_
    refine R_aload_n (Dat dd_X_soonBy 39 rfl) rfl rfl ?_
    refine R_getr (Dat dd_X_soonBy 40 rfl) rfl rfl (tok S.t0) S.f0_0 (q := 1) rfl (tnz S.t1) ?_
    refine R_geti (Dat dd_X_soonBy 41 rfl) rfl rfl (tok S.t1) ?_
    obtain ⟨g2, T⟩ := T
    exact R_call1 (Dat dd_X_soonBy 42 rfl) rfl g2 rfl rfl rfl rfl rfl T
  · replace T := T.2 c
    refine R_iload (Dat dd_X_soonBy 33 rfl) rfl ?_
    refine R_goto (Dat dd_X_soonBy 34 rfl) rfl ?_
    refine R_istore (Dat dd_X_soonBy 36 rfl) rfl rfl ?_
    refine R_aload_n (Dat dd_X_soonBy 37 rfl) rfl rfl ?_
    refine R_iload (Dat dd_X_soonBy 38 rfl) rfl ?_
    refine R_aload_n (Dat dd_X_soonBy 39 rfl) rfl rfl ?_
    refine R_getr (Dat dd_X_soonBy 40 rfl) rfl rfl (tok S.t0) S.f0_0 (q := 1) rfl (tnz S.t1) ?_
    refine R_geti (Dat dd_X_soonBy 41 rfl) rfl rfl (tok S.t1) ?_
    obtain ⟨g3, T⟩ := T
    exact R_call1 (Dat dd_X_soonBy 42 rfl) rfl g3 rfl rfl rfl rfl rfl T
theorem t_X_soonBy_90 {h : Hp} {P : Value → Hp → Prop} {a2 a5 a6 s0 : Int} {a1 : Nat} {a3 a4 : Value} (S : XS h) (T : R 77 17 [.ref 0, .ref a1, .int (I a2), a3, .int (I s0), .int (I a5), .int (I (a6 + 1))] [] h P) : R 77 90 [.ref 0, .ref a1, .int (I a2), a3, a4, .int (I a5), .int (I a6)] [.int (I s0)] h P := by
  refine R_istore (Dat dd_X_soonBy 43 rfl) rfl rfl ?_
  refine R_iinc (Dat dd_X_soonBy 44 rfl) rfl rfl rfl ?_
  refine R_goto (Dat dd_X_soonBy 45 rfl) rfl ?_
  exact T
def dl_X_isTimeToMark : List (Nat × Instr × Nat) := [(0, .iload_n 0, 1), (1, .iload_n 0, 1), (2, .iconst 1, 1), (3, .isub, 1), (4, .iand, 1), (5, .ifCond .ne 7, 3), (8, .iconst 1, 1), (9, .goto 4, 3), (12, .iconst 0, 1), (13, .ireturn, 1)]
theorem dd_X_isTimeToMark : Dall 78 dl_X_isTimeToMark = true := by decide +kernel
theorem t_X_isTimeToMark {h : Hp} {P : Value → Hp → Prop} {p0 : Int} (T : (rng (band p0 (p0 - 1))) ∧ (((band p0 (p0 - 1)) = 0 → P (.int (I 1)) h) ∧ (¬ (band p0 (p0 - 1)) = 0 → P (.int (I 0)) h))) : R 78 0 [.int (I p0)] [] h P := by
  refine R_iload_n (Dat dd_X_isTimeToMark 0 rfl) rfl ?_
  refine R_iload_n (Dat dd_X_isTimeToMark 1 rfl) rfl ?_
  refine R_iconst (Dat dd_X_isTimeToMark 2 rfl) ?_
  refine R_isub (Dat dd_X_isTimeToMark 3 rfl) ?_
  refine R_iand (Dat dd_X_isTimeToMark 4 rfl) ?_
  obtain ⟨g1, T⟩ := T
  refine R_if_ne (Dat dd_X_isTimeToMark 5 rfl) rfl g1  (fun c => ?_) (fun c => ?_)
  · replace T := T.1 c
    refine R_iconst (Dat dd_X_isTimeToMark 6 rfl) ?_
    refine R_goto (Dat dd_X_isTimeToMark 7 rfl) rfl ?_
    exact R_ireturn (Dat dd_X_isTimeToMark 9 rfl) rfl T
  · replace T := T.2 c
    refine R_iconst (Dat dd_X_isTimeToMark 8 rfl) ?_
    exact R_ireturn (Dat dd_X_isTimeToMark 9 rfl) rfl T
def dl_X_boss : List (Nat × Instr × Nat) := [(0, .aload_n 0, 1), (1, .iload_n 1, 1), (2, .iload_n 2, 1), (3, .iload_n 3, 1), (4, .invokevirtual 219, 3), (7, .istore 4, 2), (9, .aload_n 0, 1), (10, .invokevirtual 172, 3), (13, .astore 5, 2), (15, .iload 4, 2), (17, .ifCond .ge 10, 3), (20, .iload 4, 2), (22, .bipush (-9), 2), (24, .if_icmp .ne 8, 3), (27, .aload 5, 2), (29, .ifnonnull 6, 3), (32, .iload 4, 2), (34, .ireturn, 1), (35, .bipush (-9), 2), (37, .istore 6, 2), (39, .iconst 0, 1), (40, .istore 7, 2), (42, .iconst 0, 1), (43, .istore 8, 2), (45, .iload 8, 2), (47, .aload 5, 2), (49, .getfield 151, 3), (52, .arraylength, 1), (53, .if_icmp .ge 68, 3), (56, .aload_n 0, 1), (57, .getfield 47, 3), (60, .aload_n 0, 1), (61, .getfield 12, 3), (64, .aload 5, 2), (66, .iload_n 3, 1), (67, .iload 8, 2), (69, .invokevirtual 223, 3), (72, .aload_n 0, 1), (73, .aload_n 0, 1), (74, .getfield 47, 3), (77, .iload_n 1, 1), (78, .iload_n 2, 1), (79, .invokevirtual 215, 3), (82, .istore 9, 2), (84, .iload 9, 2), (86, .invokestatic 227, 3), (89, .iload 4, 2), (91, .invokestatic 227, 3), (94, .isub, 1), (95, .invokestatic 230, 3), (98, .istore 10, 2), (100, .iload 10, 2), (102, .iload 7, 2), (104, .if_icmp .le 11, 3), (107, .iload 10, 2), (109, .istore 7, 2), (111, .iload 8, 2), (113, .istore 6, 2), (115, .iinc 8 1, 3), (118, .goto (-73), 3), (121, .iload 6, 2), (123, .ireturn, 1)]
theorem dd_X_boss : Dall 79 dl_X_boss = true := by decide +kernel
theorem t_X_boss {h : Hp} {P : Value → Hp → Prop} {p0 p1 p2 : Int} (S : XS h) (T : R 76 0 [.ref 0, .int (I p0), .int (I p1), .int (I p2), .retAddr 0] [] h (fun v h2 => R 79 7 [.ref 0, .int (I p0), .int (I p1), .int (I p2), .retAddr 0, .retAddr 0, .retAddr 0, .retAddr 0, .retAddr 0, .retAddr 0, .retAddr 0] (v :: []) h2 P)) : R 79 0 [.ref 0, .int (I p0), .int (I p1), .int (I p2), .retAddr 0, .retAddr 0, .retAddr 0, .retAddr 0, .retAddr 0, .retAddr 0, .retAddr 0] [] h P := by
  refine R_aload_n (Dat dd_X_boss 0 rfl) rfl rfl ?_
  refine R_iload_n (Dat dd_X_boss 1 rfl) rfl ?_
  refine R_iload_n (Dat dd_X_boss 2 rfl) rfl ?_
  refine R_iload_n (Dat dd_X_boss 3 rfl) rfl ?_
  exact R_call1 (Dat dd_X_boss 4 rfl) rfl S.t0 rfl rfl rfl rfl rfl T
theorem t_X_boss_7 {h : Hp} {P : Value → Hp → Prop} {a1 a2 a3 s0 : Int} {a4 a5 a6 a7 a8 a9 a10 : Value} (S : XS h) (T : R 50 0 [.ref 0] [] h (fun v h2 => R 79 13 [.ref 0, .int (I a1), .int (I a2), .int (I a3), .int (I s0), a5, a6, a7, a8, a9, a10] (v :: []) h2 P)) : R 79 7 [.ref 0, .int (I a1), .int (I a2), .int (I a3), a4, a5, a6, a7, a8, a9, a10] [.int (I s0)] h P := by
  refine R_istore (Dat dd_X_boss 5 rfl) rfl rfl ?_
  refine R_aload_n (Dat dd_X_boss 6 rfl) rfl rfl ?_
  exact R_call1 (Dat dd_X_boss 7 rfl) rfl S.t0 rfl rfl rfl rfl rfl T
theorem t_X_boss_13 {h : Hp} {P : Value → Hp → Prop} {a1 a2 a3 a4 : Int} {s0 : Nat} {a5 a6 a7 a8 a9 a10 : Value} (S : XS h) (T : (rng a4) ∧ ((a4 < 0 → (rng a4) ∧ ((a4 = (-9) → R 79 45 [.ref 0, .int (I a1), .int (I a2), .int (I a3), .int (I a4), .ref s0, .int (I (-9)), .int (I 0), .int (I 0), a9, a10] [] h P) ∧ (¬ a4 = (-9) → P (.int (I a4)) h))) ∧ (¬ a4 < 0 → R 79 45 [.ref 0, .int (I a1), .int (I a2), .int (I a3), .int (I a4), .ref s0, .int (I (-9)), .int (I 0), .int (I 0), a9, a10] [] h P))) : R 79 13 [.ref 0, .int (I a1), .int (I a2), .int (I a3), .int (I a4), a5, a6, a7, a8, a9, a10] [.ref s0] h P := by
  refine R_astore (Dat dd_X_boss 8 rfl) rfl rfl rfl ?_
  refine R_iload (Dat dd_X_boss 9 rfl) rfl ?_
  obtain ⟨g1, T⟩ := T
  refine R_if_ge (Dat dd_X_boss 10 rfl) rfl g1  (fun c => ?_) (fun c => ?_)
  · replace T := T.1 c
    refine R_iload (Dat dd_X_boss 11 rfl) rfl ?_
    refine R_bipush (Dat dd_X_boss 12 rfl) (a := (-9)) rfl ?_
    obtain ⟨g2, T⟩ := T
    refine R_ic_ne (Dat dd_X_boss 13 rfl) rfl g2 (by decide) (fun c => ?_) (fun c => ?_)
    · replace T := T.1 c
      refine R_aload (Dat dd_X_boss 14 rfl) rfl rfl ?_
      refine R_ifnn1 (Dat dd_X_boss 15 rfl) rfl ?_
      refine R_bipush (Dat dd_X_boss 18 rfl) (a := (-9)) rfl ?_
      refine R_istore (Dat dd_X_boss 19 rfl) rfl rfl ?_
      refine R_iconst (Dat dd_X_boss 20 rfl) ?_
      refine R_istore (Dat dd_X_boss 21 rfl) rfl rfl ?_
      refine R_iconst (Dat dd_X_boss 22 rfl) ?_
      refine R_istore (Dat dd_X_boss 23 rfl) rfl rfl ?_
      exact T
    · replace T := T.2 c
      refine R_iload (Dat dd_X_boss 16 rfl) rfl ?_
      exact R_ireturn (Dat dd_X_boss 17 rfl) rfl T
  · replace T := T.2 c
    refine R_aload (Dat dd_X_boss 14 rfl) rfl rfl ?_
    refine R_ifnn1 (Dat dd_X_boss 15 rfl) rfl ?_
    refine R_bipush (Dat dd_X_boss 18 rfl) (a := (-9)) rfl ?_
    refine R_istore (Dat dd_X_boss 19 rfl) rfl rfl ?_
    refine R_iconst (Dat dd_X_boss 20 rfl) ?_
    refine R_istore (Dat dd_X_boss 21 rfl) rfl rfl ?_
    refine R_iconst (Dat dd_X_boss 22 rfl) ?_
    refine R_istore (Dat dd_X_boss 23 rfl) rfl rfl ?_
    exact T
theorem t_X_boss_13b {h : Hp} {P : Value → Hp → Prop} {a1 a2 a3 a4 : Int} {a5 a6 a7 a8 a9 a10 : Value} (S : XS h) (T : (rng a4) ∧ ((a4 < 0 → (rng a4) ∧ ((a4 = (-9) → P (.int (I a4)) h) ∧ (¬ a4 = (-9) → P (.int (I a4)) h))) ∧ (¬ a4 < 0 → P (.int (I a4)) h))) : R 79 13 [.ref 0, .int (I a1), .int (I a2), .int (I a3), .int (I a4), a5, a6, a7, a8, a9, a10] [.null] h P := by
  refine R_astore (Dat dd_X_boss 8 rfl) rfl rfl rfl ?_
  refine R_iload (Dat dd_X_boss 9 rfl) rfl ?_
  obtain ⟨g1, T⟩ := T
  refine R_if_ge (Dat dd_X_boss 10 rfl) rfl g1  (fun c => ?_) (fun c => ?_)
  · replace T := T.1 c
    refine R_iload (Dat dd_X_boss 11 rfl) rfl ?_
    refine R_bipush (Dat dd_X_boss 12 rfl) (a := (-9)) rfl ?_
    obtain ⟨g2, T⟩ := T
    refine R_ic_ne (Dat dd_X_boss 13 rfl) rfl g2 (by decide) (fun c => ?_) (fun c => ?_)
    · replace T := T.1 c
      refine R_aload (Dat dd_X_boss 14 rfl) rfl rfl ?_
      refine R_ifnn0 (Dat dd_X_boss 15 rfl) ?_
      refine R_iload (Dat dd_X_boss 16 rfl) rfl ?_
      exact R_ireturn (Dat dd_X_boss 17 rfl) rfl T
    · replace T := T.2 c
      refine R_iload (Dat dd_X_boss 16 rfl) rfl ?_
      exact R_ireturn (Dat dd_X_boss 17 rfl) rfl T
  · replace T := T.2 c
    refine R_aload (Dat dd_X_boss 14 rfl) rfl rfl ?_
    refine R_ifnn0 (Dat dd_X_boss 15 rfl) ?_
    refine R_iload (Dat dd_X_boss 16 rfl) rfl ?_
    exact R_ireturn (Dat dd_X_boss 17 rfl) rfl T
theorem t_X_boss_45 {h : Hp} {P : Value → Hp → Prop} {a1 a2 a3 a4 a6 a7 a8 : Int} {a5 : Nat} {a9 a10 : Value} (S : XS h) (T : (tg h a5 = 4) ∧ (fl h a5 0 = true) ∧ (tg h (child a5 0) ≠ 0) ∧ ((20 ≤ tg h (child a5 0) ∧ tg h (child a5 0) ≤ 25) ∨ tg h (child a5 0) = 30) ∧ (rng a8) ∧ (rng (ln h (child a5 0) : Int)) ∧ ((a8 < (ln h (child a5 0) : Int) → R 56 0 [.ref 17, .ref 1, .ref a5, .int (I a3), .int (I a8), .retAddr 0, .retAddr 0, .retAddr 0, .retAddr 0] [] h (fun _ h2 => R 79 72 [.ref 0, .int (I a1), .int (I a2), .int (I a3), .int (I a4), .ref a5, .int (I a6), .int (I a7), .int (I a8), a9, a10] [] h2 P)) ∧ (¬ a8 < (ln h (child a5 0) : Int) → P (.int (I a6)) h))) : R 79 45 [.ref 0, .int (I a1), .int (I a2), .int (I a3), .int (I a4), .ref a5, .int (I a6), .int (I a7), .int (I a8), a9, a10] [] h P := by
  refine R_iload (Dat dd_X_boss 24 rfl) rfl ?_
  refine R_aload (Dat dd_X_boss 25 rfl) rfl rfl ?_
  obtain ⟨g1, T⟩ := T
  obtain ⟨g2, T⟩ := T
  obtain ⟨g3, T⟩ := T
  refine R_getr (Dat dd_X_boss 26 rfl) rfl rfl (tok g1) g2 (q := child a5 0) rfl g3 ?_
  obtain ⟨g4, T⟩ := T
  refine R_alen (Dat dd_X_boss 27 rfl) g4 ?_
  obtain ⟨g5, T⟩ := T
  obtain ⟨g6, T⟩ := T
  refine R_ic_ge (Dat dd_X_boss 28 rfl) rfl g5 g6 (fun c => ?_) (fun c => ?_)
  · replace T := T.1 c
    refine R_aload_n (Dat dd_X_boss 29 rfl) rfl rfl ?_
    refine R_getr (Dat dd_X_boss 30 rfl) rfl rfl (tok S.t0) S.f0_12 (q := 17) rfl (tnz S.t17) ?_
    refine R_aload_n (Dat dd_X_boss 31 rfl) rfl rfl ?_
    refine R_getr (Dat dd_X_boss 32 rfl) rfl rfl (tok S.t0) S.f0_0 (q := 1) rfl (tnz S.t1) ?_
    refine R_aload (Dat dd_X_boss 33 rfl) rfl rfl ?_
    refine R_iload_n (Dat dd_X_boss 34 rfl) rfl ?_
    refine R_iload (Dat dd_X_boss 35 rfl) rfl ?_
    exact R_call1 (Dat dd_X_boss 36 rfl) rfl S.t17 rfl rfl rfl rfl rfl T
  · replace T := T.2 c
    refine R_iload (Dat dd_X_boss 60 rfl) rfl ?_
    exact R_ireturn (Dat dd_X_boss 61 rfl) rfl T
theorem t_X_boss_72 {h : Hp} {P : Value → Hp → Prop} {a1 a2 a3 a4 a6 a7 a8 : Int} {a5 : Nat} {a9 a10 : Value} (S : XS h) (T : R 77 0 [.ref 0, .ref 17, .int (I a1), .int (I a2), .retAddr 0, .retAddr 0, .retAddr 0] [] h (fun v h2 => R 79 82 [.ref 0, .int (I a1), .int (I a2), .int (I a3), .int (I a4), .ref a5, .int (I a6), .int (I a7), .int (I a8), a9, a10] (v :: []) h2 P)) : R 79 72 [.ref 0, .int (I a1), .int (I a2), .int (I a3), .int (I a4), .ref a5, .int (I a6), .int (I a7), .int (I a8), a9, a10] [] h P := by
  refine R_aload_n (Dat dd_X_boss 37 rfl) rfl rfl ?_
  refine R_aload_n (Dat dd_X_boss 38 rfl) rfl rfl ?_
  refine R_getr (Dat dd_X_boss 39 rfl) rfl rfl (tok S.t0) S.f0_12 (q := 17) rfl (tnz S.t17) ?_
  refine R_iload_n (Dat dd_X_boss 40 rfl) rfl ?_
  refine R_iload_n (Dat dd_X_boss 41 rfl) rfl ?_
  exact R_call1 (Dat dd_X_boss 42 rfl) rfl S.t0 rfl rfl rfl rfl rfl T
theorem t_X_boss_82 {h : Hp} {P : Value → Hp → Prop} {a1 a2 a3 a4 a6 a7 a8 s0 : Int} {a5 : Nat} {a9 a10 : Value} (S : XS h) (T : R 80 0 [.int (I s0)] [] h (fun v h2 => R 79 89 [.ref 0, .int (I a1), .int (I a2), .int (I a3), .int (I a4), .ref a5, .int (I a6), .int (I a7), .int (I a8), .int (I s0), a10] (v :: []) h2 P)) : R 79 82 [.ref 0, .int (I a1), .int (I a2), .int (I a3), .int (I a4), .ref a5, .int (I a6), .int (I a7), .int (I a8), a9, a10] [.int (I s0)] h P := by
  refine R_istore (Dat dd_X_boss 43 rfl) rfl rfl ?_
  refine R_iload (Dat dd_X_boss 44 rfl) rfl ?_
  exact R_call0 (Dat dd_X_boss 45 rfl) rfl rfl rfl rfl rfl rfl T
theorem t_X_boss_89 {h : Hp} {P : Value → Hp → Prop} {a1 a2 a3 a4 a6 a7 a8 s0 : Int} {a5 : Nat} {a9 a10 : Value} (S : XS h) (T : R 80 0 [.int (I a4)] [] h (fun v h2 => R 79 94 [.ref 0, .int (I a1), .int (I a2), .int (I a3), .int (I a4), .ref a5, .int (I a6), .int (I a7), .int (I a8), a9, a10] (v :: [.int (I s0)]) h2 P)) : R 79 89 [.ref 0, .int (I a1), .int (I a2), .int (I a3), .int (I a4), .ref a5, .int (I a6), .int (I a7), .int (I a8), a9, a10] [.int (I s0)] h P := by
  refine R_iload (Dat dd_X_boss 46 rfl) rfl ?_
  exact R_call0 (Dat dd_X_boss 47 rfl) rfl rfl rfl rfl rfl rfl T
theorem t_X_boss_94 {h : Hp} {P : Value → Hp → Prop} {a1 a2 a3 a4 a6 a7 a8 s0 s1 : Int} {a5 : Nat} {a9 a10 : Value} (S : XS h) (T : R 81 0 [.int (I (s1 - s0))] [] h (fun v h2 => R 79 98 [.ref 0, .int (I a1), .int (I a2), .int (I a3), .int (I a4), .ref a5, .int (I a6), .int (I a7), .int (I a8), a9, a10] (v :: []) h2 P)) : R 79 94 [.ref 0, .int (I a1), .int (I a2), .int (I a3), .int (I a4), .ref a5, .int (I a6), .int (I a7), .int (I a8), a9, a10] [.int (I s0), .int (I s1)] h P := by
  refine R_isub (Dat dd_X_boss 48 rfl) ?_
  exact R_call0 (Dat dd_X_boss 49 rfl) rfl rfl rfl rfl rfl rfl T
theorem t_X_boss_98 {h : Hp} {P : Value → Hp → Prop} {a1 a2 a3 a4 a6 a7 a8 s0 : Int} {a5 : Nat} {a9 a10 : Value} (S : XS h) (T : (rng s0) ∧ (rng a7) ∧ ((a7 < s0 → R 79 45 [.ref 0, .int (I a1), .int (I a2), .int (I a3), .int (I a4), .ref a5, .int (I a8), .int (I s0), .int (I (a8 + 1)), a9, .int (I s0)] [] h P) ∧ (¬ a7 < s0 → R 79 45 [.ref 0, .int (I a1), .int (I a2), .int (I a3), .int (I a4), .ref a5, .int (I a6), .int (I a7), .int (I (a8 + 1)), a9, .int (I s0)] [] h P))) : R 79 98 [.ref 0, .int (I a1), .int (I a2), .int (I a3), .int (I a4), .ref a5, .int (I a6), .int (I a7), .int (I a8), a9, a10] [.int (I s0)] h P := by
  refine R_istore (Dat dd_X_boss 50 rfl) rfl rfl ?_
  refine R_iload (Dat dd_X_boss 51 rfl) rfl ?_
  refine R_iload (Dat dd_X_boss 52 rfl) rfl ?_
  obtain ⟨g1, T⟩ := T
  obtain ⟨g2, T⟩ := T
  refine R_ic_le (Dat dd_X_boss 53 rfl) rfl g1 g2 (fun c => ?_) (fun c => ?_)
  · replace T := T.1 c
    refine R_iload (Dat dd_X_boss 54 rfl) rfl ?_
    refine R_istore (Dat dd_X_boss 55 rfl) rfl rfl ?_
    refine R_iload (Dat dd_X_boss 56 rfl) rfl ?_
    refine R_istore (Dat dd_X_boss 57 rfl) rfl rfl ?_
    refine R_iinc (Dat dd_X_boss 58 rfl) rfl rfl rfl ?_
    refine R_goto (Dat dd_X_boss 59 rfl) rfl ?_
    exact T
  · replace T := T.2 c
    refine R_iinc (Dat dd_X_boss 58 rfl) rfl rfl rfl ?_
    refine R_goto (Dat dd_X_boss 59 rfl) rfl ?_
    exact T
def dl_X_counted : List (Nat × Instr × Nat) := [(0, .iload_n 0, 1), (1, .bipush (-9), 2), (3, .if_icmp .ne 9, 3), (6, .sipush 9999, 3), (9, .goto 4, 3), (12, .iload_n 0, 1), (13, .ireturn, 1)]
theorem dd_X_counted : Dall 80 dl_X_counted = true := by decide +kernel
theorem t_X_counted {h : Hp} {P : Value → Hp → Prop} {p0 : Int} (T : (rng p0) ∧ ((p0 = (-9) → P (.int (I 9999)) h) ∧ (¬ p0 = (-9) → P (.int (I p0)) h))) : R 80 0 [.int (I p0)] [] h P := by
  refine R_iload_n (Dat dd_X_counted 0 rfl) rfl ?_
  refine R_bipush (Dat dd_X_counted 1 rfl) (a := (-9)) rfl ?_
  obtain ⟨g1, T⟩ := T
  refine R_ic_ne (Dat dd_X_counted 2 rfl) rfl g1 (by decide) (fun c => ?_) (fun c => ?_)
  · replace T := T.1 c
    refine R_sipush (Dat dd_X_counted 3 rfl) (a := 9999) rfl ?_
    refine R_goto (Dat dd_X_counted 4 rfl) rfl ?_
    exact R_ireturn (Dat dd_X_counted 6 rfl) rfl T
  · replace T := T.2 c
    refine R_iload_n (Dat dd_X_counted 5 rfl) rfl ?_
    exact R_ireturn (Dat dd_X_counted 6 rfl) rfl T
def dl_Math_abs : List (Nat × Instr × Nat) := [(0, .iload_n 0, 1), (1, .ifCond .ge 8, 3), (4, .iload_n 0, 1), (5, .ineg, 1), (6, .goto 4, 3), (9, .iload_n 0, 1), (10, .ireturn, 1)]
theorem dd_Math_abs : Dall 81 dl_Math_abs = true := by decide +kernel
theorem t_Math_abs {h : Hp} {P : Value → Hp → Prop} {p0 : Int} (T : (rng p0) ∧ ((p0 < 0 → P (.int (I (-p0))) h) ∧ (¬ p0 < 0 → P (.int (I p0)) h))) : R 81 0 [.int (I p0)] [] h P := by
  refine R_iload_n (Dat dd_Math_abs 0 rfl) rfl ?_
  obtain ⟨g1, T⟩ := T
  refine R_if_ge (Dat dd_Math_abs 1 rfl) rfl g1  (fun c => ?_) (fun c => ?_)
  · replace T := T.1 c
    refine R_iload_n (Dat dd_Math_abs 2 rfl) rfl ?_
    refine R_ineg (Dat dd_Math_abs 3 rfl) ?_
    refine R_goto (Dat dd_Math_abs 4 rfl) rfl ?_
    exact R_ireturn (Dat dd_Math_abs 6 rfl) rfl T
  · replace T := T.2 c
    refine R_iload_n (Dat dd_Math_abs 5 rfl) rfl ?_
    exact R_ireturn (Dat dd_Math_abs 6 rfl) rfl T
def dl_X_sheet : List (Nat × Instr × Nat) := [(0, .aload_n 0, 1), (1, .iconst 0, 1), (2, .putfield 266, 3), (5, .iload_n 1, 1), (6, .invokestatic 278, 3), (9, .ifCond .eq 5, 3), (12, .iconst (-1), 1), (13, .ireturn, 1), (14, .iload_n 2, 1), (15, .invokestatic 281, 3), (18, .ifCond .ne 9, 3), (21, .iload_n 3, 1), (22, .bipush 60, 2), (24, .if_icmp .le 6, 3), (27, .bipush (-2), 2), (29, .ireturn, 1), (30, .iload_n 3, 1), (31, .ifCond .ge 9, 3), (34, .aload_n 0, 1), (35, .iconst 4, 1), (36, .invokevirtual 284, 3), (39, .ireturn, 1), (40, .aload_n 0, 1), (41, .getfield 33, 3), (44, .iload_n 1, 1), (45, .aaload, 1), (46, .iload_n 2, 1), (47, .iload_n 3, 1), (48, .invokevirtual 287, 3), (51, .iconst 1, 1), (52, .ireturn, 1)]
theorem dd_X_sheet : Dall 82 dl_X_sheet = true := by decide +kernel
theorem t_X_sheet {h : Hp} {P : Value → Hp → Prop} {p0 p1 p2 : Int} (S : XS h) (T : R 9 0 [.int (I p0)] [] (setI h 0 11 0) (fun v h2 => R 82 9 [.ref 0, .int (I p0), .int (I p1), .int (I p2)] (v :: []) h2 P)) : R 82 0 [.ref 0, .int (I p0), .int (I p1), .int (I p2)] [] h P := by
  refine R_aload_n (Dat dd_X_sheet 0 rfl) rfl rfl ?_
  refine R_iconst (Dat dd_X_sheet 1 rfl) ?_
  refine R_puti (Dat dd_X_sheet 2 rfl) rfl rfl rfl (tok S.t0) rfl (v := 0) rfl ?_
  refine R_iload_n (Dat dd_X_sheet 3 rfl) rfl ?_
  exact R_call0 (Dat dd_X_sheet 4 rfl) rfl rfl rfl rfl rfl rfl T
theorem t_X_sheet_9 {h : Hp} {P : Value → Hp → Prop} {a1 a2 a3 s0 : Int} (S : XS h) (T : (rng s0) ∧ ((s0 = 0 → R 10 0 [.int (I a2)] [] h (fun v h2 => R 82 18 [.ref 0, .int (I a1), .int (I a2), .int (I a3)] (v :: []) h2 P)) ∧ (¬ s0 = 0 → P (.int (I (-1))) h))) : R 82 9 [.ref 0, .int (I a1), .int (I a2), .int (I a3)] [.int (I s0)] h P := by
  obtain ⟨g1, T⟩ := T
  refine R_if_eq (Dat dd_X_sheet 5 rfl) rfl g1  (fun c => ?_) (fun c => ?_)
  · replace T := T.1 c
    refine R_iload_n (Dat dd_X_sheet 8 rfl) rfl ?_
    exact R_call0 (Dat dd_X_sheet 9 rfl) rfl rfl rfl rfl rfl rfl T
  · replace T := T.2 c
    refine R_iconst (Dat dd_X_sheet 6 rfl) ?_
    exact R_ireturn (Dat dd_X_sheet 7 rfl) rfl T
theorem t_X_sheet_18 {h : Hp} {P : Value → Hp → Prop} {a1 a2 a3 s0 : Int} (S : XS h) (T : (rng s0) ∧ ((s0 = 0 → (rng a3) ∧ (((60 : Int) < a3 → P (.int (I (-2))) h) ∧ (¬ (60 : Int) < a3 → (rng a3) ∧ ((a3 < 0 → R 11 0 [.ref 0, .int (I 4)] [] h (fun v h2 => R 82 39 [.ref 0, .int (I a1), .int (I a2), .int (I a3)] (v :: []) h2 P)) ∧ (¬ a3 < 0 → (0 ≤ a1) ∧ (a1 < 4) ∧ (fl h 7 (a1).toNat = true) ∧ (tg h (child 7 (a1).toNat) ≠ 0) ∧ (tg h (child 7 (a1).toNat) = 10) ∧ R 83 0 [.ref (child 7 (a1).toNat), .int (I a2), .int (I a3)] [] h (fun _ h2 => R 82 51 [.ref 0, .int (I a1), .int (I a2), .int (I a3)] [] h2 P)))))) ∧ (¬ s0 = 0 → P (.int (I (-2))) h))) : R 82 18 [.ref 0, .int (I a1), .int (I a2), .int (I a3)] [.int (I s0)] h P := by
  obtain ⟨g1, T⟩ := T
  refine R_if_ne (Dat dd_X_sheet 10 rfl) rfl g1  (fun c => ?_) (fun c => ?_)
  · replace T := T.1 c
    refine R_iload_n (Dat dd_X_sheet 11 rfl) rfl ?_
    refine R_bipush (Dat dd_X_sheet 12 rfl) (a := 60) rfl ?_
    obtain ⟨g2, T⟩ := T
    refine R_ic_le (Dat dd_X_sheet 13 rfl) rfl g2 (by decide) (fun c => ?_) (fun c => ?_)
    · replace T := T.1 c
      refine R_bipush (Dat dd_X_sheet 14 rfl) (a := (-2)) rfl ?_
      exact R_ireturn (Dat dd_X_sheet 15 rfl) rfl T
    · replace T := T.2 c
      refine R_iload_n (Dat dd_X_sheet 16 rfl) rfl ?_
      obtain ⟨g3, T⟩ := T
      refine R_if_ge (Dat dd_X_sheet 17 rfl) rfl g3  (fun c => ?_) (fun c => ?_)
      · replace T := T.1 c
        refine R_aload_n (Dat dd_X_sheet 18 rfl) rfl rfl ?_
        refine R_iconst (Dat dd_X_sheet 19 rfl) ?_
        exact R_call1 (Dat dd_X_sheet 20 rfl) rfl S.t0 rfl rfl rfl rfl rfl T
      · replace T := T.2 c
        refine R_aload_n (Dat dd_X_sheet 22 rfl) rfl rfl ?_
        refine R_getr (Dat dd_X_sheet 23 rfl) rfl rfl (tok S.t0) S.f0_9 (q := 7) rfl (tnz S.t7) ?_
        refine R_iload_n (Dat dd_X_sheet 24 rfl) rfl ?_
        obtain ⟨g4, T⟩ := T
        obtain ⟨g5, T⟩ := T
        obtain ⟨g6, T⟩ := T
        obtain ⟨g7, T⟩ := T
        refine R_aaload (Dat dd_X_sheet 25 rfl) (by rw [show tg h 7 = 23 from S.t7]; decide) (lnle (show ln h 7 = 4 from S.l7) (by decide)) g4 (lnlt (show ln h 7 = 4 from S.l7) g5) g6 rfl g7 ?_
        refine R_iload_n (Dat dd_X_sheet 26 rfl) rfl ?_
        refine R_iload_n (Dat dd_X_sheet 27 rfl) rfl ?_
        obtain ⟨g8, T⟩ := T
        exact R_call1 (Dat dd_X_sheet 28 rfl) rfl g8 rfl rfl rfl rfl rfl T
  · replace T := T.2 c
    refine R_bipush (Dat dd_X_sheet 14 rfl) (a := (-2)) rfl ?_
    exact R_ireturn (Dat dd_X_sheet 15 rfl) rfl T
theorem t_X_sheet_39 {h : Hp} {P : Value → Hp → Prop} {s0 : Int} {a0 a1 a2 a3 : Value} (S : XS h) (T : P (.int (I s0)) h) : R 82 39 [a0, a1, a2, a3] [.int (I s0)] h P := by
  exact R_ireturn (Dat dd_X_sheet 21 rfl) rfl T
theorem t_X_sheet_51 {h : Hp} {P : Value → Hp → Prop} {a0 a1 a2 a3 : Value} (S : XS h) (T : P (.int (I 1)) h) : R 82 51 [a0, a1, a2, a3] [] h P := by
  refine R_iconst (Dat dd_X_sheet 29 rfl) ?_
  exact R_ireturn (Dat dd_X_sheet 30 rfl) rfl T
def dl_Sheet_renew : List (Nat × Instr × Nat) := [(0, .aload_n 0, 1), (1, .iconst 1, 1), (2, .putfield 15, 3), (5, .aload_n 0, 1), (6, .iload_n 1, 1), (7, .putfield 19, 3), (10, .aload_n 0, 1), (11, .iload_n 2, 1), (12, .putfield 23, 3), (15, .aload_n 0, 1), (16, .getfield 9, 3), (19, .iconst 0, 1), (20, .invokestatic 26, 3), (23, .return_, 1)]
theorem dd_Sheet_renew : Dall 83 dl_Sheet_renew = true := by decide +kernel
theorem t_Sheet_renew {h : Hp} {P : Value → Hp → Prop} {p0 p1 : Int} {r : Nat} (T : (tg h r = 10) ∧ (tg (setI h r 1 1) r = 10) ∧ (tg (setI (setI h r 1 1) r 2 (wr p0)) r = 10) ∧ (tg (setI (setI (setI h r 1 1) r 2 (wr p0)) r 3 (wr p1)) r = 10) ∧ (fl (setI (setI (setI h r 1 1) r 2 (wr p0)) r 3 (wr p1)) r 0 = true) ∧ (tg (setI (setI (setI h r 1 1) r 2 (wr p0)) r 3 (wr p1)) (child r 0) ≠ 0) ∧ R 24 0 [.ref (child r 0), .int (I 0), .retAddr 0, .retAddr 0] [] (setI (setI (setI h r 1 1) r 2 (wr p0)) r 3 (wr p1)) (fun _ h2 => R 83 23 [.ref r, .int (I p0), .int (I p1)] [] h2 P)) : R 83 0 [.ref r, .int (I p0), .int (I p1)] [] h P := by
  refine R_aload_n (Dat dd_Sheet_renew 0 rfl) rfl rfl ?_
  refine R_iconst (Dat dd_Sheet_renew 1 rfl) ?_
  obtain ⟨g1, T⟩ := T
  refine R_puti (Dat dd_Sheet_renew 2 rfl) rfl rfl rfl (tok g1) rfl (v := 1) rfl ?_
  refine R_aload_n (Dat dd_Sheet_renew 3 rfl) rfl rfl ?_
  refine R_iload_n (Dat dd_Sheet_renew 4 rfl) rfl ?_
  obtain ⟨g2, T⟩ := T
  refine R_puti (Dat dd_Sheet_renew 5 rfl) rfl rfl rfl (tok g2) rfl (v := wr p0) rfl ?_
  refine R_aload_n (Dat dd_Sheet_renew 6 rfl) rfl rfl ?_
  refine R_iload_n (Dat dd_Sheet_renew 7 rfl) rfl ?_
  obtain ⟨g3, T⟩ := T
  refine R_puti (Dat dd_Sheet_renew 8 rfl) rfl rfl rfl (tok g3) rfl (v := wr p1) rfl ?_
  refine R_aload_n (Dat dd_Sheet_renew 9 rfl) rfl rfl ?_
  obtain ⟨g4, T⟩ := T
  obtain ⟨g5, T⟩ := T
  obtain ⟨g6, T⟩ := T
  refine R_getr (Dat dd_Sheet_renew 10 rfl) rfl rfl (tok g4) g5 (q := child r 0) rfl g6 ?_
  refine R_iconst (Dat dd_Sheet_renew 11 rfl) ?_
  exact R_call0 (Dat dd_Sheet_renew 12 rfl) rfl rfl rfl rfl rfl rfl T
theorem t_Sheet_renew_23 {h : Hp} {P : Value → Hp → Prop} {a0 a1 a2 : Value} (T : P .null h) : R 83 23 [a0, a1, a2] [] h P := by
  exact R_return (Dat dd_Sheet_renew 13 rfl) rfl T
def dl_X_put : List (Nat × Instr × Nat) := [(0, .aload_n 0, 1), (1, .iconst 0, 1), (2, .putfield 266, 3), (5, .iload_n 1, 1), (6, .invokestatic 278, 3), (9, .ifCond .eq 5, 3), (12, .iconst (-1), 1), (13, .ireturn, 1), (14, .aload_n 0, 1), (15, .getfield 33, 3), (18, .iload_n 1, 1), (19, .aaload, 1), (20, .astore 4, 2), (22, .aload 4, 2), (24, .getfield 291, 3), (27, .ifCond .ne 9, 3), (30, .aload_n 0, 1), (31, .iconst 1, 1), (32, .invokevirtual 284, 3), (35, .ireturn, 1), (36, .iload_n 2, 1), (37, .ifCond .lt 12, 3), (40, .iload_n 2, 1), (41, .aload 4, 2), (43, .getfield 295, 3), (46, .if_icmp .lt 9, 3), (49, .aload_n 0, 1), (50, .iconst 3, 1), (51, .invokevirtual 284, 3), (54, .ireturn, 1), (55, .aload 4, 2), (57, .getfield 72, 3), (60, .iload_n 2, 1), (61, .aload 4, 2), (63, .iload_n 3, 1), (64, .invokevirtual 298, 3), (67, .iastore, 1), (68, .iconst 1, 1), (69, .ireturn, 1)]
theorem dd_X_put : Dall 84 dl_X_put = true := by decide +kernel
theorem t_X_put {h : Hp} {P : Value → Hp → Prop} {p0 p1 p2 : Int} (S : XS h) (T : R 9 0 [.int (I p0)] [] (setI h 0 11 0) (fun v h2 => R 84 9 [.ref 0, .int (I p0), .int (I p1), .int (I p2), .retAddr 0] (v :: []) h2 P)) : R 84 0 [.ref 0, .int (I p0), .int (I p1), .int (I p2), .retAddr 0] [] h P := by
  refine R_aload_n (Dat dd_X_put 0 rfl) rfl rfl ?_
  refine R_iconst (Dat dd_X_put 1 rfl) ?_
  refine R_puti (Dat dd_X_put 2 rfl) rfl rfl rfl (tok S.t0) rfl (v := 0) rfl ?_
  refine R_iload_n (Dat dd_X_put 3 rfl) rfl ?_
  exact R_call0 (Dat dd_X_put 4 rfl) rfl rfl rfl rfl rfl rfl T
theorem t_X_put_9 {h : Hp} {P : Value → Hp → Prop} {a1 a2 a3 s0 : Int} {a4 : Value} (S : XS h) (T : (rng s0) ∧ ((s0 = 0 → (0 ≤ a1) ∧ (a1 < 4) ∧ (fl h 7 (a1).toNat = true) ∧ (tg h (child 7 (a1).toNat) ≠ 0) ∧ (tg h (child 7 (a1).toNat) = 10) ∧ (rng (iv h (child 7 (a1).toNat) 1)) ∧ (((iv h (child 7 (a1).toNat) 1) = 0 → R 11 0 [.ref 0, .int (I 1)] [] h (fun v h2 => R 84 35 [.ref 0, .int (I a1), .int (I a2), .int (I a3), .ref (child 7 (a1).toNat)] (v :: []) h2 P)) ∧ (¬ (iv h (child 7 (a1).toNat) 1) = 0 → (rng a2) ∧ ((a2 < 0 → R 11 0 [.ref 0, .int (I 3)] [] h (fun v h2 => R 84 54 [.ref 0, .int (I a1), .int (I a2), .int (I a3), .ref (child 7 (a1).toNat)] (v :: []) h2 P)) ∧ (¬ a2 < 0 → (tg h (child 7 (a1).toNat) = 10) ∧ (rng a2) ∧ (rng (iv h (child 7 (a1).toNat) 3)) ∧ ((a2 < (iv h (child 7 (a1).toNat) 3) → (tg h (child 7 (a1).toNat) = 10) ∧ (fl h (child 7 (a1).toNat) 0 = true) ∧ (tg h (child (child 7 (a1).toNat) 0) ≠ 0) ∧ (tg h (child 7 (a1).toNat) = 10) ∧ R 85 0 [.ref (child 7 (a1).toNat), .int (I a3)] [] h (fun v h2 => R 84 67 [.ref 0, .int (I a1), .int (I a2), .int (I a3), .ref (child 7 (a1).toNat)] (v :: [.int (I a2), .ref (child (child 7 (a1).toNat) 0)]) h2 P)) ∧ (¬ a2 < (iv h (child 7 (a1).toNat) 3) → R 11 0 [.ref 0, .int (I 3)] [] h (fun v h2 => R 84 54 [.ref 0, .int (I a1), .int (I a2), .int (I a3), .ref (child 7 (a1).toNat)] (v :: []) h2 P)))))))) ∧ (¬ s0 = 0 → P (.int (I (-1))) h))) : R 84 9 [.ref 0, .int (I a1), .int (I a2), .int (I a3), a4] [.int (I s0)] h P := by
  obtain ⟨g1, T⟩ := T
  refine R_if_eq (Dat dd_X_put 5 rfl) rfl g1  (fun c => ?_) (fun c => ?_)
  · replace T := T.1 c
    refine R_aload_n (Dat dd_X_put 8 rfl) rfl rfl ?_
    refine R_getr (Dat dd_X_put 9 rfl) rfl rfl (tok S.t0) S.f0_9 (q := 7) rfl (tnz S.t7) ?_
    refine R_iload_n (Dat dd_X_put 10 rfl) rfl ?_
    obtain ⟨g2, T⟩ := T
    obtain ⟨g3, T⟩ := T
    obtain ⟨g4, T⟩ := T
    obtain ⟨g5, T⟩ := T
    refine R_aaload (Dat dd_X_put 11 rfl) (by rw [show tg h 7 = 23 from S.t7]; decide) (lnle (show ln h 7 = 4 from S.l7) (by decide)) g2 (lnlt (show ln h 7 = 4 from S.l7) g3) g4 rfl g5 ?_
    refine R_astore (Dat dd_X_put 12 rfl) rfl rfl rfl ?_
    refine R_aload (Dat dd_X_put 13 rfl) rfl rfl ?_
    obtain ⟨g6, T⟩ := T
    refine R_geti (Dat dd_X_put 14 rfl) rfl rfl (tok g6) ?_
    obtain ⟨g7, T⟩ := T
    refine R_if_ne (Dat dd_X_put 15 rfl) rfl g7  (fun c => ?_) (fun c => ?_)
    · replace T := T.1 c
      refine R_aload_n (Dat dd_X_put 16 rfl) rfl rfl ?_
      refine R_iconst (Dat dd_X_put 17 rfl) ?_
      exact R_call1 (Dat dd_X_put 18 rfl) rfl S.t0 rfl rfl rfl rfl rfl T
    · replace T := T.2 c
      refine R_iload_n (Dat dd_X_put 20 rfl) rfl ?_
      obtain ⟨g8, T⟩ := T
      refine R_if_lt (Dat dd_X_put 21 rfl) rfl g8  (fun c => ?_) (fun c => ?_)
      · replace T := T.1 c
        refine R_aload_n (Dat dd_X_put 26 rfl) rfl rfl ?_
        refine R_iconst (Dat dd_X_put 27 rfl) ?_
        exact R_call1 (Dat dd_X_put 28 rfl) rfl S.t0 rfl rfl rfl rfl rfl T
      · replace T := T.2 c
        refine R_iload_n (Dat dd_X_put 22 rfl) rfl ?_
        refine R_aload (Dat dd_X_put 23 rfl) rfl rfl ?_
        obtain ⟨g9, T⟩ := T
        refine R_geti (Dat dd_X_put 24 rfl) rfl rfl (tok g9) ?_
        obtain ⟨g10, T⟩ := T
        obtain ⟨g11, T⟩ := T
        refine R_ic_lt (Dat dd_X_put 25 rfl) rfl g10 g11 (fun c => ?_) (fun c => ?_)
        · replace T := T.1 c
          refine R_aload (Dat dd_X_put 30 rfl) rfl rfl ?_
          obtain ⟨g12, T⟩ := T
          obtain ⟨g13, T⟩ := T
          obtain ⟨g14, T⟩ := T
          refine R_getr (Dat dd_X_put 31 rfl) rfl rfl (tok g12) g13 (q := child (child 7 (a1).toNat) 0) rfl g14 ?_
          refine R_iload_n (Dat dd_X_put 32 rfl) rfl ?_
          refine R_aload (Dat dd_X_put 33 rfl) rfl rfl ?_
          refine R_iload_n (Dat dd_X_put 34 rfl) rfl ?_
          obtain ⟨g15, T⟩ := T
          exact R_call1 (Dat dd_X_put 35 rfl) rfl g15 rfl rfl rfl rfl rfl T
        · replace T := T.2 c
          refine R_aload_n (Dat dd_X_put 26 rfl) rfl rfl ?_
          refine R_iconst (Dat dd_X_put 27 rfl) ?_
          exact R_call1 (Dat dd_X_put 28 rfl) rfl S.t0 rfl rfl rfl rfl rfl T
  · replace T := T.2 c
    refine R_iconst (Dat dd_X_put 6 rfl) ?_
    exact R_ireturn (Dat dd_X_put 7 rfl) rfl T
theorem t_X_put_35 {h : Hp} {P : Value → Hp → Prop} {s0 : Int} {a0 a1 a2 a3 a4 : Value} (S : XS h) (T : P (.int (I s0)) h) : R 84 35 [a0, a1, a2, a3, a4] [.int (I s0)] h P := by
  exact R_ireturn (Dat dd_X_put 19 rfl) rfl T
theorem t_X_put_54 {h : Hp} {P : Value → Hp → Prop} {s0 : Int} {a0 a1 a2 a3 a4 : Value} (S : XS h) (T : P (.int (I s0)) h) : R 84 54 [a0, a1, a2, a3, a4] [.int (I s0)] h P := by
  exact R_ireturn (Dat dd_X_put 29 rfl) rfl T
theorem t_X_put_67 {h : Hp} {P : Value → Hp → Prop} {s0 s1 : Int} {s2 : Nat} {a0 a1 a2 a3 a4 : Value} (S : XS h) (T : (tg h s2 = 20) ∧ ((ln h s2 : Int) ≤ 2147483648) ∧ (0 ≤ s1) ∧ (s1 < ln h s2) ∧ P (.int (I 1)) (setI h s2 s1 (wr s0))) : R 84 67 [a0, a1, a2, a3, a4] [.int (I s0), .int (I s1), .ref s2] h P := by
  obtain ⟨g1, T⟩ := T
  obtain ⟨g2, T⟩ := T
  obtain ⟨g3, T⟩ := T
  obtain ⟨g4, T⟩ := T
  refine R_iastore (Dat dd_X_put 36 rfl) g1 g2 g3 g4 (v := wr s0) rfl ?_
  refine R_iconst (Dat dd_X_put 37 rfl) ?_
  exact R_ireturn (Dat dd_X_put 38 rfl) rfl T
def dl_Sheet_cut : List (Nat × Instr × Nat) := [(0, .aload_n 0, 1), (1, .getfield 19, 3), (4, .ifCond .ne 6, 3), (7, .iload_n 1, 1), (8, .i2b, 1), (9, .ireturn, 1), (10, .aload_n 0, 1), (11, .getfield 19, 3), (14, .iconst 1, 1), (15, .if_icmp .ne 8, 3), (18, .iload_n 1, 1), (19, .i2s, 1), (20, .goto 4, 3), (23, .iload_n 1, 1), (24, .ireturn, 1)]
theorem dd_Sheet_cut : Dall 85 dl_Sheet_cut = true := by decide +kernel
theorem t_Sheet_cut {h : Hp} {P : Value → Hp → Prop} {p0 : Int} {r : Nat} (T : (tg h r = 10) ∧ (rng (iv h r 2)) ∧ (((iv h r 2) = 0 → P (.int (I (b8 p0))) h) ∧ (¬ (iv h r 2) = 0 → (tg h r = 10) ∧ (rng (iv h r 2)) ∧ (((iv h r 2) = 1 → P (.int (I (b16 p0))) h) ∧ (¬ (iv h r 2) = 1 → P (.int (I p0)) h))))) : R 85 0 [.ref r, .int (I p0)] [] h P := by
  refine R_aload_n (Dat dd_Sheet_cut 0 rfl) rfl rfl ?_
  obtain ⟨g1, T⟩ := T
  refine R_geti (Dat dd_Sheet_cut 1 rfl) rfl rfl (tok g1) ?_
  obtain ⟨g2, T⟩ := T
  refine R_if_ne (Dat dd_Sheet_cut 2 rfl) rfl g2  (fun c => ?_) (fun c => ?_)
  · replace T := T.1 c
    refine R_iload_n (Dat dd_Sheet_cut 3 rfl) rfl ?_
    refine R_i2b (Dat dd_Sheet_cut 4 rfl) ?_
    exact R_ireturn (Dat dd_Sheet_cut 5 rfl) rfl T
  · replace T := T.2 c
    refine R_aload_n (Dat dd_Sheet_cut 6 rfl) rfl rfl ?_
    obtain ⟨g3, T⟩ := T
    refine R_geti (Dat dd_Sheet_cut 7 rfl) rfl rfl (tok g3) ?_
    refine R_iconst (Dat dd_Sheet_cut 8 rfl) ?_
    obtain ⟨g4, T⟩ := T
    refine R_ic_ne (Dat dd_Sheet_cut 9 rfl) rfl g4 (by decide) (fun c => ?_) (fun c => ?_)
    · replace T := T.1 c
      refine R_iload_n (Dat dd_Sheet_cut 10 rfl) rfl ?_
      refine R_i2s (Dat dd_Sheet_cut 11 rfl) ?_
      refine R_goto (Dat dd_Sheet_cut 12 rfl) rfl ?_
      exact R_ireturn (Dat dd_Sheet_cut 14 rfl) rfl T
    · replace T := T.2 c
      refine R_iload_n (Dat dd_Sheet_cut 13 rfl) rfl ?_
      exact R_ireturn (Dat dd_Sheet_cut 14 rfl) rfl T
def dl_X_many : List (Nat × Instr × Nat) := [(0, .iload_n 1, 1), (1, .tableswitch 87 0 5 #[39, 47, 55, 60, 65, 70], 39), (40, .aload_n 0, 1), (41, .getfield 12, 3), (44, .getfield 96, 3), (47, .ireturn, 1), (48, .aload_n 0, 1), (49, .getfield 12, 3), (52, .getfield 204, 3), (55, .ireturn, 1), (56, .aload_n 0, 1), (57, .getfield 146, 3), (60, .ireturn, 1), (61, .aload_n 0, 1), (62, .getfield 90, 3), (65, .ireturn, 1), (66, .aload_n 0, 1), (67, .getfield 93, 3), (70, .ireturn, 1), (71, .aload_n 0, 1), (72, .getfield 146, 3), (75, .ifCond .ne 8, 3), (78, .bipush (-9), 2), (80, .goto 7, 3), (83, .aload_n 0, 1), (84, .getfield 166, 3), (87, .ireturn, 1), (88, .bipush (-2), 2), (90, .ireturn, 1)]
theorem dd_X_many : Dall 86 dl_X_many = true := by decide +kernel
theorem t_X_many {h : Hp} {P : Value → Hp → Prop} {p0 : Int} (S : XS h) (T : (rng p0) ∧ (((p0 = 0 → P (.int (I (iv h 1 1))) h) ∧ (p0 = 1 → P (.int (I (iv h 1 2))) h) ∧ (p0 = 2 → P (.int (I (iv h 0 2))) h) ∧ (p0 = 3 → P (.int (I (iv h 0 8))) h) ∧ (p0 = 4 → P (.int (I (iv h 0 5))) h) ∧ (p0 = 5 → (rng (iv h 0 2)) ∧ (((iv h 0 2) = 0 → P (.int (I (-9))) h) ∧ (¬ (iv h 0 2) = 0 → P (.int (I (iv h 0 3))) h)))) ∧ (p0 < 0 ∨ 5 < p0 → P (.int (I (-2))) h))) : R 86 0 [.ref 0, .int (I p0)] [] h P := by
  refine R_iload_n (Dat dd_X_many 0 rfl) rfl ?_
  obtain ⟨g1, T⟩ := T
  refine R_tsw (lo := 0) (hi := 5) (Dat dd_X_many 1 rfl) (td := 88) (ts := [40, 48, 56, 61, 66, 71]) g1 rfl rfl rfl rfl (fun i hi hc => ?_) (fun c => ?_)
  · obtain ⟨T, -⟩ := T
    have hi : i < 6 := hi
    rcases (show i = 0 ∨ i = 1 ∨ i = 2 ∨ i = 3 ∨ i = 4 ∨ i = 5 by omega) with rfl | rfl | rfl | rfl | rfl | rfl
    · replace T := T.1 (by exact hc)
      refine R_aload_n (Dat dd_X_many 2 rfl) rfl rfl ?_
      refine R_getr (Dat dd_X_many 3 rfl) rfl rfl (tok S.t0) S.f0_0 (q := 1) rfl (tnz S.t1) ?_
      refine R_geti (Dat dd_X_many 4 rfl) rfl rfl (tok S.t1) ?_
      exact R_ireturn (Dat dd_X_many 5 rfl) rfl T
    · replace T := T.2.1 (by exact hc)
      refine R_aload_n (Dat dd_X_many 6 rfl) rfl rfl ?_
      refine R_getr (Dat dd_X_many 7 rfl) rfl rfl (tok S.t0) S.f0_0 (q := 1) rfl (tnz S.t1) ?_
      refine R_geti (Dat dd_X_many 8 rfl) rfl rfl (tok S.t1) ?_
      exact R_ireturn (Dat dd_X_many 9 rfl) rfl T
    · replace T := T.2.2.1 (by exact hc)
      refine R_aload_n (Dat dd_X_many 10 rfl) rfl rfl ?_
      refine R_geti (Dat dd_X_many 11 rfl) rfl rfl (tok S.t0) ?_
      exact R_ireturn (Dat dd_X_many 12 rfl) rfl T
    · replace T := T.2.2.2.1 (by exact hc)
      refine R_aload_n (Dat dd_X_many 13 rfl) rfl rfl ?_
      refine R_geti (Dat dd_X_many 14 rfl) rfl rfl (tok S.t0) ?_
      exact R_ireturn (Dat dd_X_many 15 rfl) rfl T
    · replace T := T.2.2.2.2.1 (by exact hc)
      refine R_aload_n (Dat dd_X_many 16 rfl) rfl rfl ?_
      refine R_geti (Dat dd_X_many 17 rfl) rfl rfl (tok S.t0) ?_
      exact R_ireturn (Dat dd_X_many 18 rfl) rfl T
    · replace T := T.2.2.2.2.2 (by exact hc)
      refine R_aload_n (Dat dd_X_many 19 rfl) rfl rfl ?_
      refine R_geti (Dat dd_X_many 20 rfl) rfl rfl (tok S.t0) ?_
      obtain ⟨g2, T⟩ := T
      refine R_if_ne (Dat dd_X_many 21 rfl) rfl g2  (fun c => ?_) (fun c => ?_)
      · replace T := T.1 c
        refine R_bipush (Dat dd_X_many 22 rfl) (a := (-9)) rfl ?_
        refine R_goto (Dat dd_X_many 23 rfl) rfl ?_
        exact R_ireturn (Dat dd_X_many 26 rfl) rfl T
      · replace T := T.2 c
        refine R_aload_n (Dat dd_X_many 24 rfl) rfl rfl ?_
        refine R_geti (Dat dd_X_many 25 rfl) rfl rfl (tok S.t0) ?_
        exact R_ireturn (Dat dd_X_many 26 rfl) rfl T
  · replace T := T.2 c
    refine R_bipush (Dat dd_X_many 27 rfl) (a := (-2)) rfl ?_
    exact R_ireturn (Dat dd_X_many 28 rfl) rfl T
end
section
def dl_L_cell : List (Nat × Instr × Nat) := [(0, .iload_n 1, 1), (1, .aload_n 0, 1), (2, .arraylength, 1), (3, .if_icmp .ge 9, 3), (6, .aload_n 0, 1), (7, .iload_n 1, 1), (8, .iaload, 1), (9, .goto 9, 3), (12, .ldc 7, 2), (14, .iload_n 1, 1), (15, .iconst 1, 1), (16, .iadd, 1), (17, .imul, 1), (18, .ireturn, 1)]
theorem dd_L_cell : Dall 87 dl_L_cell = true := by decide +kernel
theorem t_L_cell {h : Hp} {P : Value → Hp → Prop} {p1 : Int} {p0 : Nat} (T : ((20 ≤ tg h p0 ∧ tg h p0 ≤ 25) ∨ tg h p0 = 30) ∧ (rng p1) ∧ (rng (ln h p0 : Int)) ∧ ((p1 < (ln h p0 : Int) → (tg h p0 = 20 ∨ tg h p0 = 30) ∧ ((ln h p0 : Int) ≤ 2147483648) ∧ (0 ≤ p1) ∧ (p1 < ln h p0) ∧ R 87 18 [.ref p0, .int (I p1)] [.int (I (iv h p0 p1))] h P) ∧ (¬ p1 < (ln h p0 : Int) → R 87 18 [.ref p0, .int (I p1)] [.int (I (747796405 * (p1 + 1)))] h P))) : R 87 0 [.ref p0, .int (I p1)] [] h P := by
  refine R_iload_n (Dat dd_L_cell 0 rfl) rfl ?_
  refine R_aload_n (Dat dd_L_cell 1 rfl) rfl rfl ?_
  obtain ⟨g1, T⟩ := T
  refine R_alen (Dat dd_L_cell 2 rfl) g1 ?_
  obtain ⟨g2, T⟩ := T
  obtain ⟨g3, T⟩ := T
  refine R_ic_ge (Dat dd_L_cell 3 rfl) rfl g2 g3 (fun c => ?_) (fun c => ?_)
  · replace T := T.1 c
    refine R_aload_n (Dat dd_L_cell 4 rfl) rfl rfl ?_
    refine R_iload_n (Dat dd_L_cell 5 rfl) rfl ?_
    obtain ⟨g4, T⟩ := T
    obtain ⟨g5, T⟩ := T
    obtain ⟨g6, T⟩ := T
    obtain ⟨g7, T⟩ := T
    refine R_iaload (Dat dd_L_cell 6 rfl) g4 g5 g6 g7 ?_
    refine R_goto (Dat dd_L_cell 7 rfl) rfl ?_
    exact T
  · replace T := T.2 c
    refine R_ldc (Dat dd_L_cell 8 rfl) (a := 747796405) rfl ?_
    refine R_iload_n (Dat dd_L_cell 9 rfl) rfl ?_
    refine R_iconst (Dat dd_L_cell 10 rfl) ?_
    refine R_iadd (Dat dd_L_cell 11 rfl) ?_
    refine R_imul (Dat dd_L_cell 12 rfl) ?_
    exact T
theorem t_L_cell_18 {h : Hp} {P : Value → Hp → Prop} {s0 : Int} {a0 a1 : Value} (T : P (.int (I s0)) h) : R 87 18 [a0, a1] [.int (I s0)] h P := by
  exact R_ireturn (Dat dd_L_cell 13 rfl) rfl T
def dl_L_some : List (Nat × Instr × Nat) := [(0, .iload_n 0, 1), (1, .ldc 8, 2), (3, .iand, 1), (4, .iload_n 1, 1), (5, .irem, 1), (6, .ireturn, 1)]
theorem dd_L_some : Dall 88 dl_L_some = true := by decide +kernel
theorem t_L_some {h : Hp} {P : Value → Hp → Prop} {p0 p1 : Int} (T : (0 ≤ (band p0 2147483647) ∧ (band p0 2147483647) < 2147483648) ∧ (0 < p1 ∧ p1 < 2147483648) ∧ P (.int (I ((band p0 2147483647) % p1))) h) : R 88 0 [.int (I p0), .int (I p1)] [] h P := by
  refine R_iload_n (Dat dd_L_some 0 rfl) rfl ?_
  refine R_ldc (Dat dd_L_some 1 rfl) (a := 2147483647) rfl ?_
  refine R_iand (Dat dd_L_some 2 rfl) ?_
  refine R_iload_n (Dat dd_L_some 3 rfl) rfl ?_
  obtain ⟨g1, T⟩ := T
  obtain ⟨g2, T⟩ := T
  refine R_irem (Dat dd_L_some 4 rfl) g1 g2 ?_
  exact R_ireturn (Dat dd_L_some 5 rfl) rfl T
def dl_L_put_c0 : List (Nat × Instr × Nat) := [(0, .aload_n 1, 1), (1, .iload_n 2, 1), (2, .invokestatic 9, 3), (5, .istore 5, 2), (7, .aload 4, 2), (9, .bipush 24, 2), (11, .iconst 2, 1), (12, .iload 5, 2), (14, .iload_n 3, 1), (15, .iconst 1, 1), (16, .isub, 1), (17, .invokestatic 15, 3), (20, .iadd, 1), (21, .iastore, 1), (22, .aload_n 0, 1), (23, .iconst 0, 1), (24, .iconst 0, 1), (25, .bipush 60, 2), (27, .invokevirtual 19, 3), (30, .iconst 1, 1), (31, .if_icmp .eq 6, 3), (34, .bipush (-99), 2), (36, .ireturn, 1), (37, .iconst 0, 1), (38, .istore 6, 2), (40, .iconst 0, 1), (41, .istore 7, 2), (43, .iload 7, 2), (45, .aload 4, 2), (47, .bipush 24, 2), (49, .iaload, 1), (50, .if_icmp .ge 277, 3), (53, .aload_n 1, 1), (54, .iload_n 2, 1), (55, .iconst 1, 1), (56, .iadd, 1), (57, .iload 7, 2), (59, .iconst 3, 1), (60, .irem, 1), (61, .iadd, 1), (62, .invokestatic 9, 3), (65, .iload 7, 2), (67, .iconst 3, 1), (68, .idiv, 1), (69, .bipush 9, 2), (71, .imul, 1), (72, .ishr, 1), (73, .istore 8, 2), (75, .aload 4, 2), (77, .iload 7, 2), (79, .iconst 1, 1), (80, .iload 8, 2), (82, .iload 5, 2), (84, .iconst 4, 1), (85, .ishr, 1), (86, .iconst 2, 1), (87, .invokestatic 15, 3), (90, .ifCond .ne 8, 3), (93, .bipush 9, 2), (95, .goto 4, 3)]
theorem dd_L_put_c0 : Dall 89 dl_L_put_c0 = true := by decide +kernel
def dl_L_put_c1 : List (Nat × Instr × Nat) := [(98, .iconst 4, 1), (99, .invokestatic 15, 3), (102, .iadd, 1), (103, .iastore, 1), (104, .aload 4, 2), (106, .bipush 8, 2), (108, .iload 7, 2), (110, .iadd, 1), (111, .iconst 1, 1), (112, .iload 8, 2), (114, .iconst 3, 1), (115, .ishr, 1), (116, .iload 5, 2), (118, .iconst 5, 1), (119, .ishr, 1), (120, .iconst 2, 1), (121, .invokestatic 15, 3), (124, .ifCond .ne 8, 3), (127, .bipush 9, 2), (129, .goto 4, 3), (132, .iconst 3, 1), (133, .invokestatic 15, 3), (136, .iadd, 1), (137, .iastore, 1), (138, .aload 4, 2), (140, .bipush 16, 2), (142, .iload 7, 2), (144, .iadd, 1), (145, .iload 8, 2), (147, .iconst 5, 1), (148, .ishr, 1), (149, .iconst 4, 1), (150, .invokestatic 15, 3), (153, .iconst 2, 1), (154, .if_icmp .le 7, 3), (157, .iconst 2, 1), (158, .goto 20, 3), (161, .iload 8, 2), (163, .iconst 5, 1), (164, .ishr, 1), (165, .iconst 4, 1), (166, .invokestatic 15, 3), (169, .iconst 2, 1), (170, .if_icmp .ne 7, 3), (173, .iconst 1, 1), (174, .goto 4, 3), (177, .iconst 0, 1), (178, .iastore, 1), (179, .iload 7, 2), (181, .ifCond .le 19, 3), (184, .aload_n 0, 1), (185, .iconst 0, 1), (186, .iload 6, 2), (188, .iinc 6 1, 3), (191, .bipush 59, 2), (193, .invokevirtual 25, 3), (196, .iconst 1, 1), (197, .if_icmp .ne 121, 3), (200, .aload_n 0, 1), (201, .iconst 0, 1)]
theorem dd_L_put_c1 : Dall 89 dl_L_put_c1 = true := by decide +kernel
def dl_L_put_c2 : List (Nat × Instr × Nat) := [(202, .iload 6, 2), (204, .iinc 6 1, 3), (207, .bipush 103, 2), (209, .invokevirtual 25, 3), (212, .iconst 1, 1), (213, .if_icmp .ne 105, 3), (216, .aload_n 0, 1), (217, .iconst 0, 1), (218, .iload 6, 2), (220, .iinc 6 1, 3), (223, .bipush 48, 2), (225, .aload 4, 2), (227, .iload 7, 2), (229, .iaload, 1), (230, .iadd, 1), (231, .invokevirtual 25, 3), (234, .iconst 1, 1), (235, .if_icmp .ne 83, 3), (238, .aload_n 0, 1), (239, .iconst 0, 1), (240, .iload 6, 2), (242, .iinc 6 1, 3), (245, .bipush 48, 2), (247, .aload 4, 2), (249, .bipush 8, 2), (251, .iload 7, 2), (253, .iadd, 1), (254, .iaload, 1), (255, .iadd, 1), (256, .invokevirtual 25, 3), (259, .iconst 1, 1), (260, .if_icmp .ne 58, 3), (263, .aload 4, 2), (265, .bipush 16, 2), (267, .iload 7, 2), (269, .iadd, 1), (270, .iaload, 1), (271, .ifCond .le 19, 3), (274, .aload_n 0, 1), (275, .iconst 0, 1), (276, .iload 6, 2), (278, .iinc 6 1, 3), (281, .bipush 108, 2), (283, .invokevirtual 25, 3), (286, .iconst 1, 1), (287, .if_icmp .ne 31, 3), (290, .aload 4, 2), (292, .bipush 16, 2), (294, .iload 7, 2), (296, .iadd, 1), (297, .iaload, 1), (298, .iconst 1, 1), (299, .if_icmp .le 22, 3), (302, .aload_n 0, 1), (303, .iconst 0, 1), (304, .iload 6, 2), (306, .iinc 6 1, 3), (309, .bipush 111, 2), (311, .invokevirtual 25, 3), (314, .iconst 1, 1)]
theorem dd_L_put_c2 : Dall 89 dl_L_put_c2 = true := by decide +kernel
def dl_L_put_c3 : List (Nat × Instr × Nat) := [(315, .if_icmp .eq 6, 3), (318, .bipush (-99), 2), (320, .ireturn, 1), (321, .iinc 7 1, 3), (324, .goto (-281), 3), (327, .iload 6, 2), (329, .ireturn, 1)]
theorem dd_L_put_c3 : Dall 89 dl_L_put_c3 = true := by decide +kernel
theorem t_L_put {h : Hp} {P : Value → Hp → Prop} {p2 p3 : Int} {p0 p1 p4 : Nat} (T : R 87 0 [.ref p1, .int (I p2)] [] h (fun v h2 => R 89 5 [.ref p0, .ref p1, .int (I p2), .int (I p3), .ref p4, .retAddr 0, .retAddr 0, .retAddr 0, .retAddr 0] (v :: []) h2 P)) : R 89 0 [.ref p0, .ref p1, .int (I p2), .int (I p3), .ref p4, .retAddr 0, .retAddr 0, .retAddr 0, .retAddr 0] [] h P := by
  refine R_aload_n (Dat dd_L_put_c0 0 rfl) rfl rfl ?_
  refine R_iload_n (Dat dd_L_put_c0 1 rfl) rfl ?_
  exact R_call0 (Dat dd_L_put_c0 2 rfl) rfl rfl rfl rfl rfl rfl T
theorem t_L_put_5 {h : Hp} {P : Value → Hp → Prop} {a2 a3 s0 : Int} {a0 a1 a4 : Nat} {a5 a6 a7 a8 : Value} (T : R 88 0 [.int (I s0), .int (I (a3 - 1))] [] h (fun v h2 => R 89 20 [.ref a0, .ref a1, .int (I a2), .int (I a3), .ref a4, .int (I s0), a6, a7, a8] (v :: [.int (I 2), .int (I 24), .ref a4]) h2 P)) : R 89 5 [.ref a0, .ref a1, .int (I a2), .int (I a3), .ref a4, a5, a6, a7, a8] [.int (I s0)] h P := by
  refine R_istore (Dat dd_L_put_c0 3 rfl) rfl rfl ?_
  refine R_aload (Dat dd_L_put_c0 4 rfl) rfl rfl ?_
  refine R_bipush (Dat dd_L_put_c0 5 rfl) (a := 24) rfl ?_
  refine R_iconst (Dat dd_L_put_c0 6 rfl) ?_
  refine R_iload (Dat dd_L_put_c0 7 rfl) rfl ?_
  refine R_iload_n (Dat dd_L_put_c0 8 rfl) rfl ?_
  refine R_iconst (Dat dd_L_put_c0 9 rfl) ?_
  refine R_isub (Dat dd_L_put_c0 10 rfl) ?_
  exact R_call0 (Dat dd_L_put_c0 11 rfl) rfl rfl rfl rfl rfl rfl T
theorem t_L_put_20 {h : Hp} {P : Value → Hp → Prop} {a2 a5 s0 s1 s2 : Int} {a0 a1 a4 s3 : Nat} {a3 a6 a7 a8 : Value} (T : (tg h s3 = 20) ∧ ((ln h s3 : Int) ≤ 2147483648) ∧ (0 ≤ s2) ∧ (s2 < ln h s3) ∧ (tg (setI h s3 s2 (wr (s1 + s0))) a0 = 12) ∧ R 82 0 [.ref a0, .int (I 0), .int (I 0), .int (I 60)] [] (setI h s3 s2 (wr (s1 + s0))) (fun v h2 => R 89 30 [.ref a0, .ref a1, .int (I a2), a3, .ref a4, .int (I a5), a6, a7, a8] (v :: []) h2 P)) : R 89 20 [.ref a0, .ref a1, .int (I a2), a3, .ref a4, .int (I a5), a6, a7, a8] [.int (I s0), .int (I s1), .int (I s2), .ref s3] h P := by
  refine R_iadd (Dat dd_L_put_c0 12 rfl) ?_
  obtain ⟨g1, T⟩ := T
  obtain ⟨g2, T⟩ := T
  obtain ⟨g3, T⟩ := T
  obtain ⟨g4, T⟩ := T
  refine R_iastore (Dat dd_L_put_c0 13 rfl) g1 g2 g3 g4 (v := wr (s1 + s0)) rfl ?_
  refine R_aload_n (Dat dd_L_put_c0 14 rfl) rfl rfl ?_
  refine R_iconst (Dat dd_L_put_c0 15 rfl) ?_
  refine R_iconst (Dat dd_L_put_c0 16 rfl) ?_
  refine R_bipush (Dat dd_L_put_c0 17 rfl) (a := 60) rfl ?_
  obtain ⟨g5, T⟩ := T
  exact R_call1 (Dat dd_L_put_c0 18 rfl) rfl g5 rfl rfl rfl rfl rfl T
theorem t_L_put_30 {h : Hp} {P : Value → Hp → Prop} {a2 a5 s0 : Int} {a0 a1 a4 : Nat} {a3 a6 a7 a8 : Value} (T : (rng s0) ∧ ((s0 = 1 → R 89 43 [.ref a0, .ref a1, .int (I a2), a3, .ref a4, .int (I a5), .int (I 0), .int (I 0), a8] [] h P) ∧ (¬ s0 = 1 → P (.int (I (-99))) h))) : R 89 30 [.ref a0, .ref a1, .int (I a2), a3, .ref a4, .int (I a5), a6, a7, a8] [.int (I s0)] h P := by
  refine R_iconst (Dat dd_L_put_c0 19 rfl) ?_
  obtain ⟨g1, T⟩ := T
  refine R_ic_eq (Dat dd_L_put_c0 20 rfl) rfl g1 (by decide) (fun c => ?_) (fun c => ?_)
  · replace T := T.1 c
    refine R_iconst (Dat dd_L_put_c0 23 rfl) ?_
    refine R_istore (Dat dd_L_put_c0 24 rfl) rfl rfl ?_
    refine R_iconst (Dat dd_L_put_c0 25 rfl) ?_
    refine R_istore (Dat dd_L_put_c0 26 rfl) rfl rfl ?_
    exact T
  · replace T := T.2 c
    refine R_bipush (Dat dd_L_put_c0 21 rfl) (a := (-99)) rfl ?_
    exact R_ireturn (Dat dd_L_put_c0 22 rfl) rfl T
theorem t_L_put_43 {h : Hp} {P : Value → Hp → Prop} {a2 a5 a6 a7 : Int} {a0 a1 a4 : Nat} {a3 a8 : Value} (T : (tg h a4 = 20 ∨ tg h a4 = 30) ∧ ((ln h a4 : Int) ≤ 2147483648) ∧ ((24 : Int) < ln h a4) ∧ (rng a7) ∧ (rng (iv h a4 24)) ∧ ((a7 < (iv h a4 24) → (0 ≤ a7 ∧ a7 < 2147483648) ∧ R 87 0 [.ref a1, .int (I ((a2 + 1) + (a7 % 3)))] [] h (fun v h2 => R 89 65 [.ref a0, .ref a1, .int (I a2), a3, .ref a4, .int (I a5), .int (I a6), .int (I a7), a8] (v :: []) h2 P)) ∧ (¬ a7 < (iv h a4 24) → P (.int (I a6)) h))) : R 89 43 [.ref a0, .ref a1, .int (I a2), a3, .ref a4, .int (I a5), .int (I a6), .int (I a7), a8] [] h P := by
  refine R_iload (Dat dd_L_put_c0 27 rfl) rfl ?_
  refine R_aload (Dat dd_L_put_c0 28 rfl) rfl rfl ?_
  refine R_bipush (Dat dd_L_put_c0 29 rfl) (a := 24) rfl ?_
  obtain ⟨g1, T⟩ := T
  obtain ⟨g2, T⟩ := T
  obtain ⟨g3, T⟩ := T
  refine R_iaload (Dat dd_L_put_c0 30 rfl) g1 g2 (by decide) g3 ?_
  obtain ⟨g4, T⟩ := T
  obtain ⟨g5, T⟩ := T
  refine R_ic_ge (Dat dd_L_put_c0 31 rfl) rfl g4 g5 (fun c => ?_) (fun c => ?_)
  · replace T := T.1 c
    refine R_aload_n (Dat dd_L_put_c0 32 rfl) rfl rfl ?_
    refine R_iload_n (Dat dd_L_put_c0 33 rfl) rfl ?_
    refine R_iconst (Dat dd_L_put_c0 34 rfl) ?_
    refine R_iadd (Dat dd_L_put_c0 35 rfl) ?_
    refine R_iload (Dat dd_L_put_c0 36 rfl) rfl ?_
    refine R_iconst (Dat dd_L_put_c0 37 rfl) ?_
    obtain ⟨g6, T⟩ := T
    refine R_irem (Dat dd_L_put_c0 38 rfl) g6 (by decide) ?_
    refine R_iadd (Dat dd_L_put_c0 39 rfl) ?_
    exact R_call0 (Dat dd_L_put_c0 40 rfl) rfl rfl rfl rfl rfl rfl T
  · replace T := T.2 c
    refine R_iload (Dat dd_L_put_c3 5 rfl) rfl ?_
    exact R_ireturn (Dat dd_L_put_c3 6 rfl) rfl T
theorem t_L_put_65 {h : Hp} {P : Value → Hp → Prop} {a2 a5 a6 a7 s0 : Int} {a0 a1 a4 : Nat} {a3 a8 : Value} (T : (0 ≤ a7 ∧ a7 < 2147483648) ∧ R 88 0 [.int (I (shr a5 4)), .int (I 2)] [] h (fun v h2 => R 89 90 [.ref a0, .ref a1, .int (I a2), a3, .ref a4, .int (I a5), .int (I a6), .int (I a7), .int (I (shr s0 ((a7 / 3) * 9)))] (v :: [.int (I (shr s0 ((a7 / 3) * 9))), .int (I 1), .int (I a7), .ref a4]) h2 P)) : R 89 65 [.ref a0, .ref a1, .int (I a2), a3, .ref a4, .int (I a5), .int (I a6), .int (I a7), a8] [.int (I s0)] h P := by
  refine R_iload (Dat dd_L_put_c0 41 rfl) rfl ?_
  refine R_iconst (Dat dd_L_put_c0 42 rfl) ?_
  obtain ⟨g1, T⟩ := T
  refine R_idiv (Dat dd_L_put_c0 43 rfl) g1 (by decide) ?_
  refine R_bipush (Dat dd_L_put_c0 44 rfl) (a := 9) rfl ?_
  refine R_imul (Dat dd_L_put_c0 45 rfl) ?_
  refine R_ishr (Dat dd_L_put_c0 46 rfl) ?_
  refine R_istore (Dat dd_L_put_c0 47 rfl) rfl rfl ?_
  refine R_aload (Dat dd_L_put_c0 48 rfl) rfl rfl ?_
  refine R_iload (Dat dd_L_put_c0 49 rfl) rfl ?_
  refine R_iconst (Dat dd_L_put_c0 50 rfl) ?_
  refine R_iload (Dat dd_L_put_c0 51 rfl) rfl ?_
  refine R_iload (Dat dd_L_put_c0 52 rfl) rfl ?_
  refine R_iconst (Dat dd_L_put_c0 53 rfl) ?_
  refine R_ishr (Dat dd_L_put_c0 54 rfl) ?_
  refine R_iconst (Dat dd_L_put_c0 55 rfl) ?_
  exact R_call0 (Dat dd_L_put_c0 56 rfl) rfl rfl rfl rfl rfl rfl T
theorem t_L_put_90 {h : Hp} {P : Value → Hp → Prop} {a2 a5 a6 a7 a8 s0 s1 s2 s3 : Int} {a0 a1 a4 s4 : Nat} {a3 : Value} (T : (rng s0) ∧ ((s0 = 0 → R 89 99 [.ref a0, .ref a1, .int (I a2), a3, .ref a4, .int (I a5), .int (I a6), .int (I a7), .int (I a8)] [.int (I 9), .int (I s1), .int (I s2), .int (I s3), .ref s4] h P) ∧ (¬ s0 = 0 → R 89 99 [.ref a0, .ref a1, .int (I a2), a3, .ref a4, .int (I a5), .int (I a6), .int (I a7), .int (I a8)] [.int (I 4), .int (I s1), .int (I s2), .int (I s3), .ref s4] h P))) : R 89 90 [.ref a0, .ref a1, .int (I a2), a3, .ref a4, .int (I a5), .int (I a6), .int (I a7), .int (I a8)] [.int (I s0), .int (I s1), .int (I s2), .int (I s3), .ref s4] h P := by
  obtain ⟨g1, T⟩ := T
  refine R_if_ne (Dat dd_L_put_c0 57 rfl) rfl g1  (fun c => ?_) (fun c => ?_)
  · replace T := T.1 c
    refine R_bipush (Dat dd_L_put_c0 58 rfl) (a := 9) rfl ?_
    refine R_goto (Dat dd_L_put_c0 59 rfl) rfl ?_
    exact T
  · replace T := T.2 c
    refine R_iconst (Dat dd_L_put_c1 0 rfl) ?_
    exact T
theorem t_L_put_99 {h : Hp} {P : Value → Hp → Prop} {a2 a5 a6 a7 a8 s0 s1 s2 s3 : Int} {a0 a1 a4 s4 : Nat} {a3 : Value} (T : R 88 0 [.int (I s1), .int (I s0)] [] h (fun v h2 => R 89 102 [.ref a0, .ref a1, .int (I a2), a3, .ref a4, .int (I a5), .int (I a6), .int (I a7), .int (I a8)] (v :: [.int (I s2), .int (I s3), .ref s4]) h2 P)) : R 89 99 [.ref a0, .ref a1, .int (I a2), a3, .ref a4, .int (I a5), .int (I a6), .int (I a7), .int (I a8)] [.int (I s0), .int (I s1), .int (I s2), .int (I s3), .ref s4] h P := by
  exact R_call0 (Dat dd_L_put_c1 1 rfl) rfl rfl rfl rfl rfl rfl T
theorem t_L_put_102 {h : Hp} {P : Value → Hp → Prop} {a2 a5 a6 a7 a8 s0 s1 s2 : Int} {a0 a1 a4 s3 : Nat} {a3 : Value} (T : (tg h s3 = 20) ∧ ((ln h s3 : Int) ≤ 2147483648) ∧ (0 ≤ s2) ∧ (s2 < ln h s3) ∧ R 88 0 [.int (I (shr a5 5)), .int (I 2)] [] (setI h s3 s2 (wr (s1 + s0))) (fun v h2 => R 89 124 [.ref a0, .ref a1, .int (I a2), a3, .ref a4, .int (I a5), .int (I a6), .int (I a7), .int (I a8)] (v :: [.int (I (shr a8 3)), .int (I 1), .int (I (8 + a7)), .ref a4]) h2 P)) : R 89 102 [.ref a0, .ref a1, .int (I a2), a3, .ref a4, .int (I a5), .int (I a6), .int (I a7), .int (I a8)] [.int (I s0), .int (I s1), .int (I s2), .ref s3] h P := by
  refine R_iadd (Dat dd_L_put_c1 2 rfl) ?_
  obtain ⟨g1, T⟩ := T
  obtain ⟨g2, T⟩ := T
  obtain ⟨g3, T⟩ := T
  obtain ⟨g4, T⟩ := T
  refine R_iastore (Dat dd_L_put_c1 3 rfl) g1 g2 g3 g4 (v := wr (s1 + s0)) rfl ?_
  refine R_aload (Dat dd_L_put_c1 4 rfl) rfl rfl ?_
  refine R_bipush (Dat dd_L_put_c1 5 rfl) (a := 8) rfl ?_
  refine R_iload (Dat dd_L_put_c1 6 rfl) rfl ?_
  refine R_iadd (Dat dd_L_put_c1 7 rfl) ?_
  refine R_iconst (Dat dd_L_put_c1 8 rfl) ?_
  refine R_iload (Dat dd_L_put_c1 9 rfl) rfl ?_
  refine R_iconst (Dat dd_L_put_c1 10 rfl) ?_
  refine R_ishr (Dat dd_L_put_c1 11 rfl) ?_
  refine R_iload (Dat dd_L_put_c1 12 rfl) rfl ?_
  refine R_iconst (Dat dd_L_put_c1 13 rfl) ?_
  refine R_ishr (Dat dd_L_put_c1 14 rfl) ?_
  refine R_iconst (Dat dd_L_put_c1 15 rfl) ?_
  exact R_call0 (Dat dd_L_put_c1 16 rfl) rfl rfl rfl rfl rfl rfl T
theorem t_L_put_124 {h : Hp} {P : Value → Hp → Prop} {a2 a5 a6 a7 a8 s0 s1 s2 s3 : Int} {a0 a1 a4 s4 : Nat} {a3 : Value} (T : (rng s0) ∧ ((s0 = 0 → R 89 133 [.ref a0, .ref a1, .int (I a2), a3, .ref a4, .int (I a5), .int (I a6), .int (I a7), .int (I a8)] [.int (I 9), .int (I s1), .int (I s2), .int (I s3), .ref s4] h P) ∧ (¬ s0 = 0 → R 89 133 [.ref a0, .ref a1, .int (I a2), a3, .ref a4, .int (I a5), .int (I a6), .int (I a7), .int (I a8)] [.int (I 3), .int (I s1), .int (I s2), .int (I s3), .ref s4] h P))) : R 89 124 [.ref a0, .ref a1, .int (I a2), a3, .ref a4, .int (I a5), .int (I a6), .int (I a7), .int (I a8)] [.int (I s0), .int (I s1), .int (I s2), .int (I s3), .ref s4] h P := by
  obtain ⟨g1, T⟩ := T
  refine R_if_ne (Dat dd_L_put_c1 17 rfl) rfl g1  (fun c => ?_) (fun c => ?_)
  · replace T := T.1 c
    refine R_bipush (Dat dd_L_put_c1 18 rfl) (a := 9) rfl ?_
    refine R_goto (Dat dd_L_put_c1 19 rfl) rfl ?_
    exact T
  · replace T := T.2 c
    refine R_iconst (Dat dd_L_put_c1 20 rfl) ?_
    exact T
theorem t_L_put_133 {h : Hp} {P : Value → Hp → Prop} {a2 a5 a6 a7 a8 s0 s1 s2 s3 : Int} {a0 a1 a4 s4 : Nat} {a3 : Value} (T : R 88 0 [.int (I s1), .int (I s0)] [] h (fun v h2 => R 89 136 [.ref a0, .ref a1, .int (I a2), a3, .ref a4, .int (I a5), .int (I a6), .int (I a7), .int (I a8)] (v :: [.int (I s2), .int (I s3), .ref s4]) h2 P)) : R 89 133 [.ref a0, .ref a1, .int (I a2), a3, .ref a4, .int (I a5), .int (I a6), .int (I a7), .int (I a8)] [.int (I s0), .int (I s1), .int (I s2), .int (I s3), .ref s4] h P := by
  exact R_call0 (Dat dd_L_put_c1 21 rfl) rfl rfl rfl rfl rfl rfl T
theorem t_L_put_136 {h : Hp} {P : Value → Hp → Prop} {a2 a5 a6 a7 a8 s0 s1 s2 : Int} {a0 a1 a4 s3 : Nat} {a3 : Value} (T : (tg h s3 = 20) ∧ ((ln h s3 : Int) ≤ 2147483648) ∧ (0 ≤ s2) ∧ (s2 < ln h s3) ∧ R 88 0 [.int (I (shr a8 5)), .int (I 4)] [] (setI h s3 s2 (wr (s1 + s0))) (fun v h2 => R 89 153 [.ref a0, .ref a1, .int (I a2), a3, .ref a4, .int (I a5), .int (I a6), .int (I a7), .int (I a8)] (v :: [.int (I (16 + a7)), .ref a4]) h2 P)) : R 89 136 [.ref a0, .ref a1, .int (I a2), a3, .ref a4, .int (I a5), .int (I a6), .int (I a7), .int (I a8)] [.int (I s0), .int (I s1), .int (I s2), .ref s3] h P := by
  refine R_iadd (Dat dd_L_put_c1 22 rfl) ?_
  obtain ⟨g1, T⟩ := T
  obtain ⟨g2, T⟩ := T
  obtain ⟨g3, T⟩ := T
  obtain ⟨g4, T⟩ := T
  refine R_iastore (Dat dd_L_put_c1 23 rfl) g1 g2 g3 g4 (v := wr (s1 + s0)) rfl ?_
  refine R_aload (Dat dd_L_put_c1 24 rfl) rfl rfl ?_
  refine R_bipush (Dat dd_L_put_c1 25 rfl) (a := 16) rfl ?_
  refine R_iload (Dat dd_L_put_c1 26 rfl) rfl ?_
  refine R_iadd (Dat dd_L_put_c1 27 rfl) ?_
  refine R_iload (Dat dd_L_put_c1 28 rfl) rfl ?_
  refine R_iconst (Dat dd_L_put_c1 29 rfl) ?_
  refine R_ishr (Dat dd_L_put_c1 30 rfl) ?_
  refine R_iconst (Dat dd_L_put_c1 31 rfl) ?_
  exact R_call0 (Dat dd_L_put_c1 32 rfl) rfl rfl rfl rfl rfl rfl T
theorem t_L_put_153 {h : Hp} {P : Value → Hp → Prop} {a2 a5 a6 a7 a8 s0 s1 : Int} {a0 a1 a4 s2 : Nat} {a3 : Value} (T : (rng s0) ∧ (((2 : Int) < s0 → R 89 178 [.ref a0, .ref a1, .int (I a2), a3, .ref a4, .int (I a5), .int (I a6), .int (I a7), .int (I a8)] [.int (I 2), .int (I s1), .ref s2] h P) ∧ (¬ (2 : Int) < s0 → R 88 0 [.int (I (shr a8 5)), .int (I 4)] [] h (fun v h2 => R 89 169 [.ref a0, .ref a1, .int (I a2), a3, .ref a4, .int (I a5), .int (I a6), .int (I a7), .int (I a8)] (v :: [.int (I s1), .ref s2]) h2 P)))) : R 89 153 [.ref a0, .ref a1, .int (I a2), a3, .ref a4, .int (I a5), .int (I a6), .int (I a7), .int (I a8)] [.int (I s0), .int (I s1), .ref s2] h P := by
  refine R_iconst (Dat dd_L_put_c1 33 rfl) ?_
  obtain ⟨g1, T⟩ := T
  refine R_ic_le (Dat dd_L_put_c1 34 rfl) rfl g1 (by decide) (fun c => ?_) (fun c => ?_)
  · replace T := T.1 c
    refine R_iconst (Dat dd_L_put_c1 35 rfl) ?_
    refine R_goto (Dat dd_L_put_c1 36 rfl) rfl ?_
    exact T
  · replace T := T.2 c
    refine R_iload (Dat dd_L_put_c1 37 rfl) rfl ?_
    refine R_iconst (Dat dd_L_put_c1 38 rfl) ?_
    refine R_ishr (Dat dd_L_put_c1 39 rfl) ?_
    refine R_iconst (Dat dd_L_put_c1 40 rfl) ?_
    exact R_call0 (Dat dd_L_put_c1 41 rfl) rfl rfl rfl rfl rfl rfl T
theorem t_L_put_178 {h : Hp} {P : Value → Hp → Prop} {a2 a5 a6 a7 s0 s1 : Int} {a0 a1 a4 s2 : Nat} {a3 a8 : Value} (T : (tg h s2 = 20) ∧ ((ln h s2 : Int) ≤ 2147483648) ∧ (0 ≤ s1) ∧ (s1 < ln h s2) ∧ (rng a7) ∧ (((0 : Int) < a7 → (tg (setI h s2 s1 (wr s0)) a0 = 12) ∧ R 84 0 [.ref a0, .int (I 0), .int (I a6), .int (I 59), .retAddr 0] [] (setI h s2 s1 (wr s0)) (fun v h2 => R 89 196 [.ref a0, .ref a1, .int (I a2), a3, .ref a4, .int (I a5), .int (I (a6 + 1)), .int (I a7), a8] (v :: []) h2 P)) ∧ (¬ (0 : Int) < a7 → R 89 200 [.ref a0, .ref a1, .int (I a2), a3, .ref a4, .int (I a5), .int (I a6), .int (I a7), a8] [] (setI h s2 s1 (wr s0)) P))) : R 89 178 [.ref a0, .ref a1, .int (I a2), a3, .ref a4, .int (I a5), .int (I a6), .int (I a7), a8] [.int (I s0), .int (I s1), .ref s2] h P := by
  obtain ⟨g1, T⟩ := T
  obtain ⟨g2, T⟩ := T
  obtain ⟨g3, T⟩ := T
  obtain ⟨g4, T⟩ := T
  refine R_iastore (Dat dd_L_put_c1 47 rfl) g1 g2 g3 g4 (v := wr s0) rfl ?_
  refine R_iload (Dat dd_L_put_c1 48 rfl) rfl ?_
  obtain ⟨g5, T⟩ := T
  refine R_if_le (Dat dd_L_put_c1 49 rfl) rfl g5  (fun c => ?_) (fun c => ?_)
  · replace T := T.1 c
    refine R_aload_n (Dat dd_L_put_c1 50 rfl) rfl rfl ?_
    refine R_iconst (Dat dd_L_put_c1 51 rfl) ?_
    refine R_iload (Dat dd_L_put_c1 52 rfl) rfl ?_
    refine R_iinc (Dat dd_L_put_c1 53 rfl) rfl rfl rfl ?_
    refine R_bipush (Dat dd_L_put_c1 54 rfl) (a := 59) rfl ?_
    obtain ⟨g6, T⟩ := T
    exact R_call1 (Dat dd_L_put_c1 55 rfl) rfl g6 rfl rfl rfl rfl rfl T
  · replace T := T.2 c
    exact T
theorem t_L_put_169 {h : Hp} {P : Value → Hp → Prop} {a2 a5 a6 a7 s0 s1 : Int} {a0 a1 a4 s2 : Nat} {a3 a8 : Value} (T : (rng s0) ∧ ((s0 = 2 → R 89 178 [.ref a0, .ref a1, .int (I a2), a3, .ref a4, .int (I a5), .int (I a6), .int (I a7), a8] [.int (I 1), .int (I s1), .ref s2] h P) ∧ (¬ s0 = 2 → R 89 178 [.ref a0, .ref a1, .int (I a2), a3, .ref a4, .int (I a5), .int (I a6), .int (I a7), a8] [.int (I 0), .int (I s1), .ref s2] h P))) : R 89 169 [.ref a0, .ref a1, .int (I a2), a3, .ref a4, .int (I a5), .int (I a6), .int (I a7), a8] [.int (I s0), .int (I s1), .ref s2] h P := by
  refine R_iconst (Dat dd_L_put_c1 42 rfl) ?_
  obtain ⟨g1, T⟩ := T
  refine R_ic_ne (Dat dd_L_put_c1 43 rfl) rfl g1 (by decide) (fun c => ?_) (fun c => ?_)
  · replace T := T.1 c
    refine R_iconst (Dat dd_L_put_c1 44 rfl) ?_
    refine R_goto (Dat dd_L_put_c1 45 rfl) rfl ?_
    exact T
  · replace T := T.2 c
    refine R_iconst (Dat dd_L_put_c1 46 rfl) ?_
    exact T
theorem t_L_put_196 {h : Hp} {P : Value → Hp → Prop} {a2 a5 a6 a7 s0 : Int} {a0 a1 a4 : Nat} {a3 a8 : Value} (T : (rng s0) ∧ ((s0 = 1 → R 89 200 [.ref a0, .ref a1, .int (I a2), a3, .ref a4, .int (I a5), .int (I a6), .int (I a7), a8] [] h P) ∧ (¬ s0 = 1 → R 89 318 [.ref a0, .ref a1, .int (I a2), a3, .ref a4, .int (I a5), .int (I a6), .int (I a7), a8] [] h P))) : R 89 196 [.ref a0, .ref a1, .int (I a2), a3, .ref a4, .int (I a5), .int (I a6), .int (I a7), a8] [.int (I s0)] h P := by
  refine R_iconst (Dat dd_L_put_c1 56 rfl) ?_
  obtain ⟨g1, T⟩ := T
  refine R_ic_ne (Dat dd_L_put_c1 57 rfl) rfl g1 (by decide) (fun c => ?_) (fun c => ?_)
  · replace T := T.1 c
    exact T
  · replace T := T.2 c
    exact T
theorem t_L_put_200 {h : Hp} {P : Value → Hp → Prop} {a2 a5 a6 a7 : Int} {a0 a1 a4 : Nat} {a3 a8 : Value} (T : (tg h a0 = 12) ∧ R 84 0 [.ref a0, .int (I 0), .int (I a6), .int (I 103), .retAddr 0] [] h (fun v h2 => R 89 212 [.ref a0, .ref a1, .int (I a2), a3, .ref a4, .int (I a5), .int (I (a6 + 1)), .int (I a7), a8] (v :: []) h2 P)) : R 89 200 [.ref a0, .ref a1, .int (I a2), a3, .ref a4, .int (I a5), .int (I a6), .int (I a7), a8] [] h P := by
  refine R_aload_n (Dat dd_L_put_c1 58 rfl) rfl rfl ?_
  refine R_iconst (Dat dd_L_put_c1 59 rfl) ?_
  refine R_iload (Dat dd_L_put_c2 0 rfl) rfl ?_
  refine R_iinc (Dat dd_L_put_c2 1 rfl) rfl rfl rfl ?_
  refine R_bipush (Dat dd_L_put_c2 2 rfl) (a := 103) rfl ?_
  obtain ⟨g1, T⟩ := T
  exact R_call1 (Dat dd_L_put_c2 3 rfl) rfl g1 rfl rfl rfl rfl rfl T
theorem t_L_put_318 {h : Hp} {P : Value → Hp → Prop} {a0 a1 a2 a3 a4 a5 a6 a7 a8 : Value} (T : P (.int (I (-99))) h) : R 89 318 [a0, a1, a2, a3, a4, a5, a6, a7, a8] [] h P := by
  refine R_bipush (Dat dd_L_put_c3 1 rfl) (a := (-99)) rfl ?_
  exact R_ireturn (Dat dd_L_put_c3 2 rfl) rfl T
theorem t_L_put_212 {h : Hp} {P : Value → Hp → Prop} {a2 a5 a6 a7 s0 : Int} {a0 a1 a4 : Nat} {a3 a8 : Value} (T : (rng s0) ∧ ((s0 = 1 → (tg h a4 = 20 ∨ tg h a4 = 30) ∧ ((ln h a4 : Int) ≤ 2147483648) ∧ (0 ≤ a7) ∧ (a7 < ln h a4) ∧ (tg h a0 = 12) ∧ R 84 0 [.ref a0, .int (I 0), .int (I a6), .int (I (48 + (iv h a4 a7))), .retAddr 0] [] h (fun v h2 => R 89 234 [.ref a0, .ref a1, .int (I a2), a3, .ref a4, .int (I a5), .int (I (a6 + 1)), .int (I a7), a8] (v :: []) h2 P)) ∧ (¬ s0 = 1 → R 89 318 [.ref a0, .ref a1, .int (I a2), a3, .ref a4, .int (I a5), .int (I a6), .int (I a7), a8] [] h P))) : R 89 212 [.ref a0, .ref a1, .int (I a2), a3, .ref a4, .int (I a5), .int (I a6), .int (I a7), a8] [.int (I s0)] h P := by
  refine R_iconst (Dat dd_L_put_c2 4 rfl) ?_
  obtain ⟨g1, T⟩ := T
  refine R_ic_ne (Dat dd_L_put_c2 5 rfl) rfl g1 (by decide) (fun c => ?_) (fun c => ?_)
  · replace T := T.1 c
    refine R_aload_n (Dat dd_L_put_c2 6 rfl) rfl rfl ?_
    refine R_iconst (Dat dd_L_put_c2 7 rfl) ?_
    refine R_iload (Dat dd_L_put_c2 8 rfl) rfl ?_
    refine R_iinc (Dat dd_L_put_c2 9 rfl) rfl rfl rfl ?_
    refine R_bipush (Dat dd_L_put_c2 10 rfl) (a := 48) rfl ?_
    refine R_aload (Dat dd_L_put_c2 11 rfl) rfl rfl ?_
    refine R_iload (Dat dd_L_put_c2 12 rfl) rfl ?_
    obtain ⟨g2, T⟩ := T
    obtain ⟨g3, T⟩ := T
    obtain ⟨g4, T⟩ := T
    obtain ⟨g5, T⟩ := T
    refine R_iaload (Dat dd_L_put_c2 13 rfl) g2 g3 g4 g5 ?_
    refine R_iadd (Dat dd_L_put_c2 14 rfl) ?_
    obtain ⟨g6, T⟩ := T
    exact R_call1 (Dat dd_L_put_c2 15 rfl) rfl g6 rfl rfl rfl rfl rfl T
  · replace T := T.2 c
    exact T
theorem t_L_put_234 {h : Hp} {P : Value → Hp → Prop} {a2 a5 a6 a7 s0 : Int} {a0 a1 a4 : Nat} {a3 a8 : Value} (T : (rng s0) ∧ ((s0 = 1 → (tg h a4 = 20 ∨ tg h a4 = 30) ∧ ((ln h a4 : Int) ≤ 2147483648) ∧ (0 ≤ (8 + a7)) ∧ ((8 + a7) < ln h a4) ∧ (tg h a0 = 12) ∧ R 84 0 [.ref a0, .int (I 0), .int (I a6), .int (I (48 + (iv h a4 (8 + a7)))), .retAddr 0] [] h (fun v h2 => R 89 259 [.ref a0, .ref a1, .int (I a2), a3, .ref a4, .int (I a5), .int (I (a6 + 1)), .int (I a7), a8] (v :: []) h2 P)) ∧ (¬ s0 = 1 → R 89 318 [.ref a0, .ref a1, .int (I a2), a3, .ref a4, .int (I a5), .int (I a6), .int (I a7), a8] [] h P))) : R 89 234 [.ref a0, .ref a1, .int (I a2), a3, .ref a4, .int (I a5), .int (I a6), .int (I a7), a8] [.int (I s0)] h P := by
  refine R_iconst (Dat dd_L_put_c2 16 rfl) ?_
  obtain ⟨g1, T⟩ := T
  refine R_ic_ne (Dat dd_L_put_c2 17 rfl) rfl g1 (by decide) (fun c => ?_) (fun c => ?_)
  · replace T := T.1 c
    refine R_aload_n (Dat dd_L_put_c2 18 rfl) rfl rfl ?_
    refine R_iconst (Dat dd_L_put_c2 19 rfl) ?_
    refine R_iload (Dat dd_L_put_c2 20 rfl) rfl ?_
    refine R_iinc (Dat dd_L_put_c2 21 rfl) rfl rfl rfl ?_
    refine R_bipush (Dat dd_L_put_c2 22 rfl) (a := 48) rfl ?_
    refine R_aload (Dat dd_L_put_c2 23 rfl) rfl rfl ?_
    refine R_bipush (Dat dd_L_put_c2 24 rfl) (a := 8) rfl ?_
    refine R_iload (Dat dd_L_put_c2 25 rfl) rfl ?_
    refine R_iadd (Dat dd_L_put_c2 26 rfl) ?_
    obtain ⟨g2, T⟩ := T
    obtain ⟨g3, T⟩ := T
    obtain ⟨g4, T⟩ := T
    obtain ⟨g5, T⟩ := T
    refine R_iaload (Dat dd_L_put_c2 27 rfl) g2 g3 g4 g5 ?_
    refine R_iadd (Dat dd_L_put_c2 28 rfl) ?_
    obtain ⟨g6, T⟩ := T
    exact R_call1 (Dat dd_L_put_c2 29 rfl) rfl g6 rfl rfl rfl rfl rfl T
  · replace T := T.2 c
    exact T
theorem t_L_put_259 {h : Hp} {P : Value → Hp → Prop} {a2 a5 a6 a7 s0 : Int} {a0 a1 a4 : Nat} {a3 a8 : Value} (T : (rng s0) ∧ ((s0 = 1 → (tg h a4 = 20 ∨ tg h a4 = 30) ∧ ((ln h a4 : Int) ≤ 2147483648) ∧ (0 ≤ (16 + a7)) ∧ ((16 + a7) < ln h a4) ∧ (rng (iv h a4 (16 + a7))) ∧ (((0 : Int) < (iv h a4 (16 + a7)) → (tg h a0 = 12) ∧ R 84 0 [.ref a0, .int (I 0), .int (I a6), .int (I 108), .retAddr 0] [] h (fun v h2 => R 89 286 [.ref a0, .ref a1, .int (I a2), a3, .ref a4, .int (I a5), .int (I (a6 + 1)), .int (I a7), a8] (v :: []) h2 P)) ∧ (¬ (0 : Int) < (iv h a4 (16 + a7)) → R 89 290 [.ref a0, .ref a1, .int (I a2), a3, .ref a4, .int (I a5), .int (I a6), .int (I a7), a8] [] h P))) ∧ (¬ s0 = 1 → R 89 318 [.ref a0, .ref a1, .int (I a2), a3, .ref a4, .int (I a5), .int (I a6), .int (I a7), a8] [] h P))) : R 89 259 [.ref a0, .ref a1, .int (I a2), a3, .ref a4, .int (I a5), .int (I a6), .int (I a7), a8] [.int (I s0)] h P := by
  refine R_iconst (Dat dd_L_put_c2 30 rfl) ?_
  obtain ⟨g1, T⟩ := T
  refine R_ic_ne (Dat dd_L_put_c2 31 rfl) rfl g1 (by decide) (fun c => ?_) (fun c => ?_)
  · replace T := T.1 c
    refine R_aload (Dat dd_L_put_c2 32 rfl) rfl rfl ?_
    refine R_bipush (Dat dd_L_put_c2 33 rfl) (a := 16) rfl ?_
    refine R_iload (Dat dd_L_put_c2 34 rfl) rfl ?_
    refine R_iadd (Dat dd_L_put_c2 35 rfl) ?_
    obtain ⟨g2, T⟩ := T
    obtain ⟨g3, T⟩ := T
    obtain ⟨g4, T⟩ := T
    obtain ⟨g5, T⟩ := T
    refine R_iaload (Dat dd_L_put_c2 36 rfl) g2 g3 g4 g5 ?_
    obtain ⟨g6, T⟩ := T
    refine R_if_le (Dat dd_L_put_c2 37 rfl) rfl g6  (fun c => ?_) (fun c => ?_)
    · replace T := T.1 c
      refine R_aload_n (Dat dd_L_put_c2 38 rfl) rfl rfl ?_
      refine R_iconst (Dat dd_L_put_c2 39 rfl) ?_
      refine R_iload (Dat dd_L_put_c2 40 rfl) rfl ?_
      refine R_iinc (Dat dd_L_put_c2 41 rfl) rfl rfl rfl ?_
      refine R_bipush (Dat dd_L_put_c2 42 rfl) (a := 108) rfl ?_
      obtain ⟨g7, T⟩ := T
      exact R_call1 (Dat dd_L_put_c2 43 rfl) rfl g7 rfl rfl rfl rfl rfl T
    · replace T := T.2 c
      exact T
  · replace T := T.2 c
    exact T
theorem t_L_put_286 {h : Hp} {P : Value → Hp → Prop} {a2 a5 a6 a7 s0 : Int} {a0 a1 a4 : Nat} {a3 a8 : Value} (T : (rng s0) ∧ ((s0 = 1 → R 89 290 [.ref a0, .ref a1, .int (I a2), a3, .ref a4, .int (I a5), .int (I a6), .int (I a7), a8] [] h P) ∧ (¬ s0 = 1 → R 89 318 [.ref a0, .ref a1, .int (I a2), a3, .ref a4, .int (I a5), .int (I a6), .int (I a7), a8] [] h P))) : R 89 286 [.ref a0, .ref a1, .int (I a2), a3, .ref a4, .int (I a5), .int (I a6), .int (I a7), a8] [.int (I s0)] h P := by
  refine R_iconst (Dat dd_L_put_c2 44 rfl) ?_
  obtain ⟨g1, T⟩ := T
  refine R_ic_ne (Dat dd_L_put_c2 45 rfl) rfl g1 (by decide) (fun c => ?_) (fun c => ?_)
  · replace T := T.1 c
    exact T
  · replace T := T.2 c
    exact T
theorem t_L_put_290 {h : Hp} {P : Value → Hp → Prop} {a2 a5 a6 a7 : Int} {a0 a1 a4 : Nat} {a3 a8 : Value} (T : (tg h a4 = 20 ∨ tg h a4 = 30) ∧ ((ln h a4 : Int) ≤ 2147483648) ∧ (0 ≤ (16 + a7)) ∧ ((16 + a7) < ln h a4) ∧ (rng (iv h a4 (16 + a7))) ∧ (((1 : Int) < (iv h a4 (16 + a7)) → (tg h a0 = 12) ∧ R 84 0 [.ref a0, .int (I 0), .int (I a6), .int (I 111), .retAddr 0] [] h (fun v h2 => R 89 314 [.ref a0, .ref a1, .int (I a2), a3, .ref a4, .int (I a5), .int (I (a6 + 1)), .int (I a7), a8] (v :: []) h2 P)) ∧ (¬ (1 : Int) < (iv h a4 (16 + a7)) → R 89 321 [.ref a0, .ref a1, .int (I a2), a3, .ref a4, .int (I a5), .int (I a6), .int (I a7), a8] [] h P))) : R 89 290 [.ref a0, .ref a1, .int (I a2), a3, .ref a4, .int (I a5), .int (I a6), .int (I a7), a8] [] h P := by
  refine R_aload (Dat dd_L_put_c2 46 rfl) rfl rfl ?_
  refine R_bipush (Dat dd_L_put_c2 47 rfl) (a := 16) rfl ?_
  refine R_iload (Dat dd_L_put_c2 48 rfl) rfl ?_
  refine R_iadd (Dat dd_L_put_c2 49 rfl) ?_
  obtain ⟨g1, T⟩ := T
  obtain ⟨g2, T⟩ := T
  obtain ⟨g3, T⟩ := T
  obtain ⟨g4, T⟩ := T
  refine R_iaload (Dat dd_L_put_c2 50 rfl) g1 g2 g3 g4 ?_
  refine R_iconst (Dat dd_L_put_c2 51 rfl) ?_
  obtain ⟨g5, T⟩ := T
  refine R_ic_le (Dat dd_L_put_c2 52 rfl) rfl g5 (by decide) (fun c => ?_) (fun c => ?_)
  · replace T := T.1 c
    refine R_aload_n (Dat dd_L_put_c2 53 rfl) rfl rfl ?_
    refine R_iconst (Dat dd_L_put_c2 54 rfl) ?_
    refine R_iload (Dat dd_L_put_c2 55 rfl) rfl ?_
    refine R_iinc (Dat dd_L_put_c2 56 rfl) rfl rfl rfl ?_
    refine R_bipush (Dat dd_L_put_c2 57 rfl) (a := 111) rfl ?_
    obtain ⟨g6, T⟩ := T
    exact R_call1 (Dat dd_L_put_c2 58 rfl) rfl g6 rfl rfl rfl rfl rfl T
  · replace T := T.2 c
    exact T
theorem t_L_put_314 {h : Hp} {P : Value → Hp → Prop} {a2 a5 a6 a7 s0 : Int} {a0 a1 a4 : Nat} {a3 a8 : Value} (T : (rng s0) ∧ ((s0 = 1 → R 89 321 [.ref a0, .ref a1, .int (I a2), a3, .ref a4, .int (I a5), .int (I a6), .int (I a7), a8] [] h P) ∧ (¬ s0 = 1 → R 89 318 [.ref a0, .ref a1, .int (I a2), a3, .ref a4, .int (I a5), .int (I a6), .int (I a7), a8] [] h P))) : R 89 314 [.ref a0, .ref a1, .int (I a2), a3, .ref a4, .int (I a5), .int (I a6), .int (I a7), a8] [.int (I s0)] h P := by
  refine R_iconst (Dat dd_L_put_c2 59 rfl) ?_
  obtain ⟨g1, T⟩ := T
  refine R_ic_eq (Dat dd_L_put_c3 0 rfl) rfl g1 (by decide) (fun c => ?_) (fun c => ?_)
  · replace T := T.1 c
    exact T
  · replace T := T.2 c
    exact T
theorem t_L_put_321 {h : Hp} {P : Value → Hp → Prop} {a2 a5 a6 a7 : Int} {a0 a1 a4 : Nat} {a3 a8 : Value} (T : R 89 43 [.ref a0, .ref a1, .int (I a2), a3, .ref a4, .int (I a5), .int (I a6), .int (I (a7 + 1)), a8] [] h P) : R 89 321 [.ref a0, .ref a1, .int (I a2), a3, .ref a4, .int (I a5), .int (I a6), .int (I a7), a8] [] h P := by
  refine R_iinc (Dat dd_L_put_c3 3 rfl) rfl rfl rfl ?_
  refine R_goto (Dat dd_L_put_c3 4 rfl) rfl ?_
  exact T
def dl_L_causes_c0 : List (Nat × Instr × Nat) := [(0, .aload_n 1, 1), (1, .iload_n 2, 1), (2, .invokestatic 9, 3), (5, .istore 4, 2), (7, .aload_n 3, 1), (8, .iconst 0, 1), (9, .iconst 1, 1), (10, .iload 4, 2), (12, .bipush 6, 2), (14, .invokestatic 15, 3), (17, .iadd, 1), (18, .iastore, 1), (19, .aload_n 0, 1), (20, .iconst 1, 1), (21, .iconst 2, 1), (22, .bipush 30, 2), (24, .invokevirtual 19, 3), (27, .iconst 1, 1), (28, .if_icmp .eq 6, 3), (31, .bipush (-99), 2), (33, .ireturn, 1), (34, .iconst 0, 1), (35, .istore 5, 2), (37, .iconst 0, 1), (38, .istore 6, 2), (40, .iload 6, 2), (42, .aload_n 3, 1), (43, .iconst 0, 1), (44, .iaload, 1), (45, .if_icmp .ge 267, 3), (48, .aload_n 1, 1), (49, .iload_n 2, 1), (50, .iconst 1, 1), (51, .iadd, 1), (52, .iload 6, 2), (54, .iconst 2, 1), (55, .irem, 1), (56, .iadd, 1), (57, .invokestatic 9, 3), (60, .iload 6, 2), (62, .iconst 2, 1), (63, .idiv, 1), (64, .bipush 8, 2), (66, .imul, 1), (67, .ishr, 1), (68, .istore 7, 2), (70, .aload_n 3, 1), (71, .iconst 1, 1), (72, .iconst 3, 1), (73, .iload 6, 2), (75, .imul, 1), (76, .iadd, 1), (77, .iload 7, 2), (79, .bipush 6, 2), (81, .invokestatic 15, 3), (84, .iastore, 1), (85, .aload_n 3, 1), (86, .iconst 2, 1), (87, .iconst 3, 1), (88, .iload 6, 2)]
theorem dd_L_causes_c0 : Dall 90 dl_L_causes_c0 = true := by decide +kernel
def dl_L_causes_c1 : List (Nat × Instr × Nat) := [(90, .imul, 1), (91, .iadd, 1), (92, .iload 7, 2), (94, .iconst 3, 1), (95, .ishr, 1), (96, .iload 7, 2), (98, .iconst 5, 1), (99, .ishr, 1), (100, .iconst 3, 1), (101, .invokestatic 15, 3), (104, .ifCond .ne 8, 3), (107, .bipush 10, 2), (109, .goto 4, 3), (112, .iconst 4, 1), (113, .invokestatic 15, 3), (116, .iastore, 1), (117, .aload_n 3, 1), (118, .iconst 3, 1), (119, .iconst 3, 1), (120, .iload 6, 2), (122, .imul, 1), (123, .iadd, 1), (124, .iconst 1, 1), (125, .iload 7, 2), (127, .bipush 6, 2), (129, .ishr, 1), (130, .iload 4, 2), (132, .bipush 7, 2), (134, .ishr, 1), (135, .iconst 2, 1), (136, .invokestatic 15, 3), (139, .ifCond .ne 7, 3), (142, .iconst 1, 1), (143, .goto 4, 3), (146, .iconst 3, 1), (147, .invokestatic 15, 3), (150, .iadd, 1), (151, .iastore, 1), (152, .aload_n 3, 1), (153, .iconst 1, 1), (154, .iconst 3, 1), (155, .iload 6, 2), (157, .imul, 1), (158, .iadd, 1), (159, .iaload, 1), (160, .istore 8, 2), (162, .iload 6, 2), (164, .ifCond .le 19, 3), (167, .aload_n 0, 1), (168, .iconst 1, 1), (169, .iload 5, 2), (171, .iinc 5 1, 3), (174, .bipush 59, 2), (176, .invokevirtual 25, 3), (179, .iconst 1, 1), (180, .if_icmp .ne 123, 3), (183, .aload_n 0, 1), (184, .iconst 1, 1), (185, .iload 5, 2), (187, .iinc 5 1, 3)]
theorem dd_L_causes_c1 : Dall 90 dl_L_causes_c1 = true := by decide +kernel
def dl_L_causes_c2 : List (Nat × Instr × Nat) := [(190, .iload 8, 2), (192, .ifCond .ne 8, 3), (195, .bipush 102, 2), (197, .goto 49, 3), (200, .iload 8, 2), (202, .iconst 1, 1), (203, .if_icmp .ne 8, 3), (206, .bipush 104, 2), (208, .goto 38, 3), (211, .iload 8, 2), (213, .iconst 2, 1), (214, .if_icmp .ne 8, 3), (217, .bipush 114, 2), (219, .goto 27, 3), (222, .iload 8, 2), (224, .iconst 3, 1), (225, .if_icmp .ne 8, 3), (228, .bipush 116, 2), (230, .goto 16, 3), (233, .iload 8, 2), (235, .iconst 4, 1), (236, .if_icmp .ne 8, 3), (239, .bipush 110, 2), (241, .goto 5, 3), (244, .bipush 97, 2), (246, .invokevirtual 25, 3), (249, .iconst 1, 1), (250, .if_icmp .ne 53, 3), (253, .aload_n 0, 1), (254, .iconst 1, 1), (255, .iload 5, 2), (257, .iinc 5 1, 3), (260, .bipush 48, 2), (262, .aload_n 3, 1), (263, .iconst 2, 1), (264, .iconst 3, 1), (265, .iload 6, 2), (267, .imul, 1), (268, .iadd, 1), (269, .iaload, 1), (270, .iadd, 1), (271, .invokevirtual 25, 3), (274, .iconst 1, 1), (275, .if_icmp .ne 28, 3), (278, .aload_n 0, 1), (279, .iconst 1, 1), (280, .iload 5, 2), (282, .iinc 5 1, 3), (285, .bipush 48, 2), (287, .aload_n 3, 1), (288, .iconst 3, 1), (289, .iconst 3, 1), (290, .iload 6, 2), (292, .imul, 1), (293, .iadd, 1), (294, .iaload, 1), (295, .iadd, 1), (296, .invokevirtual 25, 3), (299, .iconst 1, 1), (300, .if_icmp .eq 6, 3)]
theorem dd_L_causes_c2 : Dall 90 dl_L_causes_c2 = true := by decide +kernel
def dl_L_causes_c3 : List (Nat × Instr × Nat) := [(303, .bipush (-99), 2), (305, .ireturn, 1), (306, .iinc 6 1, 3), (309, .goto (-269), 3), (312, .iload 5, 2), (314, .ireturn, 1)]
theorem dd_L_causes_c3 : Dall 90 dl_L_causes_c3 = true := by decide +kernel
theorem t_L_causes {h : Hp} {P : Value → Hp → Prop} {p2 : Int} {p0 p1 p3 : Nat} (T : R 87 0 [.ref p1, .int (I p2)] [] h (fun v h2 => R 90 5 [.ref p0, .ref p1, .int (I p2), .ref p3, .retAddr 0, .retAddr 0, .retAddr 0, .retAddr 0, .retAddr 0] (v :: []) h2 P)) : R 90 0 [.ref p0, .ref p1, .int (I p2), .ref p3, .retAddr 0, .retAddr 0, .retAddr 0, .retAddr 0, .retAddr 0] [] h P := by
  refine R_aload_n (Dat dd_L_causes_c0 0 rfl) rfl rfl ?_
  refine R_iload_n (Dat dd_L_causes_c0 1 rfl) rfl ?_
  exact R_call0 (Dat dd_L_causes_c0 2 rfl) rfl rfl rfl rfl rfl rfl T
theorem t_L_causes_5 {h : Hp} {P : Value → Hp → Prop} {a2 s0 : Int} {a0 a1 a3 : Nat} {a4 a5 a6 a7 a8 : Value} (T : R 88 0 [.int (I s0), .int (I 6)] [] h (fun v h2 => R 90 17 [.ref a0, .ref a1, .int (I a2), .ref a3, .int (I s0), a5, a6, a7, a8] (v :: [.int (I 1), .int (I 0), .ref a3]) h2 P)) : R 90 5 [.ref a0, .ref a1, .int (I a2), .ref a3, a4, a5, a6, a7, a8] [.int (I s0)] h P := by
  refine R_istore (Dat dd_L_causes_c0 3 rfl) rfl rfl ?_
  refine R_aload_n (Dat dd_L_causes_c0 4 rfl) rfl rfl ?_
  refine R_iconst (Dat dd_L_causes_c0 5 rfl) ?_
  refine R_iconst (Dat dd_L_causes_c0 6 rfl) ?_
  refine R_iload (Dat dd_L_causes_c0 7 rfl) rfl ?_
  refine R_bipush (Dat dd_L_causes_c0 8 rfl) (a := 6) rfl ?_
  exact R_call0 (Dat dd_L_causes_c0 9 rfl) rfl rfl rfl rfl rfl rfl T
theorem t_L_causes_17 {h : Hp} {P : Value → Hp → Prop} {a2 a4 s0 s1 s2 : Int} {a0 a1 a3 s3 : Nat} {a5 a6 a7 a8 : Value} (T : (tg h s3 = 20) ∧ ((ln h s3 : Int) ≤ 2147483648) ∧ (0 ≤ s2) ∧ (s2 < ln h s3) ∧ (tg (setI h s3 s2 (wr (s1 + s0))) a0 = 12) ∧ R 82 0 [.ref a0, .int (I 1), .int (I 2), .int (I 30)] [] (setI h s3 s2 (wr (s1 + s0))) (fun v h2 => R 90 27 [.ref a0, .ref a1, .int (I a2), .ref a3, .int (I a4), a5, a6, a7, a8] (v :: []) h2 P)) : R 90 17 [.ref a0, .ref a1, .int (I a2), .ref a3, .int (I a4), a5, a6, a7, a8] [.int (I s0), .int (I s1), .int (I s2), .ref s3] h P := by
  refine R_iadd (Dat dd_L_causes_c0 10 rfl) ?_
  obtain ⟨g1, T⟩ := T
  obtain ⟨g2, T⟩ := T
  obtain ⟨g3, T⟩ := T
  obtain ⟨g4, T⟩ := T
  refine R_iastore (Dat dd_L_causes_c0 11 rfl) g1 g2 g3 g4 (v := wr (s1 + s0)) rfl ?_
  refine R_aload_n (Dat dd_L_causes_c0 12 rfl) rfl rfl ?_
  refine R_iconst (Dat dd_L_causes_c0 13 rfl) ?_
  refine R_iconst (Dat dd_L_causes_c0 14 rfl) ?_
  refine R_bipush (Dat dd_L_causes_c0 15 rfl) (a := 30) rfl ?_
  obtain ⟨g5, T⟩ := T
  exact R_call1 (Dat dd_L_causes_c0 16 rfl) rfl g5 rfl rfl rfl rfl rfl T
theorem t_L_causes_27 {h : Hp} {P : Value → Hp → Prop} {a2 a4 s0 : Int} {a0 a1 a3 : Nat} {a5 a6 a7 a8 : Value} (T : (rng s0) ∧ ((s0 = 1 → R 90 40 [.ref a0, .ref a1, .int (I a2), .ref a3, .int (I a4), .int (I 0), .int (I 0), a7, a8] [] h P) ∧ (¬ s0 = 1 → P (.int (I (-99))) h))) : R 90 27 [.ref a0, .ref a1, .int (I a2), .ref a3, .int (I a4), a5, a6, a7, a8] [.int (I s0)] h P := by
  refine R_iconst (Dat dd_L_causes_c0 17 rfl) ?_
  obtain ⟨g1, T⟩ := T
  refine R_ic_eq (Dat dd_L_causes_c0 18 rfl) rfl g1 (by decide) (fun c => ?_) (fun c => ?_)
  · replace T := T.1 c
    refine R_iconst (Dat dd_L_causes_c0 21 rfl) ?_
    refine R_istore (Dat dd_L_causes_c0 22 rfl) rfl rfl ?_
    refine R_iconst (Dat dd_L_causes_c0 23 rfl) ?_
    refine R_istore (Dat dd_L_causes_c0 24 rfl) rfl rfl ?_
    exact T
  · replace T := T.2 c
    refine R_bipush (Dat dd_L_causes_c0 19 rfl) (a := (-99)) rfl ?_
    exact R_ireturn (Dat dd_L_causes_c0 20 rfl) rfl T
theorem t_L_causes_40 {h : Hp} {P : Value → Hp → Prop} {a2 a4 a5 a6 : Int} {a0 a1 a3 : Nat} {a7 a8 : Value} (T : (tg h a3 = 20 ∨ tg h a3 = 30) ∧ ((ln h a3 : Int) ≤ 2147483648) ∧ ((0 : Int) < ln h a3) ∧ (rng a6) ∧ (rng (iv h a3 0)) ∧ ((a6 < (iv h a3 0) → (0 ≤ a6 ∧ a6 < 2147483648) ∧ R 87 0 [.ref a1, .int (I ((a2 + 1) + (a6 % 2)))] [] h (fun v h2 => R 90 60 [.ref a0, .ref a1, .int (I a2), .ref a3, .int (I a4), .int (I a5), .int (I a6), a7, a8] (v :: []) h2 P)) ∧ (¬ a6 < (iv h a3 0) → P (.int (I a5)) h))) : R 90 40 [.ref a0, .ref a1, .int (I a2), .ref a3, .int (I a4), .int (I a5), .int (I a6), a7, a8] [] h P := by
  refine R_iload (Dat dd_L_causes_c0 25 rfl) rfl ?_
  refine R_aload_n (Dat dd_L_causes_c0 26 rfl) rfl rfl ?_
  refine R_iconst (Dat dd_L_causes_c0 27 rfl) ?_
  obtain ⟨g1, T⟩ := T
  obtain ⟨g2, T⟩ := T
  obtain ⟨g3, T⟩ := T
  refine R_iaload (Dat dd_L_causes_c0 28 rfl) g1 g2 (by decide) g3 ?_
  obtain ⟨g4, T⟩ := T
  obtain ⟨g5, T⟩ := T
  refine R_ic_ge (Dat dd_L_causes_c0 29 rfl) rfl g4 g5 (fun c => ?_) (fun c => ?_)
  · replace T := T.1 c
    refine R_aload_n (Dat dd_L_causes_c0 30 rfl) rfl rfl ?_
    refine R_iload_n (Dat dd_L_causes_c0 31 rfl) rfl ?_
    refine R_iconst (Dat dd_L_causes_c0 32 rfl) ?_
    refine R_iadd (Dat dd_L_causes_c0 33 rfl) ?_
    refine R_iload (Dat dd_L_causes_c0 34 rfl) rfl ?_
    refine R_iconst (Dat dd_L_causes_c0 35 rfl) ?_
    obtain ⟨g6, T⟩ := T
    refine R_irem (Dat dd_L_causes_c0 36 rfl) g6 (by decide) ?_
    refine R_iadd (Dat dd_L_causes_c0 37 rfl) ?_
    exact R_call0 (Dat dd_L_causes_c0 38 rfl) rfl rfl rfl rfl rfl rfl T
  · replace T := T.2 c
    refine R_iload (Dat dd_L_causes_c3 4 rfl) rfl ?_
    exact R_ireturn (Dat dd_L_causes_c3 5 rfl) rfl T
theorem t_L_causes_60 {h : Hp} {P : Value → Hp → Prop} {a2 a4 a5 a6 s0 : Int} {a0 a1 a3 : Nat} {a7 a8 : Value} (T : (0 ≤ a6 ∧ a6 < 2147483648) ∧ R 88 0 [.int (I (shr s0 ((a6 / 2) * 8))), .int (I 6)] [] h (fun v h2 => R 90 84 [.ref a0, .ref a1, .int (I a2), .ref a3, .int (I a4), .int (I a5), .int (I a6), .int (I (shr s0 ((a6 / 2) * 8))), a8] (v :: [.int (I (1 + (3 * a6))), .ref a3]) h2 P)) : R 90 60 [.ref a0, .ref a1, .int (I a2), .ref a3, .int (I a4), .int (I a5), .int (I a6), a7, a8] [.int (I s0)] h P := by
  refine R_iload (Dat dd_L_causes_c0 39 rfl) rfl ?_
  refine R_iconst (Dat dd_L_causes_c0 40 rfl) ?_
  obtain ⟨g1, T⟩ := T
  refine R_idiv (Dat dd_L_causes_c0 41 rfl) g1 (by decide) ?_
  refine R_bipush (Dat dd_L_causes_c0 42 rfl) (a := 8) rfl ?_
  refine R_imul (Dat dd_L_causes_c0 43 rfl) ?_
  refine R_ishr (Dat dd_L_causes_c0 44 rfl) ?_
  refine R_istore (Dat dd_L_causes_c0 45 rfl) rfl rfl ?_
  refine R_aload_n (Dat dd_L_causes_c0 46 rfl) rfl rfl ?_
  refine R_iconst (Dat dd_L_causes_c0 47 rfl) ?_
  refine R_iconst (Dat dd_L_causes_c0 48 rfl) ?_
  refine R_iload (Dat dd_L_causes_c0 49 rfl) rfl ?_
  refine R_imul (Dat dd_L_causes_c0 50 rfl) ?_
  refine R_iadd (Dat dd_L_causes_c0 51 rfl) ?_
  refine R_iload (Dat dd_L_causes_c0 52 rfl) rfl ?_
  refine R_bipush (Dat dd_L_causes_c0 53 rfl) (a := 6) rfl ?_
  exact R_call0 (Dat dd_L_causes_c0 54 rfl) rfl rfl rfl rfl rfl rfl T
theorem t_L_causes_84 {h : Hp} {P : Value → Hp → Prop} {a2 a4 a5 a6 a7 s0 s1 : Int} {a0 a1 a3 s2 : Nat} {a8 : Value} (T : (tg h s2 = 20) ∧ ((ln h s2 : Int) ≤ 2147483648) ∧ (0 ≤ s1) ∧ (s1 < ln h s2) ∧ R 88 0 [.int (I (shr a7 5)), .int (I 3)] [] (setI h s2 s1 (wr s0)) (fun v h2 => R 90 104 [.ref a0, .ref a1, .int (I a2), .ref a3, .int (I a4), .int (I a5), .int (I a6), .int (I a7), a8] (v :: [.int (I (shr a7 3)), .int (I (2 + (3 * a6))), .ref a3]) h2 P)) : R 90 84 [.ref a0, .ref a1, .int (I a2), .ref a3, .int (I a4), .int (I a5), .int (I a6), .int (I a7), a8] [.int (I s0), .int (I s1), .ref s2] h P := by
  obtain ⟨g1, T⟩ := T
  obtain ⟨g2, T⟩ := T
  obtain ⟨g3, T⟩ := T
  obtain ⟨g4, T⟩ := T
  refine R_iastore (Dat dd_L_causes_c0 55 rfl) g1 g2 g3 g4 (v := wr s0) rfl ?_
  refine R_aload_n (Dat dd_L_causes_c0 56 rfl) rfl rfl ?_
  refine R_iconst (Dat dd_L_causes_c0 57 rfl) ?_
  refine R_iconst (Dat dd_L_causes_c0 58 rfl) ?_
  refine R_iload (Dat dd_L_causes_c0 59 rfl) rfl ?_
  refine R_imul (Dat dd_L_causes_c1 0 rfl) ?_
  refine R_iadd (Dat dd_L_causes_c1 1 rfl) ?_
  refine R_iload (Dat dd_L_causes_c1 2 rfl) rfl ?_
  refine R_iconst (Dat dd_L_causes_c1 3 rfl) ?_
  refine R_ishr (Dat dd_L_causes_c1 4 rfl) ?_
  refine R_iload (Dat dd_L_causes_c1 5 rfl) rfl ?_
  refine R_iconst (Dat dd_L_causes_c1 6 rfl) ?_
  refine R_ishr (Dat dd_L_causes_c1 7 rfl) ?_
  refine R_iconst (Dat dd_L_causes_c1 8 rfl) ?_
  exact R_call0 (Dat dd_L_causes_c1 9 rfl) rfl rfl rfl rfl rfl rfl T
theorem t_L_causes_104 {h : Hp} {P : Value → Hp → Prop} {a2 a4 a5 a6 a7 s0 s1 s2 : Int} {a0 a1 a3 s3 : Nat} {a8 : Value} (T : (rng s0) ∧ ((s0 = 0 → R 90 113 [.ref a0, .ref a1, .int (I a2), .ref a3, .int (I a4), .int (I a5), .int (I a6), .int (I a7), a8] [.int (I 10), .int (I s1), .int (I s2), .ref s3] h P) ∧ (¬ s0 = 0 → R 90 113 [.ref a0, .ref a1, .int (I a2), .ref a3, .int (I a4), .int (I a5), .int (I a6), .int (I a7), a8] [.int (I 4), .int (I s1), .int (I s2), .ref s3] h P))) : R 90 104 [.ref a0, .ref a1, .int (I a2), .ref a3, .int (I a4), .int (I a5), .int (I a6), .int (I a7), a8] [.int (I s0), .int (I s1), .int (I s2), .ref s3] h P := by
  obtain ⟨g1, T⟩ := T
  refine R_if_ne (Dat dd_L_causes_c1 10 rfl) rfl g1  (fun c => ?_) (fun c => ?_)
  · replace T := T.1 c
    refine R_bipush (Dat dd_L_causes_c1 11 rfl) (a := 10) rfl ?_
    refine R_goto (Dat dd_L_causes_c1 12 rfl) rfl ?_
    exact T
  · replace T := T.2 c
    refine R_iconst (Dat dd_L_causes_c1 13 rfl) ?_
    exact T
theorem t_L_causes_113 {h : Hp} {P : Value → Hp → Prop} {a2 a4 a5 a6 a7 s0 s1 s2 : Int} {a0 a1 a3 s3 : Nat} {a8 : Value} (T : R 88 0 [.int (I s1), .int (I s0)] [] h (fun v h2 => R 90 116 [.ref a0, .ref a1, .int (I a2), .ref a3, .int (I a4), .int (I a5), .int (I a6), .int (I a7), a8] (v :: [.int (I s2), .ref s3]) h2 P)) : R 90 113 [.ref a0, .ref a1, .int (I a2), .ref a3, .int (I a4), .int (I a5), .int (I a6), .int (I a7), a8] [.int (I s0), .int (I s1), .int (I s2), .ref s3] h P := by
  exact R_call0 (Dat dd_L_causes_c1 14 rfl) rfl rfl rfl rfl rfl rfl T
theorem t_L_causes_116 {h : Hp} {P : Value → Hp → Prop} {a2 a4 a5 a6 a7 s0 s1 : Int} {a0 a1 a3 s2 : Nat} {a8 : Value} (T : (tg h s2 = 20) ∧ ((ln h s2 : Int) ≤ 2147483648) ∧ (0 ≤ s1) ∧ (s1 < ln h s2) ∧ R 88 0 [.int (I (shr a4 7)), .int (I 2)] [] (setI h s2 s1 (wr s0)) (fun v h2 => R 90 139 [.ref a0, .ref a1, .int (I a2), .ref a3, .int (I a4), .int (I a5), .int (I a6), .int (I a7), a8] (v :: [.int (I (shr a7 6)), .int (I 1), .int (I (3 + (3 * a6))), .ref a3]) h2 P)) : R 90 116 [.ref a0, .ref a1, .int (I a2), .ref a3, .int (I a4), .int (I a5), .int (I a6), .int (I a7), a8] [.int (I s0), .int (I s1), .ref s2] h P := by
  obtain ⟨g1, T⟩ := T
  obtain ⟨g2, T⟩ := T
  obtain ⟨g3, T⟩ := T
  obtain ⟨g4, T⟩ := T
  refine R_iastore (Dat dd_L_causes_c1 15 rfl) g1 g2 g3 g4 (v := wr s0) rfl ?_
  refine R_aload_n (Dat dd_L_causes_c1 16 rfl) rfl rfl ?_
  refine R_iconst (Dat dd_L_causes_c1 17 rfl) ?_
  refine R_iconst (Dat dd_L_causes_c1 18 rfl) ?_
  refine R_iload (Dat dd_L_causes_c1 19 rfl) rfl ?_
  refine R_imul (Dat dd_L_causes_c1 20 rfl) ?_
  refine R_iadd (Dat dd_L_causes_c1 21 rfl) ?_
  refine R_iconst (Dat dd_L_causes_c1 22 rfl) ?_
  refine R_iload (Dat dd_L_causes_c1 23 rfl) rfl ?_
  refine R_bipush (Dat dd_L_causes_c1 24 rfl) (a := 6) rfl ?_
  refine R_ishr (Dat dd_L_causes_c1 25 rfl) ?_
  refine R_iload (Dat dd_L_causes_c1 26 rfl) rfl ?_
  refine R_bipush (Dat dd_L_causes_c1 27 rfl) (a := 7) rfl ?_
  refine R_ishr (Dat dd_L_causes_c1 28 rfl) ?_
  refine R_iconst (Dat dd_L_causes_c1 29 rfl) ?_
  exact R_call0 (Dat dd_L_causes_c1 30 rfl) rfl rfl rfl rfl rfl rfl T
theorem t_L_causes_139 {h : Hp} {P : Value → Hp → Prop} {a2 a4 a5 a6 s0 s1 s2 s3 : Int} {a0 a1 a3 s4 : Nat} {a7 a8 : Value} (T : (rng s0) ∧ ((s0 = 0 → R 90 147 [.ref a0, .ref a1, .int (I a2), .ref a3, .int (I a4), .int (I a5), .int (I a6), a7, a8] [.int (I 1), .int (I s1), .int (I s2), .int (I s3), .ref s4] h P) ∧ (¬ s0 = 0 → R 90 147 [.ref a0, .ref a1, .int (I a2), .ref a3, .int (I a4), .int (I a5), .int (I a6), a7, a8] [.int (I 3), .int (I s1), .int (I s2), .int (I s3), .ref s4] h P))) : R 90 139 [.ref a0, .ref a1, .int (I a2), .ref a3, .int (I a4), .int (I a5), .int (I a6), a7, a8] [.int (I s0), .int (I s1), .int (I s2), .int (I s3), .ref s4] h P := by
  obtain ⟨g1, T⟩ := T
  refine R_if_ne (Dat dd_L_causes_c1 31 rfl) rfl g1  (fun c => ?_) (fun c => ?_)
  · replace T := T.1 c
    refine R_iconst (Dat dd_L_causes_c1 32 rfl) ?_
    refine R_goto (Dat dd_L_causes_c1 33 rfl) rfl ?_
    exact T
  · replace T := T.2 c
    refine R_iconst (Dat dd_L_causes_c1 34 rfl) ?_
    exact T
theorem t_L_causes_147 {h : Hp} {P : Value → Hp → Prop} {a2 a4 a5 a6 s0 s1 s2 s3 : Int} {a0 a1 a3 s4 : Nat} {a7 a8 : Value} (T : R 88 0 [.int (I s1), .int (I s0)] [] h (fun v h2 => R 90 150 [.ref a0, .ref a1, .int (I a2), .ref a3, .int (I a4), .int (I a5), .int (I a6), a7, a8] (v :: [.int (I s2), .int (I s3), .ref s4]) h2 P)) : R 90 147 [.ref a0, .ref a1, .int (I a2), .ref a3, .int (I a4), .int (I a5), .int (I a6), a7, a8] [.int (I s0), .int (I s1), .int (I s2), .int (I s3), .ref s4] h P := by
  exact R_call0 (Dat dd_L_causes_c1 35 rfl) rfl rfl rfl rfl rfl rfl T
theorem t_L_causes_150 {h : Hp} {P : Value → Hp → Prop} {a2 a4 a5 a6 s0 s1 s2 : Int} {a0 a1 a3 s3 : Nat} {a7 a8 : Value} (T : (tg h s3 = 20) ∧ ((ln h s3 : Int) ≤ 2147483648) ∧ (0 ≤ s2) ∧ (s2 < ln h s3) ∧ (tg (setI h s3 s2 (wr (s1 + s0))) a3 = 20 ∨ tg (setI h s3 s2 (wr (s1 + s0))) a3 = 30) ∧ ((ln (setI h s3 s2 (wr (s1 + s0))) a3 : Int) ≤ 2147483648) ∧ (0 ≤ (1 + (3 * a6))) ∧ ((1 + (3 * a6)) < ln (setI h s3 s2 (wr (s1 + s0))) a3) ∧ (rng a6) ∧ (((0 : Int) < a6 → (tg (setI h s3 s2 (wr (s1 + s0))) a0 = 12) ∧ R 84 0 [.ref a0, .int (I 1), .int (I a5), .int (I 59), .retAddr 0] [] (setI h s3 s2 (wr (s1 + s0))) (fun v h2 => R 90 179 [.ref a0, .ref a1, .int (I a2), .ref a3, .int (I a4), .int (I (a5 + 1)), .int (I a6), a7, .int (I (iv (setI h s3 s2 (wr (s1 + s0))) a3 (1 + (3 * a6))))] (v :: []) h2 P)) ∧ (¬ (0 : Int) < a6 → R 90 183 [.ref a0, .ref a1, .int (I a2), .ref a3, .int (I a4), .int (I a5), .int (I a6), a7, .int (I (iv (setI h s3 s2 (wr (s1 + s0))) a3 (1 + (3 * a6))))] [] (setI h s3 s2 (wr (s1 + s0))) P))) : R 90 150 [.ref a0, .ref a1, .int (I a2), .ref a3, .int (I a4), .int (I a5), .int (I a6), a7, a8] [.int (I s0), .int (I s1), .int (I s2), .ref s3] h P := by
  refine R_iadd (Dat dd_L_causes_c1 36 rfl) ?_
  obtain ⟨g1, T⟩ := T
  obtain ⟨g2, T⟩ := T
  obtain ⟨g3, T⟩ := T
  obtain ⟨g4, T⟩ := T
  refine R_iastore (Dat dd_L_causes_c1 37 rfl) g1 g2 g3 g4 (v := wr (s1 + s0)) rfl ?_
  refine R_aload_n (Dat dd_L_causes_c1 38 rfl) rfl rfl ?_
  refine R_iconst (Dat dd_L_causes_c1 39 rfl) ?_
  refine R_iconst (Dat dd_L_causes_c1 40 rfl) ?_
  refine R_iload (Dat dd_L_causes_c1 41 rfl) rfl ?_
  refine R_imul (Dat dd_L_causes_c1 42 rfl) ?_
  refine R_iadd (Dat dd_L_causes_c1 43 rfl) ?_
  obtain ⟨g5, T⟩ := T
  obtain ⟨g6, T⟩ := T
  obtain ⟨g7, T⟩ := T
  obtain ⟨g8, T⟩ := T
  refine R_iaload (Dat dd_L_causes_c1 44 rfl) g5 g6 g7 g8 ?_
  refine R_istore (Dat dd_L_causes_c1 45 rfl) rfl rfl ?_
  refine R_iload (Dat dd_L_causes_c1 46 rfl) rfl ?_
  obtain ⟨g9, T⟩ := T
  refine R_if_le (Dat dd_L_causes_c1 47 rfl) rfl g9  (fun c => ?_) (fun c => ?_)
  · replace T := T.1 c
    refine R_aload_n (Dat dd_L_causes_c1 48 rfl) rfl rfl ?_
    refine R_iconst (Dat dd_L_causes_c1 49 rfl) ?_
    refine R_iload (Dat dd_L_causes_c1 50 rfl) rfl ?_
    refine R_iinc (Dat dd_L_causes_c1 51 rfl) rfl rfl rfl ?_
    refine R_bipush (Dat dd_L_causes_c1 52 rfl) (a := 59) rfl ?_
    obtain ⟨g10, T⟩ := T
    exact R_call1 (Dat dd_L_causes_c1 53 rfl) rfl g10 rfl rfl rfl rfl rfl T
  · replace T := T.2 c
    exact T
theorem t_L_causes_179 {h : Hp} {P : Value → Hp → Prop} {a2 a4 a5 a6 a8 s0 : Int} {a0 a1 a3 : Nat} {a7 : Value} (T : (rng s0) ∧ ((s0 = 1 → R 90 183 [.ref a0, .ref a1, .int (I a2), .ref a3, .int (I a4), .int (I a5), .int (I a6), a7, .int (I a8)] [] h P) ∧ (¬ s0 = 1 → R 90 303 [.ref a0, .ref a1, .int (I a2), .ref a3, .int (I a4), .int (I a5), .int (I a6), a7, .int (I a8)] [] h P))) : R 90 179 [.ref a0, .ref a1, .int (I a2), .ref a3, .int (I a4), .int (I a5), .int (I a6), a7, .int (I a8)] [.int (I s0)] h P := by
  refine R_iconst (Dat dd_L_causes_c1 54 rfl) ?_
  obtain ⟨g1, T⟩ := T
  refine R_ic_ne (Dat dd_L_causes_c1 55 rfl) rfl g1 (by decide) (fun c => ?_) (fun c => ?_)
  · replace T := T.1 c
    exact T
  · replace T := T.2 c
    exact T
theorem t_L_causes_183 {h : Hp} {P : Value → Hp → Prop} {a2 a4 a5 a6 a8 : Int} {a0 a1 a3 : Nat} {a7 : Value} (T : (rng a8) ∧ ((a8 = 0 → R 90 246 [.ref a0, .ref a1, .int (I a2), .ref a3, .int (I a4), .int (I (a5 + 1)), .int (I a6), a7, .int (I a8)] [.int (I 102), .int (I a5), .int (I 1), .ref a0] h P) ∧ (¬ a8 = 0 → (rng a8) ∧ ((a8 = 1 → R 90 246 [.ref a0, .ref a1, .int (I a2), .ref a3, .int (I a4), .int (I (a5 + 1)), .int (I a6), a7, .int (I a8)] [.int (I 104), .int (I a5), .int (I 1), .ref a0] h P) ∧ (¬ a8 = 1 → (rng a8) ∧ ((a8 = 2 → R 90 246 [.ref a0, .ref a1, .int (I a2), .ref a3, .int (I a4), .int (I (a5 + 1)), .int (I a6), a7, .int (I a8)] [.int (I 114), .int (I a5), .int (I 1), .ref a0] h P) ∧ (¬ a8 = 2 → (rng a8) ∧ ((a8 = 3 → R 90 246 [.ref a0, .ref a1, .int (I a2), .ref a3, .int (I a4), .int (I (a5 + 1)), .int (I a6), a7, .int (I a8)] [.int (I 116), .int (I a5), .int (I 1), .ref a0] h P) ∧ (¬ a8 = 3 → (rng a8) ∧ ((a8 = 4 → R 90 246 [.ref a0, .ref a1, .int (I a2), .ref a3, .int (I a4), .int (I (a5 + 1)), .int (I a6), a7, .int (I a8)] [.int (I 110), .int (I a5), .int (I 1), .ref a0] h P) ∧ (¬ a8 = 4 → R 90 246 [.ref a0, .ref a1, .int (I a2), .ref a3, .int (I a4), .int (I (a5 + 1)), .int (I a6), a7, .int (I a8)] [.int (I 97), .int (I a5), .int (I 1), .ref a0] h P))))))))))) : R 90 183 [.ref a0, .ref a1, .int (I a2), .ref a3, .int (I a4), .int (I a5), .int (I a6), a7, .int (I a8)] [] h P := by
  refine R_aload_n (Dat dd_L_causes_c1 56 rfl) rfl rfl ?_
  refine R_iconst (Dat dd_L_causes_c1 57 rfl) ?_
  refine R_iload (Dat dd_L_causes_c1 58 rfl) rfl ?_
  refine R_iinc (Dat dd_L_causes_c1 59 rfl) rfl rfl rfl ?_
  refine R_iload (Dat dd_L_causes_c2 0 rfl) rfl ?_
  obtain ⟨g1, T⟩ := T
  refine R_if_ne (Dat dd_L_causes_c2 1 rfl) rfl g1  (fun c => ?_) (fun c => ?_)
  · replace T := T.1 c
    refine R_bipush (Dat dd_L_causes_c2 2 rfl) (a := 102) rfl ?_
    refine R_goto (Dat dd_L_causes_c2 3 rfl) rfl ?_
    exact T
  · replace T := T.2 c
    refine R_iload (Dat dd_L_causes_c2 4 rfl) rfl ?_
    refine R_iconst (Dat dd_L_causes_c2 5 rfl) ?_
    obtain ⟨g2, T⟩ := T
    refine R_ic_ne (Dat dd_L_causes_c2 6 rfl) rfl g2 (by decide) (fun c => ?_) (fun c => ?_)
    · replace T := T.1 c
      refine R_bipush (Dat dd_L_causes_c2 7 rfl) (a := 104) rfl ?_
      refine R_goto (Dat dd_L_causes_c2 8 rfl) rfl ?_
      exact T
    · replace T := T.2 c
      refine R_iload (Dat dd_L_causes_c2 9 rfl) rfl ?_
      refine R_iconst (Dat dd_L_causes_c2 10 rfl) ?_
      obtain ⟨g3, T⟩ := T
      refine R_ic_ne (Dat dd_L_causes_c2 11 rfl) rfl g3 (by decide) (fun c => ?_) (fun c => ?_)
      · replace T := T.1 c
        refine R_bipush (Dat dd_L_causes_c2 12 rfl) (a := 114) rfl ?_
        refine R_goto (Dat dd_L_causes_c2 13 rfl) rfl ?_
        exact T
      · replace T := T.2 c
        refine R_iload (Dat dd_L_causes_c2 14 rfl) rfl ?_
        refine R_iconst (Dat dd_L_causes_c2 15 rfl) ?_
        obtain ⟨g4, T⟩ := T
        refine R_ic_ne (Dat dd_L_causes_c2 16 rfl) rfl g4 (by decide) (fun c => ?_) (fun c => ?_)
        · replace T := T.1 c
          refine R_bipush (Dat dd_L_causes_c2 17 rfl) (a := 116) rfl ?_
          refine R_goto (Dat dd_L_causes_c2 18 rfl) rfl ?_
          exact T
        · replace T := T.2 c
          refine R_iload (Dat dd_L_causes_c2 19 rfl) rfl ?_
          refine R_iconst (Dat dd_L_causes_c2 20 rfl) ?_
          obtain ⟨g5, T⟩ := T
          refine R_ic_ne (Dat dd_L_causes_c2 21 rfl) rfl g5 (by decide) (fun c => ?_) (fun c => ?_)
          · replace T := T.1 c
            refine R_bipush (Dat dd_L_causes_c2 22 rfl) (a := 110) rfl ?_
            refine R_goto (Dat dd_L_causes_c2 23 rfl) rfl ?_
            exact T
          · replace T := T.2 c
            refine R_bipush (Dat dd_L_causes_c2 24 rfl) (a := 97) rfl ?_
            exact T
theorem t_L_causes_303 {h : Hp} {P : Value → Hp → Prop} {a0 a1 a2 a3 a4 a5 a6 a7 a8 : Value} (T : P (.int (I (-99))) h) : R 90 303 [a0, a1, a2, a3, a4, a5, a6, a7, a8] [] h P := by
  refine R_bipush (Dat dd_L_causes_c3 0 rfl) (a := (-99)) rfl ?_
  exact R_ireturn (Dat dd_L_causes_c3 1 rfl) rfl T
theorem t_L_causes_246 {h : Hp} {P : Value → Hp → Prop} {a2 a4 a5 a6 s0 s1 s2 : Int} {a0 a1 a3 s3 : Nat} {a7 a8 : Value} (T : (tg h s3 = 12) ∧ R 84 0 [.ref s3, .int (I s2), .int (I s1), .int (I s0), .retAddr 0] [] h (fun v h2 => R 90 249 [.ref a0, .ref a1, .int (I a2), .ref a3, .int (I a4), .int (I a5), .int (I a6), a7, a8] (v :: []) h2 P)) : R 90 246 [.ref a0, .ref a1, .int (I a2), .ref a3, .int (I a4), .int (I a5), .int (I a6), a7, a8] [.int (I s0), .int (I s1), .int (I s2), .ref s3] h P := by
  obtain ⟨g1, T⟩ := T
  exact R_call1 (Dat dd_L_causes_c2 25 rfl) rfl g1 rfl rfl rfl rfl rfl T
theorem t_L_causes_249 {h : Hp} {P : Value → Hp → Prop} {a2 a4 a5 a6 s0 : Int} {a0 a1 a3 : Nat} {a7 a8 : Value} (T : (rng s0) ∧ ((s0 = 1 → (tg h a3 = 20 ∨ tg h a3 = 30) ∧ ((ln h a3 : Int) ≤ 2147483648) ∧ (0 ≤ (2 + (3 * a6))) ∧ ((2 + (3 * a6)) < ln h a3) ∧ (tg h a0 = 12) ∧ R 84 0 [.ref a0, .int (I 1), .int (I a5), .int (I (48 + (iv h a3 (2 + (3 * a6))))), .retAddr 0] [] h (fun v h2 => R 90 274 [.ref a0, .ref a1, .int (I a2), .ref a3, .int (I a4), .int (I (a5 + 1)), .int (I a6), a7, a8] (v :: []) h2 P)) ∧ (¬ s0 = 1 → R 90 303 [.ref a0, .ref a1, .int (I a2), .ref a3, .int (I a4), .int (I a5), .int (I a6), a7, a8] [] h P))) : R 90 249 [.ref a0, .ref a1, .int (I a2), .ref a3, .int (I a4), .int (I a5), .int (I a6), a7, a8] [.int (I s0)] h P := by
  refine R_iconst (Dat dd_L_causes_c2 26 rfl) ?_
  obtain ⟨g1, T⟩ := T
  refine R_ic_ne (Dat dd_L_causes_c2 27 rfl) rfl g1 (by decide) (fun c => ?_) (fun c => ?_)
  · replace T := T.1 c
    refine R_aload_n (Dat dd_L_causes_c2 28 rfl) rfl rfl ?_
    refine R_iconst (Dat dd_L_causes_c2 29 rfl) ?_
    refine R_iload (Dat dd_L_causes_c2 30 rfl) rfl ?_
    refine R_iinc (Dat dd_L_causes_c2 31 rfl) rfl rfl rfl ?_
    refine R_bipush (Dat dd_L_causes_c2 32 rfl) (a := 48) rfl ?_
    refine R_aload_n (Dat dd_L_causes_c2 33 rfl) rfl rfl ?_
    refine R_iconst (Dat dd_L_causes_c2 34 rfl) ?_
    refine R_iconst (Dat dd_L_causes_c2 35 rfl) ?_
    refine R_iload (Dat dd_L_causes_c2 36 rfl) rfl ?_
    refine R_imul (Dat dd_L_causes_c2 37 rfl) ?_
    refine R_iadd (Dat dd_L_causes_c2 38 rfl) ?_
    obtain ⟨g2, T⟩ := T
    obtain ⟨g3, T⟩ := T
    obtain ⟨g4, T⟩ := T
    obtain ⟨g5, T⟩ := T
    refine R_iaload (Dat dd_L_causes_c2 39 rfl) g2 g3 g4 g5 ?_
    refine R_iadd (Dat dd_L_causes_c2 40 rfl) ?_
    obtain ⟨g6, T⟩ := T
    exact R_call1 (Dat dd_L_causes_c2 41 rfl) rfl g6 rfl rfl rfl rfl rfl T
  · replace T := T.2 c
    exact T
theorem t_L_causes_274 {h : Hp} {P : Value → Hp → Prop} {a2 a4 a5 a6 s0 : Int} {a0 a1 a3 : Nat} {a7 a8 : Value} (T : (rng s0) ∧ ((s0 = 1 → (tg h a3 = 20 ∨ tg h a3 = 30) ∧ ((ln h a3 : Int) ≤ 2147483648) ∧ (0 ≤ (3 + (3 * a6))) ∧ ((3 + (3 * a6)) < ln h a3) ∧ (tg h a0 = 12) ∧ R 84 0 [.ref a0, .int (I 1), .int (I a5), .int (I (48 + (iv h a3 (3 + (3 * a6))))), .retAddr 0] [] h (fun v h2 => R 90 299 [.ref a0, .ref a1, .int (I a2), .ref a3, .int (I a4), .int (I (a5 + 1)), .int (I a6), a7, a8] (v :: []) h2 P)) ∧ (¬ s0 = 1 → R 90 303 [.ref a0, .ref a1, .int (I a2), .ref a3, .int (I a4), .int (I a5), .int (I a6), a7, a8] [] h P))) : R 90 274 [.ref a0, .ref a1, .int (I a2), .ref a3, .int (I a4), .int (I a5), .int (I a6), a7, a8] [.int (I s0)] h P := by
  refine R_iconst (Dat dd_L_causes_c2 42 rfl) ?_
  obtain ⟨g1, T⟩ := T
  refine R_ic_ne (Dat dd_L_causes_c2 43 rfl) rfl g1 (by decide) (fun c => ?_) (fun c => ?_)
  · replace T := T.1 c
    refine R_aload_n (Dat dd_L_causes_c2 44 rfl) rfl rfl ?_
    refine R_iconst (Dat dd_L_causes_c2 45 rfl) ?_
    refine R_iload (Dat dd_L_causes_c2 46 rfl) rfl ?_
    refine R_iinc (Dat dd_L_causes_c2 47 rfl) rfl rfl rfl ?_
    refine R_bipush (Dat dd_L_causes_c2 48 rfl) (a := 48) rfl ?_
    refine R_aload_n (Dat dd_L_causes_c2 49 rfl) rfl rfl ?_
    refine R_iconst (Dat dd_L_causes_c2 50 rfl) ?_
    refine R_iconst (Dat dd_L_causes_c2 51 rfl) ?_
    refine R_iload (Dat dd_L_causes_c2 52 rfl) rfl ?_
    refine R_imul (Dat dd_L_causes_c2 53 rfl) ?_
    refine R_iadd (Dat dd_L_causes_c2 54 rfl) ?_
    obtain ⟨g2, T⟩ := T
    obtain ⟨g3, T⟩ := T
    obtain ⟨g4, T⟩ := T
    obtain ⟨g5, T⟩ := T
    refine R_iaload (Dat dd_L_causes_c2 55 rfl) g2 g3 g4 g5 ?_
    refine R_iadd (Dat dd_L_causes_c2 56 rfl) ?_
    obtain ⟨g6, T⟩ := T
    exact R_call1 (Dat dd_L_causes_c2 57 rfl) rfl g6 rfl rfl rfl rfl rfl T
  · replace T := T.2 c
    exact T
theorem t_L_causes_299 {h : Hp} {P : Value → Hp → Prop} {a2 a4 a5 a6 s0 : Int} {a0 a1 a3 : Nat} {a7 a8 : Value} (T : (rng s0) ∧ ((s0 = 1 → R 90 40 [.ref a0, .ref a1, .int (I a2), .ref a3, .int (I a4), .int (I a5), .int (I (a6 + 1)), a7, a8] [] h P) ∧ (¬ s0 = 1 → R 90 303 [.ref a0, .ref a1, .int (I a2), .ref a3, .int (I a4), .int (I a5), .int (I a6), a7, a8] [] h P))) : R 90 299 [.ref a0, .ref a1, .int (I a2), .ref a3, .int (I a4), .int (I a5), .int (I a6), a7, a8] [.int (I s0)] h P := by
  refine R_iconst (Dat dd_L_causes_c2 58 rfl) ?_
  obtain ⟨g1, T⟩ := T
  refine R_ic_eq (Dat dd_L_causes_c2 59 rfl) rfl g1 (by decide) (fun c => ?_) (fun c => ?_)
  · replace T := T.1 c
    refine R_iinc (Dat dd_L_causes_c3 2 rfl) rfl rfl rfl ?_
    refine R_goto (Dat dd_L_causes_c3 3 rfl) rfl ?_
    exact T
  · replace T := T.2 c
    exact T
def dl_L_ruling : List (Nat × Instr × Nat) := [(0, .iconst 0, 1), (1, .istore 7, 2), (3, .iload 7, 2), (5, .aload_n 1, 1), (6, .iconst 0, 1), (7, .iaload, 1), (8, .if_icmp .ge 266, 3), (11, .iload 7, 2), (13, .iload_n 2, 1), (14, .if_icmp .eq 254, 3), (17, .aload_n 1, 1), (18, .iconst 3, 1), (19, .iconst 3, 1), (20, .iload 7, 2), (22, .imul, 1), (23, .iadd, 1), (24, .iaload, 1), (25, .iload 6, 2), (27, .if_icmp .le 6, 3), (30, .goto 238, 3), (33, .aload_n 1, 1), (34, .iconst 2, 1), (35, .iconst 3, 1), (36, .iload 7, 2), (38, .imul, 1), (39, .iadd, 1), (40, .iaload, 1), (41, .istore 8, 2), (43, .aload_n 0, 1), (44, .iload_n 3, 1), (45, .invokestatic 28, 3), (48, .aload_n 0, 1), (49, .iload 4, 2), (51, .invokestatic 28, 3), (54, .isub, 1), (55, .istore 9, 2), (57, .aload_n 0, 1), (58, .iload 4, 2), (60, .invokestatic 31, 3), (63, .aload_n 0, 1), (64, .iload_n 3, 1), (65, .invokestatic 31, 3), (68, .isub, 1), (69, .istore 10, 2), (71, .iconst 0, 1), (72, .istore 11, 2), (74, .aload_n 1, 1), (75, .iconst 1, 1), (76, .iconst 3, 1), (77, .iload 7, 2), (79, .imul, 1), (80, .iadd, 1), (81, .iaload, 1), (82, .tableswitch 156 0 4 #[34, 51, 73, 103, 139], 34), (116, .iload 9, 2), (118, .iload 8, 2), (120, .if_icmp .lt 7, 3), (123, .iconst 1, 1), (124, .goto 4, 3), (127, .iconst 0, 1), (128, .istore 11, 2), (130, .goto 130, 3), (133, .iload 10, 2), (135, .iload 8, 2), (137, .if_icmp .lt 12, 3), (140, .iload 10, 2), (142, .ifCond .le 7, 3), (145, .iconst 1, 1), (146, .goto 4, 3), (149, .iconst 0, 1), (150, .istore 11, 2), (152, .goto 108, 3), (155, .aload_n 0, 1), (156, .iload_n 3, 1), (157, .invokestatic 28, 3), (160, .iload 8, 2), (162, .if_icmp .lt 17, 3), (165, .iload 10, 2), (167, .ifCond .gt 12, 3), (170, .iload 9, 2), (172, .ifCond .le 7, 3), (175, .iconst 1, 1), (176, .goto 4, 3), (179, .iconst 0, 1), (180, .istore 11, 2), (182, .goto 78, 3), (185, .aload_n 0, 1), (186, .bipush 16, 2), (188, .iload_n 3, 1), (189, .iadd, 1), (190, .iaload, 1), (191, .ifCond .le 24, 3), (194, .aload_n 0, 1), (195, .bipush 16, 2), (197, .iload 4, 2), (199, .iadd, 1), (200, .iaload, 1), (201, .ifCond .ne 14, 3), (204, .iload 5, 2), (206, .iload 8, 2), (208, .if_icmp .ge 7, 3), (211, .iconst 1, 1), (212, .goto 4, 3), (215, .iconst 0, 1), (216, .istore 11, 2), (218, .goto 42, 3), (221, .iload 5, 2), (223, .iload 8, 2), (225, .if_icmp .lt 7, 3), (228, .iconst 1, 1), (229, .goto 4, 3), (232, .iconst 0, 1), (233, .istore 11, 2), (235, .goto 25, 3), (238, .iload 10, 2), (240, .iload 8, 2), (242, .if_icmp .ge 15, 3), (245, .iload 10, 2), (247, .ineg, 1), (248, .iload 8, 2), (250, .if_icmp .ge 7, 3), (253, .iconst 1, 1), (254, .goto 4, 3), (257, .iconst 0, 1), (258, .istore 11, 2), (260, .iload 11, 2), (262, .ifCond .eq 6, 3), (265, .iload 7, 2), (267, .ireturn, 1), (268, .iinc 7 1, 3), (271, .goto (-268), 3), (274, .bipush (-9), 2), (276, .ireturn, 1)]
theorem dd_L_ruling : Dall 91 dl_L_ruling = true := by decide +kernel
theorem t_L_ruling {h : Hp} {P : Value → Hp → Prop} {p2 p3 p4 p5 p6 : Int} {p0 p1 : Nat} (T : R 91 3 [.ref p0, .ref p1, .int (I p2), .int (I p3), .int (I p4), .int (I p5), .int (I p6), .int (I 0), .retAddr 0, .retAddr 0, .retAddr 0, .retAddr 0] [] h P) : R 91 0 [.ref p0, .ref p1, .int (I p2), .int (I p3), .int (I p4), .int (I p5), .int (I p6), .retAddr 0, .retAddr 0, .retAddr 0, .retAddr 0, .retAddr 0] [] h P := by
  refine R_iconst (Dat dd_L_ruling 0 rfl) ?_
  refine R_istore (Dat dd_L_ruling 1 rfl) rfl rfl ?_
  exact T
theorem t_L_ruling_3 {h : Hp} {P : Value → Hp → Prop} {a2 a3 a4 a5 a6 a7 : Int} {a0 a1 : Nat} {a8 a9 a10 a11 : Value} (T : (tg h a1 = 20 ∨ tg h a1 = 30) ∧ ((ln h a1 : Int) ≤ 2147483648) ∧ ((0 : Int) < ln h a1) ∧ (rng a7) ∧ (rng (iv h a1 0)) ∧ ((a7 < (iv h a1 0) → (rng a7) ∧ (rng a2) ∧ ((a7 = a2 → R 91 268 [.ref a0, .ref a1, .int (I a2), .int (I a3), .int (I a4), .int (I a5), .int (I a6), .int (I a7), a8, a9, a10, a11] [] h P) ∧ (¬ a7 = a2 → (tg h a1 = 20 ∨ tg h a1 = 30) ∧ ((ln h a1 : Int) ≤ 2147483648) ∧ (0 ≤ (3 + (3 * a7))) ∧ ((3 + (3 * a7)) < ln h a1) ∧ (rng (iv h a1 (3 + (3 * a7)))) ∧ (rng a6) ∧ ((a6 < (iv h a1 (3 + (3 * a7))) → R 91 268 [.ref a0, .ref a1, .int (I a2), .int (I a3), .int (I a4), .int (I a5), .int (I a6), .int (I a7), a8, a9, a10, a11] [] h P) ∧ (¬ a6 < (iv h a1 (3 + (3 * a7))) → (tg h a1 = 20 ∨ tg h a1 = 30) ∧ ((ln h a1 : Int) ≤ 2147483648) ∧ (0 ≤ (2 + (3 * a7))) ∧ ((2 + (3 * a7)) < ln h a1) ∧ R 92 0 [.ref a0, .int (I a3)] [] h (fun v h2 => R 91 48 [.ref a0, .ref a1, .int (I a2), .int (I a3), .int (I a4), .int (I a5), .int (I a6), .int (I a7), .int (I (iv h a1 (2 + (3 * a7)))), a9, a10, a11] (v :: []) h2 P)))))) ∧ (¬ a7 < (iv h a1 0) → P (.int (I (-9))) h))) : R 91 3 [.ref a0, .ref a1, .int (I a2), .int (I a3), .int (I a4), .int (I a5), .int (I a6), .int (I a7), a8, a9, a10, a11] [] h P := by
  refine R_iload (Dat dd_L_ruling 2 rfl) rfl ?_
  refine R_aload_n (Dat dd_L_ruling 3 rfl) rfl rfl ?_
  refine R_iconst (Dat dd_L_ruling 4 rfl) ?_
  obtain ⟨g1, T⟩ := T
  obtain ⟨g2, T⟩ := T
  obtain ⟨g3, T⟩ := T
  refine R_iaload (Dat dd_L_ruling 5 rfl) g1 g2 (by decide) g3 ?_
  obtain ⟨g4, T⟩ := T
  obtain ⟨g5, T⟩ := T
  refine R_ic_ge (Dat dd_L_ruling 6 rfl) rfl g4 g5 (fun c => ?_) (fun c => ?_)
  · replace T := T.1 c
    refine R_iload (Dat dd_L_ruling 7 rfl) rfl ?_
    refine R_iload_n (Dat dd_L_ruling 8 rfl) rfl ?_
    obtain ⟨g6, T⟩ := T
    obtain ⟨g7, T⟩ := T
    refine R_ic_eq (Dat dd_L_ruling 9 rfl) rfl g6 g7 (fun c => ?_) (fun c => ?_)
    · replace T := T.1 c
      exact T
    · replace T := T.2 c
      refine R_aload_n (Dat dd_L_ruling 10 rfl) rfl rfl ?_
      refine R_iconst (Dat dd_L_ruling 11 rfl) ?_
      refine R_iconst (Dat dd_L_ruling 12 rfl) ?_
      refine R_iload (Dat dd_L_ruling 13 rfl) rfl ?_
      refine R_imul (Dat dd_L_ruling 14 rfl) ?_
      refine R_iadd (Dat dd_L_ruling 15 rfl) ?_
      obtain ⟨g8, T⟩ := T
      obtain ⟨g9, T⟩ := T
      obtain ⟨g10, T⟩ := T
      obtain ⟨g11, T⟩ := T
      refine R_iaload (Dat dd_L_ruling 16 rfl) g8 g9 g10 g11 ?_
      refine R_iload (Dat dd_L_ruling 17 rfl) rfl ?_
      obtain ⟨g12, T⟩ := T
      obtain ⟨g13, T⟩ := T
      refine R_ic_le (Dat dd_L_ruling 18 rfl) rfl g12 g13 (fun c => ?_) (fun c => ?_)
      · replace T := T.1 c
        refine R_goto (Dat dd_L_ruling 19 rfl) rfl ?_
        exact T
      · replace T := T.2 c
        refine R_aload_n (Dat dd_L_ruling 20 rfl) rfl rfl ?_
        refine R_iconst (Dat dd_L_ruling 21 rfl) ?_
        refine R_iconst (Dat dd_L_ruling 22 rfl) ?_
        refine R_iload (Dat dd_L_ruling 23 rfl) rfl ?_
        refine R_imul (Dat dd_L_ruling 24 rfl) ?_
        refine R_iadd (Dat dd_L_ruling 25 rfl) ?_
        obtain ⟨g14, T⟩ := T
        obtain ⟨g15, T⟩ := T
        obtain ⟨g16, T⟩ := T
        obtain ⟨g17, T⟩ := T
        refine R_iaload (Dat dd_L_ruling 26 rfl) g14 g15 g16 g17 ?_
        refine R_istore (Dat dd_L_ruling 27 rfl) rfl rfl ?_
        refine R_aload_n (Dat dd_L_ruling 28 rfl) rfl rfl ?_
        refine R_iload_n (Dat dd_L_ruling 29 rfl) rfl ?_
        exact R_call0 (Dat dd_L_ruling 30 rfl) rfl rfl rfl rfl rfl rfl T
  · replace T := T.2 c
    refine R_bipush (Dat dd_L_ruling 131 rfl) (a := (-9)) rfl ?_
    exact R_ireturn (Dat dd_L_ruling 132 rfl) rfl T
theorem t_L_ruling_268 {h : Hp} {P : Value → Hp → Prop} {a2 a3 a4 a5 a6 a7 : Int} {a0 a1 : Nat} {a8 a9 a10 a11 : Value} (T : R 91 3 [.ref a0, .ref a1, .int (I a2), .int (I a3), .int (I a4), .int (I a5), .int (I a6), .int (I (a7 + 1)), a8, a9, a10, a11] [] h P) : R 91 268 [.ref a0, .ref a1, .int (I a2), .int (I a3), .int (I a4), .int (I a5), .int (I a6), .int (I a7), a8, a9, a10, a11] [] h P := by
  refine R_iinc (Dat dd_L_ruling 129 rfl) rfl rfl rfl ?_
  refine R_goto (Dat dd_L_ruling 130 rfl) rfl ?_
  exact T
theorem t_L_ruling_48 {h : Hp} {P : Value → Hp → Prop} {a2 a3 a4 a5 a6 a7 a8 s0 : Int} {a0 a1 : Nat} {a9 a10 a11 : Value} (T : R 92 0 [.ref a0, .int (I a4)] [] h (fun v h2 => R 91 54 [.ref a0, .ref a1, .int (I a2), .int (I a3), .int (I a4), .int (I a5), .int (I a6), .int (I a7), .int (I a8), a9, a10, a11] (v :: [.int (I s0)]) h2 P)) : R 91 48 [.ref a0, .ref a1, .int (I a2), .int (I a3), .int (I a4), .int (I a5), .int (I a6), .int (I a7), .int (I a8), a9, a10, a11] [.int (I s0)] h P := by
  refine R_aload_n (Dat dd_L_ruling 31 rfl) rfl rfl ?_
  refine R_iload (Dat dd_L_ruling 32 rfl) rfl ?_
  exact R_call0 (Dat dd_L_ruling 33 rfl) rfl rfl rfl rfl rfl rfl T
theorem t_L_ruling_54 {h : Hp} {P : Value → Hp → Prop} {a2 a3 a4 a5 a6 a7 a8 s0 s1 : Int} {a0 a1 : Nat} {a9 a10 a11 : Value} (T : R 93 0 [.ref a0, .int (I a4)] [] h (fun v h2 => R 91 63 [.ref a0, .ref a1, .int (I a2), .int (I a3), .int (I a4), .int (I a5), .int (I a6), .int (I a7), .int (I a8), .int (I (s1 - s0)), a10, a11] (v :: []) h2 P)) : R 91 54 [.ref a0, .ref a1, .int (I a2), .int (I a3), .int (I a4), .int (I a5), .int (I a6), .int (I a7), .int (I a8), a9, a10, a11] [.int (I s0), .int (I s1)] h P := by
  refine R_isub (Dat dd_L_ruling 34 rfl) ?_
  refine R_istore (Dat dd_L_ruling 35 rfl) rfl rfl ?_
  refine R_aload_n (Dat dd_L_ruling 36 rfl) rfl rfl ?_
  refine R_iload (Dat dd_L_ruling 37 rfl) rfl ?_
  exact R_call0 (Dat dd_L_ruling 38 rfl) rfl rfl rfl rfl rfl rfl T
theorem t_L_ruling_63 {h : Hp} {P : Value → Hp → Prop} {a2 a3 a4 a5 a6 a7 a8 a9 s0 : Int} {a0 a1 : Nat} {a10 a11 : Value} (T : R 93 0 [.ref a0, .int (I a3)] [] h (fun v h2 => R 91 68 [.ref a0, .ref a1, .int (I a2), .int (I a3), .int (I a4), .int (I a5), .int (I a6), .int (I a7), .int (I a8), .int (I a9), a10, a11] (v :: [.int (I s0)]) h2 P)) : R 91 63 [.ref a0, .ref a1, .int (I a2), .int (I a3), .int (I a4), .int (I a5), .int (I a6), .int (I a7), .int (I a8), .int (I a9), a10, a11] [.int (I s0)] h P := by
  refine R_aload_n (Dat dd_L_ruling 39 rfl) rfl rfl ?_
  refine R_iload_n (Dat dd_L_ruling 40 rfl) rfl ?_
  exact R_call0 (Dat dd_L_ruling 41 rfl) rfl rfl rfl rfl rfl rfl T
theorem t_L_ruling_68 {h : Hp} {P : Value → Hp → Prop} {a2 a3 a4 a5 a6 a7 a8 a9 s0 s1 : Int} {a0 a1 : Nat} {a10 a11 : Value} (T : (tg h a1 = 20 ∨ tg h a1 = 30) ∧ ((ln h a1 : Int) ≤ 2147483648) ∧ (0 ≤ (1 + (3 * a7))) ∧ ((1 + (3 * a7)) < ln h a1) ∧ (rng (iv h a1 (1 + (3 * a7)))) ∧ ((((iv h a1 (1 + (3 * a7))) = 0 → (rng a9) ∧ (rng a8) ∧ ((a9 < a8 → R 91 128 [.ref a0, .ref a1, .int (I a2), .int (I a3), .int (I a4), .int (I a5), .int (I a6), .int (I a7), .int (I a8), .int (I a9), .int (I (s1 - s0)), .int (I 0)] [.int (I 0)] h P) ∧ (¬ a9 < a8 → R 91 128 [.ref a0, .ref a1, .int (I a2), .int (I a3), .int (I a4), .int (I a5), .int (I a6), .int (I a7), .int (I a8), .int (I a9), .int (I (s1 - s0)), .int (I 0)] [.int (I 1)] h P))) ∧ ((iv h a1 (1 + (3 * a7))) = 1 → (rng (s1 - s0)) ∧ (rng a8) ∧ (((s1 - s0) < a8 → R 91 149 [.ref a0, .ref a1, .int (I a2), .int (I a3), .int (I a4), .int (I a5), .int (I a6), .int (I a7), .int (I a8), .int (I a9), .int (I (s1 - s0)), .int (I 0)] [] h P) ∧ (¬ (s1 - s0) < a8 → (rng (s1 - s0)) ∧ (((0 : Int) < (s1 - s0) → R 91 150 [.ref a0, .ref a1, .int (I a2), .int (I a3), .int (I a4), .int (I a5), .int (I a6), .int (I a7), .int (I a8), .int (I a9), .int (I (s1 - s0)), .int (I 0)] [.int (I 1)] h P) ∧ (¬ (0 : Int) < (s1 - s0) → R 91 149 [.ref a0, .ref a1, .int (I a2), .int (I a3), .int (I a4), .int (I a5), .int (I a6), .int (I a7), .int (I a8), .int (I a9), .int (I (s1 - s0)), .int (I 0)] [] h P))))) ∧ ((iv h a1 (1 + (3 * a7))) = 2 → R 92 0 [.ref a0, .int (I a3)] [] h (fun v h2 => R 91 160 [.ref a0, .ref a1, .int (I a2), .int (I a3), .int (I a4), .int (I a5), .int (I a6), .int (I a7), .int (I a8), .int (I a9), .int (I (s1 - s0)), .int (I 0)] (v :: []) h2 P)) ∧ ((iv h a1 (1 + (3 * a7))) = 3 → (tg h a0 = 20 ∨ tg h a0 = 30) ∧ ((ln h a0 : Int) ≤ 2147483648) ∧ (0 ≤ (16 + a3)) ∧ ((16 + a3) < ln h a0) ∧ (rng (iv h a0 (16 + a3))) ∧ (((0 : Int) < (iv h a0 (16 + a3)) → (tg h a0 = 20 ∨ tg h a0 = 30) ∧ ((ln h a0 : Int) ≤ 2147483648) ∧ (0 ≤ (16 + a4)) ∧ ((16 + a4) < ln h a0) ∧ (rng (iv h a0 (16 + a4))) ∧ (((iv h a0 (16 + a4)) = 0 → (rng a5) ∧ (rng a8) ∧ ((a5 < a8 → R 91 216 [.ref a0, .ref a1, .int (I a2), .int (I a3), .int (I a4), .int (I a5), .int (I a6), .int (I a7), .int (I a8), .int (I a9), .int (I (s1 - s0)), .int (I 0)] [.int (I 1)] h P) ∧ (¬ a5 < a8 → R 91 215 [.ref a0, .ref a1, .int (I a2), .int (I a3), .int (I a4), .int (I a5), .int (I a6), .int (I a7), .int (I a8), .int (I a9), .int (I (s1 - s0)), .int (I 0)] [] h P))) ∧ (¬ (iv h a0 (16 + a4)) = 0 → R 91 215 [.ref a0, .ref a1, .int (I a2), .int (I a3), .int (I a4), .int (I a5), .int (I a6), .int (I a7), .int (I a8), .int (I a9), .int (I (s1 - s0)), .int (I 0)] [] h P))) ∧ (¬ (0 : Int) < (iv h a0 (16 + a3)) → R 91 215 [.ref a0, .ref a1, .int (I a2), .int (I a3), .int (I a4), .int (I a5), .int (I a6), .int (I a7), .int (I a8), .int (I a9), .int (I (s1 - s0)), .int (I 0)] [] h P))) ∧ ((iv h a1 (1 + (3 * a7))) = 4 → (rng a5) ∧ (rng a8) ∧ ((a5 < a8 → R 91 233 [.ref a0, .ref a1, .int (I a2), .int (I a3), .int (I a4), .int (I a5), .int (I a6), .int (I a7), .int (I a8), .int (I a9), .int (I (s1 - s0)), .int (I 0)] [.int (I 0)] h P) ∧ (¬ a5 < a8 → R 91 233 [.ref a0, .ref a1, .int (I a2), .int (I a3), .int (I a4), .int (I a5), .int (I a6), .int (I a7), .int (I a8), .int (I a9), .int (I (s1 - s0)), .int (I 0)] [.int (I 1)] h P)))) ∧ ((iv h a1 (1 + (3 * a7))) < 0 ∨ 4 < (iv h a1 (1 + (3 * a7))) → (rng (s1 - s0)) ∧ (rng a8) ∧ (((s1 - s0) < a8 → (rng (-(s1 - s0))) ∧ (rng a8) ∧ (((-(s1 - s0)) < a8 → R 91 258 [.ref a0, .ref a1, .int (I a2), .int (I a3), .int (I a4), .int (I a5), .int (I a6), .int (I a7), .int (I a8), .int (I a9), .int (I (s1 - s0)), .int (I 0)] [.int (I 1)] h P) ∧ (¬ (-(s1 - s0)) < a8 → R 91 257 [.ref a0, .ref a1, .int (I a2), .int (I a3), .int (I a4), .int (I a5), .int (I a6), .int (I a7), .int (I a8), .int (I a9), .int (I (s1 - s0)), .int (I 0)] [] h P))) ∧ (¬ (s1 - s0) < a8 → R 91 257 [.ref a0, .ref a1, .int (I a2), .int (I a3), .int (I a4), .int (I a5), .int (I a6), .int (I a7), .int (I a8), .int (I a9), .int (I (s1 - s0)), .int (I 0)] [] h P))))) : R 91 68 [.ref a0, .ref a1, .int (I a2), .int (I a3), .int (I a4), .int (I a5), .int (I a6), .int (I a7), .int (I a8), .int (I a9), a10, a11] [.int (I s0), .int (I s1)] h P := by
  refine R_isub (Dat dd_L_ruling 42 rfl) ?_
  refine R_istore (Dat dd_L_ruling 43 rfl) rfl rfl ?_
  refine R_iconst (Dat dd_L_ruling 44 rfl) ?_
  refine R_istore (Dat dd_L_ruling 45 rfl) rfl rfl ?_
  refine R_aload_n (Dat dd_L_ruling 46 rfl) rfl rfl ?_
  refine R_iconst (Dat dd_L_ruling 47 rfl) ?_
  refine R_iconst (Dat dd_L_ruling 48 rfl) ?_
  refine R_iload (Dat dd_L_ruling 49 rfl) rfl ?_
  refine R_imul (Dat dd_L_ruling 50 rfl) ?_
  refine R_iadd (Dat dd_L_ruling 51 rfl) ?_
  obtain ⟨g1, T⟩ := T
  obtain ⟨g2, T⟩ := T
  obtain ⟨g3, T⟩ := T
  obtain ⟨g4, T⟩ := T
  refine R_iaload (Dat dd_L_ruling 52 rfl) g1 g2 g3 g4 ?_
  obtain ⟨g5, T⟩ := T
  refine R_tsw (lo := 0) (hi := 4) (Dat dd_L_ruling 53 rfl) (td := 238) (ts := [116, 133, 155, 185, 221]) g5 rfl rfl rfl rfl (fun i hi hc => ?_) (fun c => ?_)
  · obtain ⟨T, -⟩ := T
    have hi : i < 5 := hi
    rcases (show i = 0 ∨ i = 1 ∨ i = 2 ∨ i = 3 ∨ i = 4 by omega) with rfl | rfl | rfl | rfl | rfl
    · replace T := T.1 (by exact hc)
      refine R_iload (Dat dd_L_ruling 54 rfl) rfl ?_
      refine R_iload (Dat dd_L_ruling 55 rfl) rfl ?_
      obtain ⟨g6, T⟩ := T
      obtain ⟨g7, T⟩ := T
      refine R_ic_lt (Dat dd_L_ruling 56 rfl) rfl g6 g7 (fun c => ?_) (fun c => ?_)
      · replace T := T.1 c
        refine R_iconst (Dat dd_L_ruling 59 rfl) ?_
        exact T
      · replace T := T.2 c
        refine R_iconst (Dat dd_L_ruling 57 rfl) ?_
        refine R_goto (Dat dd_L_ruling 58 rfl) rfl ?_
        exact T
    · replace T := T.2.1 (by exact hc)
      refine R_iload (Dat dd_L_ruling 62 rfl) rfl ?_
      refine R_iload (Dat dd_L_ruling 63 rfl) rfl ?_
      obtain ⟨g8, T⟩ := T
      obtain ⟨g9, T⟩ := T
      refine R_ic_lt (Dat dd_L_ruling 64 rfl) rfl g8 g9 (fun c => ?_) (fun c => ?_)
      · replace T := T.1 c
        exact T
      · replace T := T.2 c
        refine R_iload (Dat dd_L_ruling 65 rfl) rfl ?_
        obtain ⟨g10, T⟩ := T
        refine R_if_le (Dat dd_L_ruling 66 rfl) rfl g10  (fun c => ?_) (fun c => ?_)
        · replace T := T.1 c
          refine R_iconst (Dat dd_L_ruling 67 rfl) ?_
          refine R_goto (Dat dd_L_ruling 68 rfl) rfl ?_
          exact T
        · replace T := T.2 c
          exact T
    · replace T := T.2.2.1 (by exact hc)
      refine R_aload_n (Dat dd_L_ruling 72 rfl) rfl rfl ?_
      refine R_iload_n (Dat dd_L_ruling 73 rfl) rfl ?_
      exact R_call0 (Dat dd_L_ruling 74 rfl) rfl rfl rfl rfl rfl rfl T
    · replace T := T.2.2.2.1 (by exact hc)
      refine R_aload_n (Dat dd_L_ruling 86 rfl) rfl rfl ?_
      refine R_bipush (Dat dd_L_ruling 87 rfl) (a := 16) rfl ?_
      refine R_iload_n (Dat dd_L_ruling 88 rfl) rfl ?_
      refine R_iadd (Dat dd_L_ruling 89 rfl) ?_
      obtain ⟨g11, T⟩ := T
      obtain ⟨g12, T⟩ := T
      obtain ⟨g13, T⟩ := T
      obtain ⟨g14, T⟩ := T
      refine R_iaload (Dat dd_L_ruling 90 rfl) g11 g12 g13 g14 ?_
      obtain ⟨g15, T⟩ := T
      refine R_if_le (Dat dd_L_ruling 91 rfl) rfl g15  (fun c => ?_) (fun c => ?_)
      · replace T := T.1 c
        refine R_aload_n (Dat dd_L_ruling 92 rfl) rfl rfl ?_
        refine R_bipush (Dat dd_L_ruling 93 rfl) (a := 16) rfl ?_
        refine R_iload (Dat dd_L_ruling 94 rfl) rfl ?_
        refine R_iadd (Dat dd_L_ruling 95 rfl) ?_
        obtain ⟨g16, T⟩ := T
        obtain ⟨g17, T⟩ := T
        obtain ⟨g18, T⟩ := T
        obtain ⟨g19, T⟩ := T
        refine R_iaload (Dat dd_L_ruling 96 rfl) g16 g17 g18 g19 ?_
        obtain ⟨g20, T⟩ := T
        refine R_if_ne (Dat dd_L_ruling 97 rfl) rfl g20  (fun c => ?_) (fun c => ?_)
        · replace T := T.1 c
          refine R_iload (Dat dd_L_ruling 98 rfl) rfl ?_
          refine R_iload (Dat dd_L_ruling 99 rfl) rfl ?_
          obtain ⟨g21, T⟩ := T
          obtain ⟨g22, T⟩ := T
          refine R_ic_ge (Dat dd_L_ruling 100 rfl) rfl g21 g22 (fun c => ?_) (fun c => ?_)
          · replace T := T.1 c
            refine R_iconst (Dat dd_L_ruling 101 rfl) ?_
            refine R_goto (Dat dd_L_ruling 102 rfl) rfl ?_
            exact T
          · replace T := T.2 c
            exact T
        · replace T := T.2 c
          exact T
      · replace T := T.2 c
        exact T
    · replace T := T.2.2.2.2 (by exact hc)
      refine R_iload (Dat dd_L_ruling 106 rfl) rfl ?_
      refine R_iload (Dat dd_L_ruling 107 rfl) rfl ?_
      obtain ⟨g23, T⟩ := T
      obtain ⟨g24, T⟩ := T
      refine R_ic_lt (Dat dd_L_ruling 108 rfl) rfl g23 g24 (fun c => ?_) (fun c => ?_)
      · replace T := T.1 c
        refine R_iconst (Dat dd_L_ruling 111 rfl) ?_
        exact T
      · replace T := T.2 c
        refine R_iconst (Dat dd_L_ruling 109 rfl) ?_
        refine R_goto (Dat dd_L_ruling 110 rfl) rfl ?_
        exact T
  · replace T := T.2 c
    refine R_iload (Dat dd_L_ruling 114 rfl) rfl ?_
    refine R_iload (Dat dd_L_ruling 115 rfl) rfl ?_
    obtain ⟨g25, T⟩ := T
    obtain ⟨g26, T⟩ := T
    refine R_ic_ge (Dat dd_L_ruling 116 rfl) rfl g25 g26 (fun c => ?_) (fun c => ?_)
    · replace T := T.1 c
      refine R_iload (Dat dd_L_ruling 117 rfl) rfl ?_
      refine R_ineg (Dat dd_L_ruling 118 rfl) ?_
      refine R_iload (Dat dd_L_ruling 119 rfl) rfl ?_
      obtain ⟨g27, T⟩ := T
      obtain ⟨g28, T⟩ := T
      refine R_ic_ge (Dat dd_L_ruling 120 rfl) rfl g27 g28 (fun c => ?_) (fun c => ?_)
      · replace T := T.1 c
        refine R_iconst (Dat dd_L_ruling 121 rfl) ?_
        refine R_goto (Dat dd_L_ruling 122 rfl) rfl ?_
        exact T
      · replace T := T.2 c
        exact T
    · replace T := T.2 c
      exact T
theorem t_L_ruling_128 {h : Hp} {P : Value → Hp → Prop} {a2 a3 a4 a5 a6 a7 s0 : Int} {a0 a1 : Nat} {a8 a9 a10 a11 : Value} (T : R 91 260 [.ref a0, .ref a1, .int (I a2), .int (I a3), .int (I a4), .int (I a5), .int (I a6), .int (I a7), a8, a9, a10, .int (I s0)] [] h P) : R 91 128 [.ref a0, .ref a1, .int (I a2), .int (I a3), .int (I a4), .int (I a5), .int (I a6), .int (I a7), a8, a9, a10, a11] [.int (I s0)] h P := by
  refine R_istore (Dat dd_L_ruling 60 rfl) rfl rfl ?_
  refine R_goto (Dat dd_L_ruling 61 rfl) rfl ?_
  exact T
theorem t_L_ruling_149 {h : Hp} {P : Value → Hp → Prop} {a2 a3 a4 a5 a6 a7 : Int} {a0 a1 : Nat} {a8 a9 a10 a11 : Value} (T : R 91 150 [.ref a0, .ref a1, .int (I a2), .int (I a3), .int (I a4), .int (I a5), .int (I a6), .int (I a7), a8, a9, a10, a11] [.int (I 0)] h P) : R 91 149 [.ref a0, .ref a1, .int (I a2), .int (I a3), .int (I a4), .int (I a5), .int (I a6), .int (I a7), a8, a9, a10, a11] [] h P := by
  refine R_iconst (Dat dd_L_ruling 69 rfl) ?_
  exact T
theorem t_L_ruling_150 {h : Hp} {P : Value → Hp → Prop} {a2 a3 a4 a5 a6 a7 s0 : Int} {a0 a1 : Nat} {a8 a9 a10 a11 : Value} (T : R 91 260 [.ref a0, .ref a1, .int (I a2), .int (I a3), .int (I a4), .int (I a5), .int (I a6), .int (I a7), a8, a9, a10, .int (I s0)] [] h P) : R 91 150 [.ref a0, .ref a1, .int (I a2), .int (I a3), .int (I a4), .int (I a5), .int (I a6), .int (I a7), a8, a9, a10, a11] [.int (I s0)] h P := by
  refine R_istore (Dat dd_L_ruling 70 rfl) rfl rfl ?_
  refine R_goto (Dat dd_L_ruling 71 rfl) rfl ?_
  exact T
theorem t_L_ruling_160 {h : Hp} {P : Value → Hp → Prop} {a2 a3 a4 a5 a6 a7 a8 a9 a10 s0 : Int} {a0 a1 : Nat} {a11 : Value} (T : (rng s0) ∧ (rng a8) ∧ ((s0 < a8 → R 91 179 [.ref a0, .ref a1, .int (I a2), .int (I a3), .int (I a4), .int (I a5), .int (I a6), .int (I a7), .int (I a8), .int (I a9), .int (I a10), a11] [] h P) ∧ (¬ s0 < a8 → (rng a10) ∧ (((0 : Int) < a10 → R 91 179 [.ref a0, .ref a1, .int (I a2), .int (I a3), .int (I a4), .int (I a5), .int (I a6), .int (I a7), .int (I a8), .int (I a9), .int (I a10), a11] [] h P) ∧ (¬ (0 : Int) < a10 → (rng a9) ∧ (((0 : Int) < a9 → R 91 180 [.ref a0, .ref a1, .int (I a2), .int (I a3), .int (I a4), .int (I a5), .int (I a6), .int (I a7), .int (I a8), .int (I a9), .int (I a10), a11] [.int (I 1)] h P) ∧ (¬ (0 : Int) < a9 → R 91 179 [.ref a0, .ref a1, .int (I a2), .int (I a3), .int (I a4), .int (I a5), .int (I a6), .int (I a7), .int (I a8), .int (I a9), .int (I a10), a11] [] h P))))))) : R 91 160 [.ref a0, .ref a1, .int (I a2), .int (I a3), .int (I a4), .int (I a5), .int (I a6), .int (I a7), .int (I a8), .int (I a9), .int (I a10), a11] [.int (I s0)] h P := by
  refine R_iload (Dat dd_L_ruling 75 rfl) rfl ?_
  obtain ⟨g1, T⟩ := T
  obtain ⟨g2, T⟩ := T
  refine R_ic_lt (Dat dd_L_ruling 76 rfl) rfl g1 g2 (fun c => ?_) (fun c => ?_)
  · replace T := T.1 c
    exact T
  · replace T := T.2 c
    refine R_iload (Dat dd_L_ruling 77 rfl) rfl ?_
    obtain ⟨g3, T⟩ := T
    refine R_if_gt (Dat dd_L_ruling 78 rfl) rfl g3  (fun c => ?_) (fun c => ?_)
    · replace T := T.1 c
      exact T
    · replace T := T.2 c
      refine R_iload (Dat dd_L_ruling 79 rfl) rfl ?_
      obtain ⟨g4, T⟩ := T
      refine R_if_le (Dat dd_L_ruling 80 rfl) rfl g4  (fun c => ?_) (fun c => ?_)
      · replace T := T.1 c
        refine R_iconst (Dat dd_L_ruling 81 rfl) ?_
        refine R_goto (Dat dd_L_ruling 82 rfl) rfl ?_
        exact T
      · replace T := T.2 c
        exact T
theorem t_L_ruling_216 {h : Hp} {P : Value → Hp → Prop} {a2 a3 a4 a5 a6 a7 s0 : Int} {a0 a1 : Nat} {a8 a9 a10 a11 : Value} (T : R 91 260 [.ref a0, .ref a1, .int (I a2), .int (I a3), .int (I a4), .int (I a5), .int (I a6), .int (I a7), a8, a9, a10, .int (I s0)] [] h P) : R 91 216 [.ref a0, .ref a1, .int (I a2), .int (I a3), .int (I a4), .int (I a5), .int (I a6), .int (I a7), a8, a9, a10, a11] [.int (I s0)] h P := by
  refine R_istore (Dat dd_L_ruling 104 rfl) rfl rfl ?_
  refine R_goto (Dat dd_L_ruling 105 rfl) rfl ?_
  exact T
theorem t_L_ruling_215 {h : Hp} {P : Value → Hp → Prop} {a2 a3 a4 a5 a6 a7 : Int} {a0 a1 : Nat} {a8 a9 a10 a11 : Value} (T : R 91 216 [.ref a0, .ref a1, .int (I a2), .int (I a3), .int (I a4), .int (I a5), .int (I a6), .int (I a7), a8, a9, a10, a11] [.int (I 0)] h P) : R 91 215 [.ref a0, .ref a1, .int (I a2), .int (I a3), .int (I a4), .int (I a5), .int (I a6), .int (I a7), a8, a9, a10, a11] [] h P := by
  refine R_iconst (Dat dd_L_ruling 103 rfl) ?_
  exact T
theorem t_L_ruling_233 {h : Hp} {P : Value → Hp → Prop} {a2 a3 a4 a5 a6 a7 s0 : Int} {a0 a1 : Nat} {a8 a9 a10 a11 : Value} (T : R 91 260 [.ref a0, .ref a1, .int (I a2), .int (I a3), .int (I a4), .int (I a5), .int (I a6), .int (I a7), a8, a9, a10, .int (I s0)] [] h P) : R 91 233 [.ref a0, .ref a1, .int (I a2), .int (I a3), .int (I a4), .int (I a5), .int (I a6), .int (I a7), a8, a9, a10, a11] [.int (I s0)] h P := by
  refine R_istore (Dat dd_L_ruling 112 rfl) rfl rfl ?_
  refine R_goto (Dat dd_L_ruling 113 rfl) rfl ?_
  exact T
theorem t_L_ruling_258 {h : Hp} {P : Value → Hp → Prop} {a2 a3 a4 a5 a6 a7 s0 : Int} {a0 a1 : Nat} {a8 a9 a10 a11 : Value} (T : R 91 260 [.ref a0, .ref a1, .int (I a2), .int (I a3), .int (I a4), .int (I a5), .int (I a6), .int (I a7), a8, a9, a10, .int (I s0)] [] h P) : R 91 258 [.ref a0, .ref a1, .int (I a2), .int (I a3), .int (I a4), .int (I a5), .int (I a6), .int (I a7), a8, a9, a10, a11] [.int (I s0)] h P := by
  refine R_istore (Dat dd_L_ruling 124 rfl) rfl rfl ?_
  exact T
theorem t_L_ruling_257 {h : Hp} {P : Value → Hp → Prop} {a2 a3 a4 a5 a6 a7 : Int} {a0 a1 : Nat} {a8 a9 a10 a11 : Value} (T : R 91 258 [.ref a0, .ref a1, .int (I a2), .int (I a3), .int (I a4), .int (I a5), .int (I a6), .int (I a7), a8, a9, a10, a11] [.int (I 0)] h P) : R 91 257 [.ref a0, .ref a1, .int (I a2), .int (I a3), .int (I a4), .int (I a5), .int (I a6), .int (I a7), a8, a9, a10, a11] [] h P := by
  refine R_iconst (Dat dd_L_ruling 123 rfl) ?_
  exact T
theorem t_L_ruling_260 {h : Hp} {P : Value → Hp → Prop} {a2 a3 a4 a5 a6 a7 a11 : Int} {a0 a1 : Nat} {a8 a9 a10 : Value} (T : (rng a11) ∧ ((a11 = 0 → R 91 268 [.ref a0, .ref a1, .int (I a2), .int (I a3), .int (I a4), .int (I a5), .int (I a6), .int (I a7), a8, a9, a10, .int (I a11)] [] h P) ∧ (¬ a11 = 0 → P (.int (I a7)) h))) : R 91 260 [.ref a0, .ref a1, .int (I a2), .int (I a3), .int (I a4), .int (I a5), .int (I a6), .int (I a7), a8, a9, a10, .int (I a11)] [] h P := by
  refine R_iload (Dat dd_L_ruling 125 rfl) rfl ?_
  obtain ⟨g1, T⟩ := T
  refine R_if_eq (Dat dd_L_ruling 126 rfl) rfl g1  (fun c => ?_) (fun c => ?_)
  · replace T := T.1 c
    exact T
  · replace T := T.2 c
    refine R_iload (Dat dd_L_ruling 127 rfl) rfl ?_
    exact R_ireturn (Dat dd_L_ruling 128 rfl) rfl T
theorem t_L_ruling_179 {h : Hp} {P : Value → Hp → Prop} {a2 a3 a4 a5 a6 a7 : Int} {a0 a1 : Nat} {a8 a9 a10 a11 : Value} (T : R 91 180 [.ref a0, .ref a1, .int (I a2), .int (I a3), .int (I a4), .int (I a5), .int (I a6), .int (I a7), a8, a9, a10, a11] [.int (I 0)] h P) : R 91 179 [.ref a0, .ref a1, .int (I a2), .int (I a3), .int (I a4), .int (I a5), .int (I a6), .int (I a7), a8, a9, a10, a11] [] h P := by
  refine R_iconst (Dat dd_L_ruling 83 rfl) ?_
  exact T
theorem t_L_ruling_180 {h : Hp} {P : Value → Hp → Prop} {a2 a3 a4 a5 a6 a7 s0 : Int} {a0 a1 : Nat} {a8 a9 a10 a11 : Value} (T : R 91 260 [.ref a0, .ref a1, .int (I a2), .int (I a3), .int (I a4), .int (I a5), .int (I a6), .int (I a7), a8, a9, a10, .int (I s0)] [] h P) : R 91 180 [.ref a0, .ref a1, .int (I a2), .int (I a3), .int (I a4), .int (I a5), .int (I a6), .int (I a7), a8, a9, a10, a11] [.int (I s0)] h P := by
  refine R_istore (Dat dd_L_ruling 84 rfl) rfl rfl ?_
  refine R_goto (Dat dd_L_ruling 85 rfl) rfl ?_
  exact T
def dl_L_bulk : List (Nat × Instr × Nat) := [(0, .aload_n 0, 1), (1, .iload_n 1, 1), (2, .iaload, 1), (3, .aload_n 0, 1), (4, .bipush 16, 2), (6, .iload_n 1, 1), (7, .iadd, 1), (8, .iaload, 1), (9, .ifCond .le 7, 3), (12, .iconst 1, 1), (13, .goto 4, 3), (16, .iconst 0, 1), (17, .isub, 1), (18, .ireturn, 1)]
theorem dd_L_bulk : Dall 92 dl_L_bulk = true := by decide +kernel
theorem t_L_bulk {h : Hp} {P : Value → Hp → Prop} {p1 : Int} {p0 : Nat} (T : (tg h p0 = 20 ∨ tg h p0 = 30) ∧ ((ln h p0 : Int) ≤ 2147483648) ∧ (0 ≤ p1) ∧ (p1 < ln h p0) ∧ (tg h p0 = 20 ∨ tg h p0 = 30) ∧ ((ln h p0 : Int) ≤ 2147483648) ∧ (0 ≤ (16 + p1)) ∧ ((16 + p1) < ln h p0) ∧ (rng (iv h p0 (16 + p1))) ∧ (((0 : Int) < (iv h p0 (16 + p1)) → R 92 17 [.ref p0, .int (I p1)] [.int (I 1), .int (I (iv h p0 p1))] h P) ∧ (¬ (0 : Int) < (iv h p0 (16 + p1)) → R 92 17 [.ref p0, .int (I p1)] [.int (I 0), .int (I (iv h p0 p1))] h P))) : R 92 0 [.ref p0, .int (I p1)] [] h P := by
  refine R_aload_n (Dat dd_L_bulk 0 rfl) rfl rfl ?_
  refine R_iload_n (Dat dd_L_bulk 1 rfl) rfl ?_
  obtain ⟨g1, T⟩ := T
  obtain ⟨g2, T⟩ := T
  obtain ⟨g3, T⟩ := T
  obtain ⟨g4, T⟩ := T
  refine R_iaload (Dat dd_L_bulk 2 rfl) g1 g2 g3 g4 ?_
  refine R_aload_n (Dat dd_L_bulk 3 rfl) rfl rfl ?_
  refine R_bipush (Dat dd_L_bulk 4 rfl) (a := 16) rfl ?_
  refine R_iload_n (Dat dd_L_bulk 5 rfl) rfl ?_
  refine R_iadd (Dat dd_L_bulk 6 rfl) ?_
  obtain ⟨g5, T⟩ := T
  obtain ⟨g6, T⟩ := T
  obtain ⟨g7, T⟩ := T
  obtain ⟨g8, T⟩ := T
  refine R_iaload (Dat dd_L_bulk 7 rfl) g5 g6 g7 g8 ?_
  obtain ⟨g9, T⟩ := T
  refine R_if_le (Dat dd_L_bulk 8 rfl) rfl g9  (fun c => ?_) (fun c => ?_)
  · replace T := T.1 c
    refine R_iconst (Dat dd_L_bulk 9 rfl) ?_
    refine R_goto (Dat dd_L_bulk 10 rfl) rfl ?_
    exact T
  · replace T := T.2 c
    refine R_iconst (Dat dd_L_bulk 11 rfl) ?_
    exact T
theorem t_L_bulk_17 {h : Hp} {P : Value → Hp → Prop} {s0 s1 : Int} {a0 a1 : Value} (T : P (.int (I (s1 - s0))) h) : R 92 17 [a0, a1] [.int (I s0), .int (I s1)] h P := by
  refine R_isub (Dat dd_L_bulk 12 rfl) ?_
  exact R_ireturn (Dat dd_L_bulk 13 rfl) rfl T
def dl_L_heft : List (Nat × Instr × Nat) := [(0, .aload_n 0, 1), (1, .bipush 8, 2), (3, .iload_n 1, 1), (4, .iadd, 1), (5, .iaload, 1), (6, .aload_n 0, 1), (7, .bipush 16, 2), (9, .iload_n 1, 1), (10, .iadd, 1), (11, .iaload, 1), (12, .iconst 1, 1), (13, .if_icmp .le 7, 3), (16, .iconst 2, 1), (17, .goto 4, 3), (20, .iconst 0, 1), (21, .iadd, 1), (22, .ireturn, 1)]
theorem dd_L_heft : Dall 93 dl_L_heft = true := by decide +kernel
theorem t_L_heft {h : Hp} {P : Value → Hp → Prop} {p1 : Int} {p0 : Nat} (T : (tg h p0 = 20 ∨ tg h p0 = 30) ∧ ((ln h p0 : Int) ≤ 2147483648) ∧ (0 ≤ (8 + p1)) ∧ ((8 + p1) < ln h p0) ∧ (tg h p0 = 20 ∨ tg h p0 = 30) ∧ ((ln h p0 : Int) ≤ 2147483648) ∧ (0 ≤ (16 + p1)) ∧ ((16 + p1) < ln h p0) ∧ (rng (iv h p0 (16 + p1))) ∧ (((1 : Int) < (iv h p0 (16 + p1)) → R 93 21 [.ref p0, .int (I p1)] [.int (I 2), .int (I (iv h p0 (8 + p1)))] h P) ∧ (¬ (1 : Int) < (iv h p0 (16 + p1)) → R 93 21 [.ref p0, .int (I p1)] [.int (I 0), .int (I (iv h p0 (8 + p1)))] h P))) : R 93 0 [.ref p0, .int (I p1)] [] h P := by
  refine R_aload_n (Dat dd_L_heft 0 rfl) rfl rfl ?_
  refine R_bipush (Dat dd_L_heft 1 rfl) (a := 8) rfl ?_
  refine R_iload_n (Dat dd_L_heft 2 rfl) rfl ?_
  refine R_iadd (Dat dd_L_heft 3 rfl) ?_
  obtain ⟨g1, T⟩ := T
  obtain ⟨g2, T⟩ := T
  obtain ⟨g3, T⟩ := T
  obtain ⟨g4, T⟩ := T
  refine R_iaload (Dat dd_L_heft 4 rfl) g1 g2 g3 g4 ?_
  refine R_aload_n (Dat dd_L_heft 5 rfl) rfl rfl ?_
  refine R_bipush (Dat dd_L_heft 6 rfl) (a := 16) rfl ?_
  refine R_iload_n (Dat dd_L_heft 7 rfl) rfl ?_
  refine R_iadd (Dat dd_L_heft 8 rfl) ?_
  obtain ⟨g5, T⟩ := T
  obtain ⟨g6, T⟩ := T
  obtain ⟨g7, T⟩ := T
  obtain ⟨g8, T⟩ := T
  refine R_iaload (Dat dd_L_heft 9 rfl) g5 g6 g7 g8 ?_
  refine R_iconst (Dat dd_L_heft 10 rfl) ?_
  obtain ⟨g9, T⟩ := T
  refine R_ic_le (Dat dd_L_heft 11 rfl) rfl g9 (by decide) (fun c => ?_) (fun c => ?_)
  · replace T := T.1 c
    refine R_iconst (Dat dd_L_heft 12 rfl) ?_
    refine R_goto (Dat dd_L_heft 13 rfl) rfl ?_
    exact T
  · replace T := T.2 c
    refine R_iconst (Dat dd_L_heft 14 rfl) ?_
    exact T
theorem t_L_heft_21 {h : Hp} {P : Value → Hp → Prop} {s0 s1 : Int} {a0 a1 : Value} (T : P (.int (I (s1 + s0))) h) : R 93 21 [a0, a1] [.int (I s0), .int (I s1)] h P := by
  refine R_iadd (Dat dd_L_heft 15 rfl) ?_
  exact R_ireturn (Dat dd_L_heft 16 rfl) rfl T
def dl_L_shake : List (Nat × Instr × Nat) := [(0, .iconst 0, 1), (1, .istore 5, 2), (3, .iconst 0, 1), (4, .istore 6, 2), (6, .iload 6, 2), (8, .iconst 2, 1), (9, .if_icmp .ge 99, 3), (12, .iload 6, 2), (14, .istore 7, 2), (16, .iload 7, 2), (18, .aload_n 0, 1), (19, .bipush 24, 2), (21, .iaload, 1), (22, .iconst 1, 1), (23, .isub, 1), (24, .if_icmp .ge 78, 3), (27, .aload_n 0, 1), (28, .aload_n 1, 1), (29, .iload_n 2, 1), (30, .aload_n 3, 1), (31, .iload 7, 2), (33, .iaload, 1), (34, .aload_n 3, 1), (35, .iload 7, 2), (37, .iconst 1, 1), (38, .iadd, 1), (39, .iaload, 1), (40, .iload 7, 2), (42, .iload 4, 2), (44, .invokestatic 34, 3), (47, .istore 8, 2), (49, .iload 8, 2), (51, .ifCond .lt 45, 3), (54, .aload_n 1, 1), (55, .iconst 1, 1), (56, .iconst 3, 1), (57, .iload 8, 2), (59, .imul, 1), (60, .iadd, 1), (61, .iaload, 1), (62, .iconst 3, 1), (63, .if_icmp .le 6, 3), (66, .goto 30, 3), (69, .aload_n 3, 1), (70, .iload 7, 2), (72, .iaload, 1), (73, .istore 9, 2), (75, .aload_n 3, 1), (76, .iload 7, 2), (78, .aload_n 3, 1), (79, .iload 7, 2), (81, .iconst 1, 1), (82, .iadd, 1), (83, .iaload, 1), (84, .iastore, 1), (85, .aload_n 3, 1), (86, .iload 7, 2), (88, .iconst 1, 1), (89, .iadd, 1), (90, .iload 9, 2), (92, .iastore, 1), (93, .iinc 5 1, 3), (96, .iinc 7 2, 3), (99, .goto (-83), 3), (102, .iinc 6 1, 3), (105, .goto (-99), 3), (108, .iload 5, 2), (110, .ireturn, 1)]
theorem dd_L_shake : Dall 94 dl_L_shake = true := by decide +kernel
theorem t_L_shake {h : Hp} {P : Value → Hp → Prop} {p2 p4 : Int} {p0 p1 p3 : Nat} (T : R 94 6 [.ref p0, .ref p1, .int (I p2), .ref p3, .int (I p4), .int (I 0), .int (I 0), .retAddr 0, .retAddr 0, .retAddr 0] [] h P) : R 94 0 [.ref p0, .ref p1, .int (I p2), .ref p3, .int (I p4), .retAddr 0, .retAddr 0, .retAddr 0, .retAddr 0, .retAddr 0] [] h P := by
  refine R_iconst (Dat dd_L_shake 0 rfl) ?_
  refine R_istore (Dat dd_L_shake 1 rfl) rfl rfl ?_
  refine R_iconst (Dat dd_L_shake 2 rfl) ?_
  refine R_istore (Dat dd_L_shake 3 rfl) rfl rfl ?_
  exact T
theorem t_L_shake_6 {h : Hp} {P : Value → Hp → Prop} {a2 a4 a5 a6 : Int} {a0 a1 a3 : Nat} {a7 a8 a9 : Value} (T : (rng a6) ∧ ((a6 < 2 → R 94 16 [.ref a0, .ref a1, .int (I a2), .ref a3, .int (I a4), .int (I a5), .int (I a6), .int (I a6), a8, a9] [] h P) ∧ (¬ a6 < 2 → P (.int (I a5)) h))) : R 94 6 [.ref a0, .ref a1, .int (I a2), .ref a3, .int (I a4), .int (I a5), .int (I a6), a7, a8, a9] [] h P := by
  refine R_iload (Dat dd_L_shake 4 rfl) rfl ?_
  refine R_iconst (Dat dd_L_shake 5 rfl) ?_
  obtain ⟨g1, T⟩ := T
  refine R_ic_ge (Dat dd_L_shake 6 rfl) rfl g1 (by decide) (fun c => ?_) (fun c => ?_)
  · replace T := T.1 c
    refine R_iload (Dat dd_L_shake 7 rfl) rfl ?_
    refine R_istore (Dat dd_L_shake 8 rfl) rfl rfl ?_
    exact T
  · replace T := T.2 c
    refine R_iload (Dat dd_L_shake 66 rfl) rfl ?_
    exact R_ireturn (Dat dd_L_shake 67 rfl) rfl T
theorem t_L_shake_16 {h : Hp} {P : Value → Hp → Prop} {a2 a4 a5 a6 a7 : Int} {a0 a1 a3 : Nat} {a8 a9 : Value} (T : (tg h a0 = 20 ∨ tg h a0 = 30) ∧ ((ln h a0 : Int) ≤ 2147483648) ∧ ((24 : Int) < ln h a0) ∧ (rng a7) ∧ (rng ((iv h a0 24) - 1)) ∧ ((a7 < ((iv h a0 24) - 1) → (tg h a3 = 20 ∨ tg h a3 = 30) ∧ ((ln h a3 : Int) ≤ 2147483648) ∧ (0 ≤ a7) ∧ (a7 < ln h a3) ∧ (tg h a3 = 20 ∨ tg h a3 = 30) ∧ ((ln h a3 : Int) ≤ 2147483648) ∧ (0 ≤ (a7 + 1)) ∧ ((a7 + 1) < ln h a3) ∧ R 91 0 [.ref a0, .ref a1, .int (I a2), .int (I (iv h a3 a7)), .int (I (iv h a3 (a7 + 1))), .int (I a7), .int (I a4), .retAddr 0, .retAddr 0, .retAddr 0, .retAddr 0, .retAddr 0] [] h (fun v h2 => R 94 47 [.ref a0, .ref a1, .int (I a2), .ref a3, .int (I a4), .int (I a5), .int (I a6), .int (I a7), a8, a9] (v :: []) h2 P)) ∧ (¬ a7 < ((iv h a0 24) - 1) → R 94 6 [.ref a0, .ref a1, .int (I a2), .ref a3, .int (I a4), .int (I a5), .int (I (a6 + 1)), .int (I a7), a8, a9] [] h P))) : R 94 16 [.ref a0, .ref a1, .int (I a2), .ref a3, .int (I a4), .int (I a5), .int (I a6), .int (I a7), a8, a9] [] h P := by
  refine R_iload (Dat dd_L_shake 9 rfl) rfl ?_
  refine R_aload_n (Dat dd_L_shake 10 rfl) rfl rfl ?_
  refine R_bipush (Dat dd_L_shake 11 rfl) (a := 24) rfl ?_
  obtain ⟨g1, T⟩ := T
  obtain ⟨g2, T⟩ := T
  obtain ⟨g3, T⟩ := T
  refine R_iaload (Dat dd_L_shake 12 rfl) g1 g2 (by decide) g3 ?_
  refine R_iconst (Dat dd_L_shake 13 rfl) ?_
  refine R_isub (Dat dd_L_shake 14 rfl) ?_
  obtain ⟨g4, T⟩ := T
  obtain ⟨g5, T⟩ := T
  refine R_ic_ge (Dat dd_L_shake 15 rfl) rfl g4 g5 (fun c => ?_) (fun c => ?_)
  · replace T := T.1 c
    refine R_aload_n (Dat dd_L_shake 16 rfl) rfl rfl ?_
    refine R_aload_n (Dat dd_L_shake 17 rfl) rfl rfl ?_
    refine R_iload_n (Dat dd_L_shake 18 rfl) rfl ?_
    refine R_aload_n (Dat dd_L_shake 19 rfl) rfl rfl ?_
    refine R_iload (Dat dd_L_shake 20 rfl) rfl ?_
    obtain ⟨g6, T⟩ := T
    obtain ⟨g7, T⟩ := T
    obtain ⟨g8, T⟩ := T
    obtain ⟨g9, T⟩ := T
    refine R_iaload (Dat dd_L_shake 21 rfl) g6 g7 g8 g9 ?_
    refine R_aload_n (Dat dd_L_shake 22 rfl) rfl rfl ?_
    refine R_iload (Dat dd_L_shake 23 rfl) rfl ?_
    refine R_iconst (Dat dd_L_shake 24 rfl) ?_
    refine R_iadd (Dat dd_L_shake 25 rfl) ?_
    obtain ⟨g10, T⟩ := T
    obtain ⟨g11, T⟩ := T
    obtain ⟨g12, T⟩ := T
    obtain ⟨g13, T⟩ := T
    refine R_iaload (Dat dd_L_shake 26 rfl) g10 g11 g12 g13 ?_
    refine R_iload (Dat dd_L_shake 27 rfl) rfl ?_
    refine R_iload (Dat dd_L_shake 28 rfl) rfl ?_
    exact R_call0 (Dat dd_L_shake 29 rfl) rfl rfl rfl rfl rfl rfl T
  · replace T := T.2 c
    refine R_iinc (Dat dd_L_shake 64 rfl) rfl rfl rfl ?_
    refine R_goto (Dat dd_L_shake 65 rfl) rfl ?_
    exact T
theorem t_L_shake_47 {h : Hp} {P : Value → Hp → Prop} {a2 a4 a5 a6 a7 s0 : Int} {a0 a1 a3 : Nat} {a8 a9 : Value} (T : (rng s0) ∧ ((s0 < 0 → R 94 96 [.ref a0, .ref a1, .int (I a2), .ref a3, .int (I a4), .int (I a5), .int (I a6), .int (I a7), .int (I s0), a9] [] h P) ∧ (¬ s0 < 0 → (tg h a1 = 20 ∨ tg h a1 = 30) ∧ ((ln h a1 : Int) ≤ 2147483648) ∧ (0 ≤ (1 + (3 * s0))) ∧ ((1 + (3 * s0)) < ln h a1) ∧ (rng (iv h a1 (1 + (3 * s0)))) ∧ (((3 : Int) < (iv h a1 (1 + (3 * s0))) → R 94 96 [.ref a0, .ref a1, .int (I a2), .ref a3, .int (I a4), .int (I a5), .int (I a6), .int (I a7), .int (I s0), a9] [] h P) ∧ (¬ (3 : Int) < (iv h a1 (1 + (3 * s0))) → (tg h a3 = 20 ∨ tg h a3 = 30) ∧ ((ln h a3 : Int) ≤ 2147483648) ∧ (0 ≤ a7) ∧ (a7 < ln h a3) ∧ (tg h a3 = 20 ∨ tg h a3 = 30) ∧ ((ln h a3 : Int) ≤ 2147483648) ∧ (0 ≤ (a7 + 1)) ∧ ((a7 + 1) < ln h a3) ∧ (tg h a3 = 20) ∧ ((ln h a3 : Int) ≤ 2147483648) ∧ (0 ≤ a7) ∧ (a7 < ln h a3) ∧ (tg (setI h a3 a7 (wr (iv h a3 (a7 + 1)))) a3 = 20) ∧ ((ln (setI h a3 a7 (wr (iv h a3 (a7 + 1)))) a3 : Int) ≤ 2147483648) ∧ (0 ≤ (a7 + 1)) ∧ ((a7 + 1) < ln (setI h a3 a7 (wr (iv h a3 (a7 + 1)))) a3) ∧ R 94 96 [.ref a0, .ref a1, .int (I a2), .ref a3, .int (I a4), .int (I (a5 + 1)), .int (I a6), .int (I a7), .int (I s0), .int (I (iv h a3 a7))] [] (setI (setI h a3 a7 (wr (iv h a3 (a7 + 1)))) a3 (a7 + 1) (wr (iv h a3 a7))) P))))) : R 94 47 [.ref a0, .ref a1, .int (I a2), .ref a3, .int (I a4), .int (I a5), .int (I a6), .int (I a7), a8, a9] [.int (I s0)] h P := by
  refine R_istore (Dat dd_L_shake 30 rfl) rfl rfl ?_
  refine R_iload (Dat dd_L_shake 31 rfl) rfl ?_
  obtain ⟨g1, T⟩ := T
  refine R_if_lt (Dat dd_L_shake 32 rfl) rfl g1  (fun c => ?_) (fun c => ?_)
  · replace T := T.1 c
    exact T
  · replace T := T.2 c
    refine R_aload_n (Dat dd_L_shake 33 rfl) rfl rfl ?_
    refine R_iconst (Dat dd_L_shake 34 rfl) ?_
    refine R_iconst (Dat dd_L_shake 35 rfl) ?_
    refine R_iload (Dat dd_L_shake 36 rfl) rfl ?_
    refine R_imul (Dat dd_L_shake 37 rfl) ?_
    refine R_iadd (Dat dd_L_shake 38 rfl) ?_
    obtain ⟨g2, T⟩ := T
    obtain ⟨g3, T⟩ := T
    obtain ⟨g4, T⟩ := T
    obtain ⟨g5, T⟩ := T
    refine R_iaload (Dat dd_L_shake 39 rfl) g2 g3 g4 g5 ?_
    refine R_iconst (Dat dd_L_shake 40 rfl) ?_
    obtain ⟨g6, T⟩ := T
    refine R_ic_le (Dat dd_L_shake 41 rfl) rfl g6 (by decide) (fun c => ?_) (fun c => ?_)
    · replace T := T.1 c
      refine R_goto (Dat dd_L_shake 42 rfl) rfl ?_
      exact T
    · replace T := T.2 c
      refine R_aload_n (Dat dd_L_shake 43 rfl) rfl rfl ?_
      refine R_iload (Dat dd_L_shake 44 rfl) rfl ?_
      obtain ⟨g7, T⟩ := T
      obtain ⟨g8, T⟩ := T
      obtain ⟨g9, T⟩ := T
      obtain ⟨g10, T⟩ := T
      refine R_iaload (Dat dd_L_shake 45 rfl) g7 g8 g9 g10 ?_
      refine R_istore (Dat dd_L_shake 46 rfl) rfl rfl ?_
      refine R_aload_n (Dat dd_L_shake 47 rfl) rfl rfl ?_
      refine R_iload (Dat dd_L_shake 48 rfl) rfl ?_
      refine R_aload_n (Dat dd_L_shake 49 rfl) rfl rfl ?_
      refine R_iload (Dat dd_L_shake 50 rfl) rfl ?_
      refine R_iconst (Dat dd_L_shake 51 rfl) ?_
      refine R_iadd (Dat dd_L_shake 52 rfl) ?_
      obtain ⟨g11, T⟩ := T
      obtain ⟨g12, T⟩ := T
      obtain ⟨g13, T⟩ := T
      obtain ⟨g14, T⟩ := T
      refine R_iaload (Dat dd_L_shake 53 rfl) g11 g12 g13 g14 ?_
      obtain ⟨g15, T⟩ := T
      obtain ⟨g16, T⟩ := T
      obtain ⟨g17, T⟩ := T
      obtain ⟨g18, T⟩ := T
      refine R_iastore (Dat dd_L_shake 54 rfl) g15 g16 g17 g18 (v := wr (iv h a3 (a7 + 1))) rfl ?_
      refine R_aload_n (Dat dd_L_shake 55 rfl) rfl rfl ?_
      refine R_iload (Dat dd_L_shake 56 rfl) rfl ?_
      refine R_iconst (Dat dd_L_shake 57 rfl) ?_
      refine R_iadd (Dat dd_L_shake 58 rfl) ?_
      refine R_iload (Dat dd_L_shake 59 rfl) rfl ?_
      obtain ⟨g19, T⟩ := T
      obtain ⟨g20, T⟩ := T
      obtain ⟨g21, T⟩ := T
      obtain ⟨g22, T⟩ := T
      refine R_iastore (Dat dd_L_shake 60 rfl) g19 g20 g21 g22 (v := wr (iv h a3 a7)) rfl ?_
      refine R_iinc (Dat dd_L_shake 61 rfl) rfl rfl rfl ?_
      exact T
theorem t_L_shake_96 {h : Hp} {P : Value → Hp → Prop} {a2 a4 a5 a6 a7 : Int} {a0 a1 a3 : Nat} {a8 a9 : Value} (T : R 94 16 [.ref a0, .ref a1, .int (I a2), .ref a3, .int (I a4), .int (I a5), .int (I a6), .int (I (a7 + 2)), a8, a9] [] h P) : R 94 96 [.ref a0, .ref a1, .int (I a2), .ref a3, .int (I a4), .int (I a5), .int (I a6), .int (I a7), a8, a9] [] h P := by
  refine R_iinc (Dat dd_L_shake 62 rfl) rfl rfl rfl ?_
  refine R_goto (Dat dd_L_shake 63 rfl) rfl ?_
  exact T
def dl_L_number : List (Nat × Instr × Nat) := [(0, .iconst 0, 1), (1, .istore_n 2, 1), (2, .iconst 1, 1), (3, .istore_n 3, 1), (4, .aload_n 0, 1), (5, .bipush 24, 2), (7, .iaload, 1), (8, .iconst 1, 1), (9, .isub, 1), (10, .istore 4, 2), (12, .iload 4, 2), (14, .ifCond .lt 71, 3), (17, .iconst 0, 1), (18, .istore 5, 2), (20, .iload 4, 2), (22, .iconst 1, 1), (23, .iadd, 1), (24, .istore 6, 2), (26, .iload 6, 2), (28, .aload_n 0, 1), (29, .bipush 24, 2), (31, .iaload, 1), (32, .if_icmp .ge 30, 3), (35, .iload 5, 2), (37, .aload_n 1, 1), (38, .iload 6, 2), (40, .iaload, 1), (41, .aload_n 1, 1), (42, .iload 4, 2), (44, .iaload, 1), (45, .if_icmp .ge 7, 3), (48, .iconst 1, 1), (49, .goto 4, 3), (52, .iconst 0, 1), (53, .iadd, 1), (54, .istore 5, 2), (56, .iinc 6 1, 3), (59, .goto (-33), 3), (62, .iload_n 2, 1), (63, .iload 5, 2), (65, .iload_n 3, 1), (66, .imul, 1), (67, .iadd, 1), (68, .istore_n 2, 1), (69, .iload_n 3, 1), (70, .aload_n 0, 1), (71, .bipush 24, 2), (73, .iaload, 1), (74, .iload 4, 2), (76, .isub, 1), (77, .imul, 1), (78, .istore_n 3, 1), (79, .iinc 4 (-1), 3), (82, .goto (-70), 3), (85, .iload_n 2, 1), (86, .ireturn, 1)]
theorem dd_L_number : Dall 95 dl_L_number = true := by decide +kernel
theorem t_L_number {h : Hp} {P : Value → Hp → Prop} {p0 p1 : Nat} (T : (tg h p0 = 20 ∨ tg h p0 = 30) ∧ ((ln h p0 : Int) ≤ 2147483648) ∧ ((24 : Int) < ln h p0) ∧ R 95 12 [.ref p0, .ref p1, .int (I 0), .int (I 1), .int (I ((iv h p0 24) - 1)), .retAddr 0, .retAddr 0] [] h P) : R 95 0 [.ref p0, .ref p1, .retAddr 0, .retAddr 0, .retAddr 0, .retAddr 0, .retAddr 0] [] h P := by
  refine R_iconst (Dat dd_L_number 0 rfl) ?_
  refine R_istore_n (Dat dd_L_number 1 rfl) rfl rfl ?_
  refine R_iconst (Dat dd_L_number 2 rfl) ?_
  refine R_istore_n (Dat dd_L_number 3 rfl) rfl rfl ?_
  refine R_aload_n (Dat dd_L_number 4 rfl) rfl rfl ?_
  refine R_bipush (Dat dd_L_number 5 rfl) (a := 24) rfl ?_
  obtain ⟨g1, T⟩ := T
  obtain ⟨g2, T⟩ := T
  obtain ⟨g3, T⟩ := T
  refine R_iaload (Dat dd_L_number 6 rfl) g1 g2 (by decide) g3 ?_
  refine R_iconst (Dat dd_L_number 7 rfl) ?_
  refine R_isub (Dat dd_L_number 8 rfl) ?_
  refine R_istore (Dat dd_L_number 9 rfl) rfl rfl ?_
  exact T
theorem t_L_number_12 {h : Hp} {P : Value → Hp → Prop} {a2 a3 a4 : Int} {a0 a1 : Nat} {a5 a6 : Value} (T : (rng a4) ∧ ((a4 < 0 → P (.int (I a2)) h) ∧ (¬ a4 < 0 → R 95 26 [.ref a0, .ref a1, .int (I a2), .int (I a3), .int (I a4), .int (I 0), .int (I (a4 + 1))] [] h P))) : R 95 12 [.ref a0, .ref a1, .int (I a2), .int (I a3), .int (I a4), a5, a6] [] h P := by
  refine R_iload (Dat dd_L_number 10 rfl) rfl ?_
  obtain ⟨g1, T⟩ := T
  refine R_if_lt (Dat dd_L_number 11 rfl) rfl g1  (fun c => ?_) (fun c => ?_)
  · replace T := T.1 c
    refine R_iload_n (Dat dd_L_number 54 rfl) rfl ?_
    exact R_ireturn (Dat dd_L_number 55 rfl) rfl T
  · replace T := T.2 c
    refine R_iconst (Dat dd_L_number 12 rfl) ?_
    refine R_istore (Dat dd_L_number 13 rfl) rfl rfl ?_
    refine R_iload (Dat dd_L_number 14 rfl) rfl ?_
    refine R_iconst (Dat dd_L_number 15 rfl) ?_
    refine R_iadd (Dat dd_L_number 16 rfl) ?_
    refine R_istore (Dat dd_L_number 17 rfl) rfl rfl ?_
    exact T
theorem t_L_number_26 {h : Hp} {P : Value → Hp → Prop} {a2 a3 a4 a5 a6 : Int} {a0 a1 : Nat} (T : (tg h a0 = 20 ∨ tg h a0 = 30) ∧ ((ln h a0 : Int) ≤ 2147483648) ∧ ((24 : Int) < ln h a0) ∧ (rng a6) ∧ (rng (iv h a0 24)) ∧ ((a6 < (iv h a0 24) → (tg h a1 = 20 ∨ tg h a1 = 30) ∧ ((ln h a1 : Int) ≤ 2147483648) ∧ (0 ≤ a6) ∧ (a6 < ln h a1) ∧ (tg h a1 = 20 ∨ tg h a1 = 30) ∧ ((ln h a1 : Int) ≤ 2147483648) ∧ (0 ≤ a4) ∧ (a4 < ln h a1) ∧ (rng (iv h a1 a6)) ∧ (rng (iv h a1 a4)) ∧ (((iv h a1 a6) < (iv h a1 a4) → R 95 53 [.ref a0, .ref a1, .int (I a2), .int (I a3), .int (I a4), .int (I a5), .int (I a6)] [.int (I 1), .int (I a5)] h P) ∧ (¬ (iv h a1 a6) < (iv h a1 a4) → R 95 53 [.ref a0, .ref a1, .int (I a2), .int (I a3), .int (I a4), .int (I a5), .int (I a6)] [.int (I 0), .int (I a5)] h P))) ∧ (¬ a6 < (iv h a0 24) → (tg h a0 = 20 ∨ tg h a0 = 30) ∧ ((ln h a0 : Int) ≤ 2147483648) ∧ ((24 : Int) < ln h a0) ∧ R 95 12 [.ref a0, .ref a1, .int (I (a2 + (a5 * a3))), .int (I (a3 * ((iv h a0 24) - a4))), .int (I (a4 + (-1))), .int (I a5), .int (I a6)] [] h P))) : R 95 26 [.ref a0, .ref a1, .int (I a2), .int (I a3), .int (I a4), .int (I a5), .int (I a6)] [] h P := by
  refine R_iload (Dat dd_L_number 18 rfl) rfl ?_
  refine R_aload_n (Dat dd_L_number 19 rfl) rfl rfl ?_
  refine R_bipush (Dat dd_L_number 20 rfl) (a := 24) rfl ?_
  obtain ⟨g1, T⟩ := T
  obtain ⟨g2, T⟩ := T
  obtain ⟨g3, T⟩ := T
  refine R_iaload (Dat dd_L_number 21 rfl) g1 g2 (by decide) g3 ?_
  obtain ⟨g4, T⟩ := T
  obtain ⟨g5, T⟩ := T
  refine R_ic_ge (Dat dd_L_number 22 rfl) rfl g4 g5 (fun c => ?_) (fun c => ?_)
  · replace T := T.1 c
    refine R_iload (Dat dd_L_number 23 rfl) rfl ?_
    refine R_aload_n (Dat dd_L_number 24 rfl) rfl rfl ?_
    refine R_iload (Dat dd_L_number 25 rfl) rfl ?_
    obtain ⟨g6, T⟩ := T
    obtain ⟨g7, T⟩ := T
    obtain ⟨g8, T⟩ := T
    obtain ⟨g9, T⟩ := T
    refine R_iaload (Dat dd_L_number 26 rfl) g6 g7 g8 g9 ?_
    refine R_aload_n (Dat dd_L_number 27 rfl) rfl rfl ?_
    refine R_iload (Dat dd_L_number 28 rfl) rfl ?_
    obtain ⟨g10, T⟩ := T
    obtain ⟨g11, T⟩ := T
    obtain ⟨g12, T⟩ := T
    obtain ⟨g13, T⟩ := T
    refine R_iaload (Dat dd_L_number 29 rfl) g10 g11 g12 g13 ?_
    obtain ⟨g14, T⟩ := T
    obtain ⟨g15, T⟩ := T
    refine R_ic_ge (Dat dd_L_number 30 rfl) rfl g14 g15 (fun c => ?_) (fun c => ?_)
    · replace T := T.1 c
      refine R_iconst (Dat dd_L_number 31 rfl) ?_
      refine R_goto (Dat dd_L_number 32 rfl) rfl ?_
      exact T
    · replace T := T.2 c
      refine R_iconst (Dat dd_L_number 33 rfl) ?_
      exact T
  · replace T := T.2 c
    refine R_iload_n (Dat dd_L_number 38 rfl) rfl ?_
    refine R_iload (Dat dd_L_number 39 rfl) rfl ?_
    refine R_iload_n (Dat dd_L_number 40 rfl) rfl ?_
    refine R_imul (Dat dd_L_number 41 rfl) ?_
    refine R_iadd (Dat dd_L_number 42 rfl) ?_
    refine R_istore_n (Dat dd_L_number 43 rfl) rfl rfl ?_
    refine R_iload_n (Dat dd_L_number 44 rfl) rfl ?_
    refine R_aload_n (Dat dd_L_number 45 rfl) rfl rfl ?_
    refine R_bipush (Dat dd_L_number 46 rfl) (a := 24) rfl ?_
    obtain ⟨g16, T⟩ := T
    obtain ⟨g17, T⟩ := T
    obtain ⟨g18, T⟩ := T
    refine R_iaload (Dat dd_L_number 47 rfl) g16 g17 (by decide) g18 ?_
    refine R_iload (Dat dd_L_number 48 rfl) rfl ?_
    refine R_isub (Dat dd_L_number 49 rfl) ?_
    refine R_imul (Dat dd_L_number 50 rfl) ?_
    refine R_istore_n (Dat dd_L_number 51 rfl) rfl rfl ?_
    refine R_iinc (Dat dd_L_number 52 rfl) rfl rfl rfl ?_
    refine R_goto (Dat dd_L_number 53 rfl) rfl ?_
    exact T
theorem t_L_number_53 {h : Hp} {P : Value → Hp → Prop} {a2 a3 a4 a6 s0 s1 : Int} {a0 a1 : Nat} {a5 : Value} (T : R 95 26 [.ref a0, .ref a1, .int (I a2), .int (I a3), .int (I a4), .int (I (s1 + s0)), .int (I (a6 + 1))] [] h P) : R 95 53 [.ref a0, .ref a1, .int (I a2), .int (I a3), .int (I a4), a5, .int (I a6)] [.int (I s0), .int (I s1)] h P := by
  refine R_iadd (Dat dd_L_number 34 rfl) ?_
  refine R_istore (Dat dd_L_number 35 rfl) rfl rfl ?_
  refine R_iinc (Dat dd_L_number 36 rfl) rfl rfl rfl ?_
  refine R_goto (Dat dd_L_number 37 rfl) rfl ?_
  exact T
def dl_L_open : List (Nat × Instr × Nat) := [(0, .iconst 1, 1), (1, .istore_n 3, 1), (2, .iconst 2, 1), (3, .istore 4, 2), (5, .iload 4, 2), (7, .aload_n 0, 1), (8, .bipush 24, 2), (10, .iaload, 1), (11, .if_icmp .gt 14, 3), (14, .iload_n 3, 1), (15, .iload 4, 2), (17, .imul, 1), (18, .istore_n 3, 1), (19, .iinc 4 1, 3), (22, .goto (-17), 3), (25, .iload_n 1, 1), (26, .istore 4, 2), (28, .iconst 0, 1), (29, .istore 5, 2), (31, .iconst 0, 1), (32, .istore 6, 2), (34, .iload 6, 2), (36, .aload_n 0, 1), (37, .bipush 24, 2), (39, .iaload, 1), (40, .if_icmp .ge 81, 3), (43, .iload_n 3, 1), (44, .aload_n 0, 1), (45, .bipush 24, 2), (47, .iaload, 1), (48, .iload 6, 2), (50, .isub, 1), (51, .idiv, 1), (52, .istore_n 3, 1), (53, .iconst 0, 1), (54, .istore 7, 2), (56, .iload 7, 2), (58, .aload_n 0, 1), (59, .bipush 24, 2), (61, .iaload, 1), (62, .if_icmp .ge 53, 3), (65, .iload 5, 2), (67, .iload 7, 2), (69, .ishr, 1), (70, .iconst 1, 1), (71, .iand, 1), (72, .iconst 1, 1), (73, .if_icmp .ne 6, 3), (76, .goto 33, 3), (79, .iload 4, 2), (81, .iload_n 3, 1), (82, .if_icmp .ge 21, 3), (85, .aload_n 2, 1), (86, .iload 6, 2), (88, .iload 7, 2), (90, .iastore, 1), (91, .iload 5, 2), (93, .iconst 1, 1), (94, .iload 7, 2), (96, .ishl, 1), (97, .ior, 1), (98, .istore 5, 2), (100, .goto 15, 3), (103, .iload 4, 2), (105, .iload_n 3, 1), (106, .isub, 1), (107, .istore 4, 2), (109, .iinc 7 1, 3), (112, .goto (-56), 3), (115, .iinc 6 1, 3), (118, .goto (-84), 3), (121, .return_, 1)]
theorem dd_L_open : Dall 96 dl_L_open = true := by decide +kernel
theorem t_L_open {h : Hp} {P : Value → Hp → Prop} {p1 : Int} {p0 p2 : Nat} (T : R 96 5 [.ref p0, .int (I p1), .ref p2, .int (I 1), .int (I 2), .retAddr 0, .retAddr 0, .retAddr 0] [] h P) : R 96 0 [.ref p0, .int (I p1), .ref p2, .retAddr 0, .retAddr 0, .retAddr 0, .retAddr 0, .retAddr 0] [] h P := by
  refine R_iconst (Dat dd_L_open 0 rfl) ?_
  refine R_istore_n (Dat dd_L_open 1 rfl) rfl rfl ?_
  refine R_iconst (Dat dd_L_open 2 rfl) ?_
  refine R_istore (Dat dd_L_open 3 rfl) rfl rfl ?_
  exact T
theorem t_L_open_5 {h : Hp} {P : Value → Hp → Prop} {a1 a3 a4 : Int} {a0 a2 : Nat} {a5 a6 a7 : Value} (T : (tg h a0 = 20 ∨ tg h a0 = 30) ∧ ((ln h a0 : Int) ≤ 2147483648) ∧ ((24 : Int) < ln h a0) ∧ (rng a4) ∧ (rng (iv h a0 24)) ∧ (((iv h a0 24) < a4 → R 96 34 [.ref a0, .int (I a1), .ref a2, .int (I a3), .int (I a1), .int (I 0), .int (I 0), a7] [] h P) ∧ (¬ (iv h a0 24) < a4 → R 96 5 [.ref a0, .int (I a1), .ref a2, .int (I (a3 * a4)), .int (I (a4 + 1)), a5, a6, a7] [] h P))) : R 96 5 [.ref a0, .int (I a1), .ref a2, .int (I a3), .int (I a4), a5, a6, a7] [] h P := by
  refine R_iload (Dat dd_L_open 4 rfl) rfl ?_
  refine R_aload_n (Dat dd_L_open 5 rfl) rfl rfl ?_
  refine R_bipush (Dat dd_L_open 6 rfl) (a := 24) rfl ?_
  obtain ⟨g1, T⟩ := T
  obtain ⟨g2, T⟩ := T
  obtain ⟨g3, T⟩ := T
  refine R_iaload (Dat dd_L_open 7 rfl) g1 g2 (by decide) g3 ?_
  obtain ⟨g4, T⟩ := T
  obtain ⟨g5, T⟩ := T
  refine R_ic_gt (Dat dd_L_open 8 rfl) rfl g4 g5 (fun c => ?_) (fun c => ?_)
  · replace T := T.1 c
    refine R_iload_n (Dat dd_L_open 15 rfl) rfl ?_
    refine R_istore (Dat dd_L_open 16 rfl) rfl rfl ?_
    refine R_iconst (Dat dd_L_open 17 rfl) ?_
    refine R_istore (Dat dd_L_open 18 rfl) rfl rfl ?_
    refine R_iconst (Dat dd_L_open 19 rfl) ?_
    refine R_istore (Dat dd_L_open 20 rfl) rfl rfl ?_
    exact T
  · replace T := T.2 c
    refine R_iload_n (Dat dd_L_open 9 rfl) rfl ?_
    refine R_iload (Dat dd_L_open 10 rfl) rfl ?_
    refine R_imul (Dat dd_L_open 11 rfl) ?_
    refine R_istore_n (Dat dd_L_open 12 rfl) rfl rfl ?_
    refine R_iinc (Dat dd_L_open 13 rfl) rfl rfl rfl ?_
    refine R_goto (Dat dd_L_open 14 rfl) rfl ?_
    exact T
theorem t_L_open_34 {h : Hp} {P : Value → Hp → Prop} {a3 a4 a5 a6 : Int} {a0 a2 : Nat} {a1 a7 : Value} (T : (tg h a0 = 20 ∨ tg h a0 = 30) ∧ ((ln h a0 : Int) ≤ 2147483648) ∧ ((24 : Int) < ln h a0) ∧ (rng a6) ∧ (rng (iv h a0 24)) ∧ ((a6 < (iv h a0 24) → (tg h a0 = 20 ∨ tg h a0 = 30) ∧ ((ln h a0 : Int) ≤ 2147483648) ∧ ((24 : Int) < ln h a0) ∧ (0 ≤ a3 ∧ a3 < 2147483648) ∧ (0 < ((iv h a0 24) - a6) ∧ ((iv h a0 24) - a6) < 2147483648) ∧ R 96 56 [.ref a0, a1, .ref a2, .int (I (a3 / ((iv h a0 24) - a6))), .int (I a4), .int (I a5), .int (I a6), .int (I 0)] [] h P) ∧ (¬ a6 < (iv h a0 24) → P .null h))) : R 96 34 [.ref a0, a1, .ref a2, .int (I a3), .int (I a4), .int (I a5), .int (I a6), a7] [] h P := by
  refine R_iload (Dat dd_L_open 21 rfl) rfl ?_
  refine R_aload_n (Dat dd_L_open 22 rfl) rfl rfl ?_
  refine R_bipush (Dat dd_L_open 23 rfl) (a := 24) rfl ?_
  obtain ⟨g1, T⟩ := T
  obtain ⟨g2, T⟩ := T
  obtain ⟨g3, T⟩ := T
  refine R_iaload (Dat dd_L_open 24 rfl) g1 g2 (by decide) g3 ?_
  obtain ⟨g4, T⟩ := T
  obtain ⟨g5, T⟩ := T
  refine R_ic_ge (Dat dd_L_open 25 rfl) rfl g4 g5 (fun c => ?_) (fun c => ?_)
  · replace T := T.1 c
    refine R_iload_n (Dat dd_L_open 26 rfl) rfl ?_
    refine R_aload_n (Dat dd_L_open 27 rfl) rfl rfl ?_
    refine R_bipush (Dat dd_L_open 28 rfl) (a := 24) rfl ?_
    obtain ⟨g6, T⟩ := T
    obtain ⟨g7, T⟩ := T
    obtain ⟨g8, T⟩ := T
    refine R_iaload (Dat dd_L_open 29 rfl) g6 g7 (by decide) g8 ?_
    refine R_iload (Dat dd_L_open 30 rfl) rfl ?_
    refine R_isub (Dat dd_L_open 31 rfl) ?_
    obtain ⟨g9, T⟩ := T
    obtain ⟨g10, T⟩ := T
    refine R_idiv (Dat dd_L_open 32 rfl) g9 g10 ?_
    refine R_istore_n (Dat dd_L_open 33 rfl) rfl rfl ?_
    refine R_iconst (Dat dd_L_open 34 rfl) ?_
    refine R_istore (Dat dd_L_open 35 rfl) rfl rfl ?_
    exact T
  · replace T := T.2 c
    exact R_return (Dat dd_L_open 71 rfl) rfl T
theorem t_L_open_56 {h : Hp} {P : Value → Hp → Prop} {a3 a4 a5 a6 a7 : Int} {a0 a2 : Nat} {a1 : Value} (T : (tg h a0 = 20 ∨ tg h a0 = 30) ∧ ((ln h a0 : Int) ≤ 2147483648) ∧ ((24 : Int) < ln h a0) ∧ (rng a7) ∧ (rng (iv h a0 24)) ∧ ((a7 < (iv h a0 24) → (rng (band (shr a5 a7) 1)) ∧ (((band (shr a5 a7) 1) = 1 → R 96 109 [.ref a0, a1, .ref a2, .int (I a3), .int (I a4), .int (I a5), .int (I a6), .int (I a7)] [] h P) ∧ (¬ (band (shr a5 a7) 1) = 1 → (rng a4) ∧ (rng a3) ∧ ((a4 < a3 → (tg h a2 = 20) ∧ ((ln h a2 : Int) ≤ 2147483648) ∧ (0 ≤ a6) ∧ (a6 < ln h a2) ∧ R 96 115 [.ref a0, a1, .ref a2, .int (I a3), .int (I a4), .int (I (bor a5 (shl 1 a7))), .int (I a6), .int (I a7)] [] (setI h a2 a6 (wr a7)) P) ∧ (¬ a4 < a3 → R 96 109 [.ref a0, a1, .ref a2, .int (I a3), .int (I (a4 - a3)), .int (I a5), .int (I a6), .int (I a7)] [] h P))))) ∧ (¬ a7 < (iv h a0 24) → R 96 115 [.ref a0, a1, .ref a2, .int (I a3), .int (I a4), .int (I a5), .int (I a6), .int (I a7)] [] h P))) : R 96 56 [.ref a0, a1, .ref a2, .int (I a3), .int (I a4), .int (I a5), .int (I a6), .int (I a7)] [] h P := by
  refine R_iload (Dat dd_L_open 36 rfl) rfl ?_
  refine R_aload_n (Dat dd_L_open 37 rfl) rfl rfl ?_
  refine R_bipush (Dat dd_L_open 38 rfl) (a := 24) rfl ?_
  obtain ⟨g1, T⟩ := T
  obtain ⟨g2, T⟩ := T
  obtain ⟨g3, T⟩ := T
  refine R_iaload (Dat dd_L_open 39 rfl) g1 g2 (by decide) g3 ?_
  obtain ⟨g4, T⟩ := T
  obtain ⟨g5, T⟩ := T
  refine R_ic_ge (Dat dd_L_open 40 rfl) rfl g4 g5 (fun c => ?_) (fun c => ?_)
  · replace T := T.1 c
    refine R_iload (Dat dd_L_open 41 rfl) rfl ?_
    refine R_iload (Dat dd_L_open 42 rfl) rfl ?_
    refine R_ishr (Dat dd_L_open 43 rfl) ?_
    refine R_iconst (Dat dd_L_open 44 rfl) ?_
    refine R_iand (Dat dd_L_open 45 rfl) ?_
    refine R_iconst (Dat dd_L_open 46 rfl) ?_
    obtain ⟨g6, T⟩ := T
    refine R_ic_ne (Dat dd_L_open 47 rfl) rfl g6 (by decide) (fun c => ?_) (fun c => ?_)
    · replace T := T.1 c
      refine R_goto (Dat dd_L_open 48 rfl) rfl ?_
      exact T
    · replace T := T.2 c
      refine R_iload (Dat dd_L_open 49 rfl) rfl ?_
      refine R_iload_n (Dat dd_L_open 50 rfl) rfl ?_
      obtain ⟨g7, T⟩ := T
      obtain ⟨g8, T⟩ := T
      refine R_ic_ge (Dat dd_L_open 51 rfl) rfl g7 g8 (fun c => ?_) (fun c => ?_)
      · replace T := T.1 c
        refine R_aload_n (Dat dd_L_open 52 rfl) rfl rfl ?_
        refine R_iload (Dat dd_L_open 53 rfl) rfl ?_
        refine R_iload (Dat dd_L_open 54 rfl) rfl ?_
        obtain ⟨g9, T⟩ := T
        obtain ⟨g10, T⟩ := T
        obtain ⟨g11, T⟩ := T
        obtain ⟨g12, T⟩ := T
        refine R_iastore (Dat dd_L_open 55 rfl) g9 g10 g11 g12 (v := wr a7) rfl ?_
        refine R_iload (Dat dd_L_open 56 rfl) rfl ?_
        refine R_iconst (Dat dd_L_open 57 rfl) ?_
        refine R_iload (Dat dd_L_open 58 rfl) rfl ?_
        refine R_ishl (Dat dd_L_open 59 rfl) ?_
        refine R_ior (Dat dd_L_open 60 rfl) ?_
        refine R_istore (Dat dd_L_open 61 rfl) rfl rfl ?_
        refine R_goto (Dat dd_L_open 62 rfl) rfl ?_
        exact T
      · replace T := T.2 c
        refine R_iload (Dat dd_L_open 63 rfl) rfl ?_
        refine R_iload_n (Dat dd_L_open 64 rfl) rfl ?_
        refine R_isub (Dat dd_L_open 65 rfl) ?_
        refine R_istore (Dat dd_L_open 66 rfl) rfl rfl ?_
        exact T
  · replace T := T.2 c
    exact T
theorem t_L_open_109 {h : Hp} {P : Value → Hp → Prop} {a3 a4 a5 a6 a7 : Int} {a0 a2 : Nat} {a1 : Value} (T : R 96 56 [.ref a0, a1, .ref a2, .int (I a3), .int (I a4), .int (I a5), .int (I a6), .int (I (a7 + 1))] [] h P) : R 96 109 [.ref a0, a1, .ref a2, .int (I a3), .int (I a4), .int (I a5), .int (I a6), .int (I a7)] [] h P := by
  refine R_iinc (Dat dd_L_open 67 rfl) rfl rfl rfl ?_
  refine R_goto (Dat dd_L_open 68 rfl) rfl ?_
  exact T
theorem t_L_open_115 {h : Hp} {P : Value → Hp → Prop} {a3 a4 a5 a6 : Int} {a0 a2 : Nat} {a1 a7 : Value} (T : R 96 34 [.ref a0, a1, .ref a2, .int (I a3), .int (I a4), .int (I a5), .int (I (a6 + 1)), a7] [] h P) : R 96 115 [.ref a0, a1, .ref a2, .int (I a3), .int (I a4), .int (I a5), .int (I a6), a7] [] h P := by
  refine R_iinc (Dat dd_L_open 69 rfl) rfl rfl rfl ?_
  refine R_goto (Dat dd_L_open 70 rfl) rfl ?_
  exact T
def dl_L_soon : List (Nat × Instr × Nat) := [(0, .bipush 7, 2), (2, .newarray .int, 2), (4, .astore 6, 2), (6, .aload_n 0, 1), (7, .iload 4, 2), (9, .aload 6, 2), (11, .invokestatic 38, 3), (14, .iconst 1, 1), (15, .istore 7, 2), (17, .iconst 2, 1), (18, .istore 8, 2), (20, .iload 8, 2), (22, .aload_n 0, 1), (23, .bipush 24, 2), (25, .iaload, 1), (26, .if_icmp .gt 16, 3), (29, .iload 7, 2), (31, .iload 8, 2), (33, .imul, 1), (34, .istore 7, 2), (36, .iinc 8 1, 3), (39, .goto (-19), 3), (42, .iconst 0, 1), (43, .istore 8, 2), (45, .iload 8, 2), (47, .iload 7, 2), (49, .if_icmp .gt 69, 3), (52, .aload 6, 2), (54, .aload_n 0, 1), (55, .bipush 24, 2), (57, .iaload, 1), (58, .iconst 1, 1), (59, .isub, 1), (60, .iaload, 1), (61, .iload_n 3, 1), (62, .if_icmp .ne 6, 3), (65, .iload 8, 2), (67, .ireturn, 1), (68, .iload 8, 2), (70, .bipush 60, 2), (72, .if_icmp .le 29, 3), (75, .iload 8, 2), (77, .bipush 8, 2), (79, .irem, 1), (80, .ifCond .ne 21, 3), (83, .aload_n 0, 1), (84, .aload_n 1, 1), (85, .iload_n 2, 1), (86, .aload 6, 2), (88, .iload_n 3, 1), (89, .iload 5, 2), (91, .invokestatic 42, 3), (94, .ifCond .eq 7, 3), (97, .sipush 9999, 3), (100, .ireturn, 1), (101, .aload_n 0, 1), (102, .aload_n 1, 1), (103, .iload_n 2, 1), (104, .aload 6, 2), (106, .iload 5, 2), (108, .invokestatic 46, 3), (111, .pop, 1), (112, .iinc 8 1, 3), (115, .goto (-70), 3), (118, .sipush 9999, 3), (121, .ireturn, 1)]
theorem dd_L_soon : Dall 97 dl_L_soon = true := by decide +kernel
theorem t_L_soon {h : Hp} {P : Value → Hp → Prop} {p2 p3 p4 p5 : Int} {p0 p1 : Nat} (T : (tg h (10000 + ck h) = 0) ∧ R 96 0 [.ref p0, .int (I p4), .ref (10000 + ck h), .retAddr 0, .retAddr 0, .retAddr 0, .retAddr 0, .retAddr 0] [] (mk h (10000 + ck h) 20 (7 : Int).toNat (7 : Int).toNat) (fun _ h2 => R 97 14 [.ref p0, .ref p1, .int (I p2), .int (I p3), .int (I p4), .int (I p5), .ref (10000 + ck h), .retAddr 0, .retAddr 0] [] h2 P)) : R 97 0 [.ref p0, .ref p1, .int (I p2), .int (I p3), .int (I p4), .int (I p5), .retAddr 0, .retAddr 0, .retAddr 0] [] h P := by
  refine R_bipush (Dat dd_L_soon 0 rfl) (a := 7) rfl ?_
  obtain ⟨g1, T⟩ := T
  refine R_newa (Dat dd_L_soon 1 rfl) rfl (q := 10000 + ck h) rfl g1 (Or.inr (Nat.le_add_right _ _)) (by decide) (by decide) ?_
  refine R_astore (Dat dd_L_soon 2 rfl) rfl rfl rfl ?_
  refine R_aload_n (Dat dd_L_soon 3 rfl) rfl rfl ?_
  refine R_iload (Dat dd_L_soon 4 rfl) rfl ?_
  refine R_aload (Dat dd_L_soon 5 rfl) rfl rfl ?_
  exact R_call0 (Dat dd_L_soon 6 rfl) rfl rfl rfl rfl rfl rfl T
theorem t_L_soon_14 {h : Hp} {P : Value → Hp → Prop} {a2 a3 a5 : Int} {a0 a1 a6 : Nat} {a4 a7 a8 : Value} (T : R 97 20 [.ref a0, .ref a1, .int (I a2), .int (I a3), a4, .int (I a5), .ref a6, .int (I 1), .int (I 2)] [] h P) : R 97 14 [.ref a0, .ref a1, .int (I a2), .int (I a3), a4, .int (I a5), .ref a6, a7, a8] [] h P := by
  refine R_iconst (Dat dd_L_soon 7 rfl) ?_
  refine R_istore (Dat dd_L_soon 8 rfl) rfl rfl ?_
  refine R_iconst (Dat dd_L_soon 9 rfl) ?_
  refine R_istore (Dat dd_L_soon 10 rfl) rfl rfl ?_
  exact T
theorem t_L_soon_20 {h : Hp} {P : Value → Hp → Prop} {a2 a3 a5 a7 a8 : Int} {a0 a1 a6 : Nat} {a4 : Value} (T : (tg h a0 = 20 ∨ tg h a0 = 30) ∧ ((ln h a0 : Int) ≤ 2147483648) ∧ ((24 : Int) < ln h a0) ∧ (rng a8) ∧ (rng (iv h a0 24)) ∧ (((iv h a0 24) < a8 → R 97 45 [.ref a0, .ref a1, .int (I a2), .int (I a3), a4, .int (I a5), .ref a6, .int (I a7), .int (I 0)] [] h P) ∧ (¬ (iv h a0 24) < a8 → R 97 20 [.ref a0, .ref a1, .int (I a2), .int (I a3), a4, .int (I a5), .ref a6, .int (I (a7 * a8)), .int (I (a8 + 1))] [] h P))) : R 97 20 [.ref a0, .ref a1, .int (I a2), .int (I a3), a4, .int (I a5), .ref a6, .int (I a7), .int (I a8)] [] h P := by
  refine R_iload (Dat dd_L_soon 11 rfl) rfl ?_
  refine R_aload_n (Dat dd_L_soon 12 rfl) rfl rfl ?_
  refine R_bipush (Dat dd_L_soon 13 rfl) (a := 24) rfl ?_
  obtain ⟨g1, T⟩ := T
  obtain ⟨g2, T⟩ := T
  obtain ⟨g3, T⟩ := T
  refine R_iaload (Dat dd_L_soon 14 rfl) g1 g2 (by decide) g3 ?_
  obtain ⟨g4, T⟩ := T
  obtain ⟨g5, T⟩ := T
  refine R_ic_gt (Dat dd_L_soon 15 rfl) rfl g4 g5 (fun c => ?_) (fun c => ?_)
  · replace T := T.1 c
    refine R_iconst (Dat dd_L_soon 22 rfl) ?_
    refine R_istore (Dat dd_L_soon 23 rfl) rfl rfl ?_
    exact T
  · replace T := T.2 c
    refine R_iload (Dat dd_L_soon 16 rfl) rfl ?_
    refine R_iload (Dat dd_L_soon 17 rfl) rfl ?_
    refine R_imul (Dat dd_L_soon 18 rfl) ?_
    refine R_istore (Dat dd_L_soon 19 rfl) rfl rfl ?_
    refine R_iinc (Dat dd_L_soon 20 rfl) rfl rfl rfl ?_
    refine R_goto (Dat dd_L_soon 21 rfl) rfl ?_
    exact T
theorem t_L_soon_45 {h : Hp} {P : Value → Hp → Prop} {a2 a3 a5 a7 a8 : Int} {a0 a1 a6 : Nat} {a4 : Value} (T : (rng a8) ∧ (rng a7) ∧ ((a7 < a8 → P (.int (I 9999)) h) ∧ (¬ a7 < a8 → (tg h a0 = 20 ∨ tg h a0 = 30) ∧ ((ln h a0 : Int) ≤ 2147483648) ∧ ((24 : Int) < ln h a0) ∧ (tg h a6 = 20 ∨ tg h a6 = 30) ∧ ((ln h a6 : Int) ≤ 2147483648) ∧ (0 ≤ ((iv h a0 24) - 1)) ∧ (((iv h a0 24) - 1) < ln h a6) ∧ (rng (iv h a6 ((iv h a0 24) - 1))) ∧ (rng a3) ∧ (((iv h a6 ((iv h a0 24) - 1)) = a3 → P (.int (I a8)) h) ∧ (¬ (iv h a6 ((iv h a0 24) - 1)) = a3 → (rng a8) ∧ (((60 : Int) < a8 → (0 ≤ a8 ∧ a8 < 2147483648) ∧ (rng (a8 % 8)) ∧ (((a8 % 8) = 0 → (okg 97 98 [.ref a0, .ref a1, .int (I a2), .int (I a3), a4, .int (I a5), .ref a6, .int (I a7), .int (I a8)] [] [.ref a0, .ref a1, .int (I a2), .ref a6, .int (I a3), .int (I a5)] = true) ∧ R 98 0 [.ref a0, .ref a1, .int (I a2), .ref a6, .int (I a3), .int (I a5), .retAddr 0, .retAddr 0] [] h (fun v h2 => R 97 94 [.ref a0, .ref a1, .int (I a2), .int (I a3), a4, .int (I a5), .ref a6, .int (I a7), .int (I a8)] (v :: []) h2 P)) ∧ (¬ (a8 % 8) = 0 → R 97 101 [.ref a0, .ref a1, .int (I a2), .int (I a3), a4, .int (I a5), .ref a6, .int (I a7), .int (I a8)] [] h P))) ∧ (¬ (60 : Int) < a8 → R 97 101 [.ref a0, .ref a1, .int (I a2), .int (I a3), a4, .int (I a5), .ref a6, .int (I a7), .int (I a8)] [] h P))))))) : R 97 45 [.ref a0, .ref a1, .int (I a2), .int (I a3), a4, .int (I a5), .ref a6, .int (I a7), .int (I a8)] [] h P := by
  refine R_iload (Dat dd_L_soon 24 rfl) rfl ?_
  refine R_iload (Dat dd_L_soon 25 rfl) rfl ?_
  obtain ⟨g1, T⟩ := T
  obtain ⟨g2, T⟩ := T
  refine R_ic_gt (Dat dd_L_soon 26 rfl) rfl g1 g2 (fun c => ?_) (fun c => ?_)
  · replace T := T.1 c
    refine R_sipush (Dat dd_L_soon 64 rfl) (a := 9999) rfl ?_
    exact R_ireturn (Dat dd_L_soon 65 rfl) rfl T
  · replace T := T.2 c
    refine R_aload (Dat dd_L_soon 27 rfl) rfl rfl ?_
    refine R_aload_n (Dat dd_L_soon 28 rfl) rfl rfl ?_
    refine R_bipush (Dat dd_L_soon 29 rfl) (a := 24) rfl ?_
    obtain ⟨g3, T⟩ := T
    obtain ⟨g4, T⟩ := T
    obtain ⟨g5, T⟩ := T
    refine R_iaload (Dat dd_L_soon 30 rfl) g3 g4 (by decide) g5 ?_
    refine R_iconst (Dat dd_L_soon 31 rfl) ?_
    refine R_isub (Dat dd_L_soon 32 rfl) ?_
    obtain ⟨g6, T⟩ := T
    obtain ⟨g7, T⟩ := T
    obtain ⟨g8, T⟩ := T
    obtain ⟨g9, T⟩ := T
    refine R_iaload (Dat dd_L_soon 33 rfl) g6 g7 g8 g9 ?_
    refine R_iload_n (Dat dd_L_soon 34 rfl) rfl ?_
    obtain ⟨g10, T⟩ := T
    obtain ⟨g11, T⟩ := T
    refine R_ic_ne (Dat dd_L_soon 35 rfl) rfl g10 g11 (fun c => ?_) (fun c => ?_)
    · replace T := T.1 c
      refine R_iload (Dat dd_L_soon 36 rfl) rfl ?_
      exact R_ireturn (Dat dd_L_soon 37 rfl) rfl T
    · replace T := T.2 c
      refine R_iload (Dat dd_L_soon 38 rfl) rfl ?_
      refine R_bipush (Dat dd_L_soon 39 rfl) (a := 60) rfl ?_
      obtain ⟨g12, T⟩ := T
      refine R_ic_le (Dat dd_L_soon 40 rfl) rfl g12 (by decide) (fun c => ?_) (fun c => ?_)
      · replace T := T.1 c
        refine R_iload (Dat dd_L_soon 41 rfl) rfl ?_
        refine R_bipush (Dat dd_L_soon 42 rfl) (a := 8) rfl ?_
        obtain ⟨g13, T⟩ := T
        refine R_irem (Dat dd_L_soon 43 rfl) g13 (by decide) ?_
        obtain ⟨g14, T⟩ := T
        refine R_if_ne (Dat dd_L_soon 44 rfl) rfl g14  (fun c => ?_) (fun c => ?_)
        · replace T := T.1 c
          refine R_aload_n (Dat dd_L_soon 45 rfl) rfl rfl ?_
          refine R_aload_n (Dat dd_L_soon 46 rfl) rfl rfl ?_
          refine R_iload_n (Dat dd_L_soon 47 rfl) rfl ?_
          refine R_aload (Dat dd_L_soon 48 rfl) rfl rfl ?_
          refine R_iload_n (Dat dd_L_soon 49 rfl) rfl ?_
          refine R_iload (Dat dd_L_soon 50 rfl) rfl ?_
          obtain ⟨g15, T⟩ := T
          exact R_call0 (Dat dd_L_soon 51 rfl) rfl rfl rfl rfl g15 rfl T
        · replace T := T.2 c
          exact T
      · replace T := T.2 c
        exact T
theorem t_L_soon_94 {h : Hp} {P : Value → Hp → Prop} {a2 a3 a5 a7 a8 s0 : Int} {a0 a1 a6 : Nat} {a4 : Value} (T : (rng s0) ∧ ((s0 = 0 → R 97 101 [.ref a0, .ref a1, .int (I a2), .int (I a3), a4, .int (I a5), .ref a6, .int (I a7), .int (I a8)] [] h P) ∧ (¬ s0 = 0 → P (.int (I 9999)) h))) : R 97 94 [.ref a0, .ref a1, .int (I a2), .int (I a3), a4, .int (I a5), .ref a6, .int (I a7), .int (I a8)] [.int (I s0)] h P := by
  obtain ⟨g1, T⟩ := T
  refine R_if_eq (Dat dd_L_soon 52 rfl) rfl g1  (fun c => ?_) (fun c => ?_)
  · replace T := T.1 c
    exact T
  · replace T := T.2 c
    refine R_sipush (Dat dd_L_soon 53 rfl) (a := 9999) rfl ?_
    exact R_ireturn (Dat dd_L_soon 54 rfl) rfl T
theorem t_L_soon_101 {h : Hp} {P : Value → Hp → Prop} {a2 a3 a5 a7 a8 : Int} {a0 a1 a6 : Nat} {a4 : Value} (T : R 94 0 [.ref a0, .ref a1, .int (I a2), .ref a6, .int (I a5), .retAddr 0, .retAddr 0, .retAddr 0, .retAddr 0, .retAddr 0] [] h (fun v h2 => R 97 111 [.ref a0, .ref a1, .int (I a2), .int (I a3), a4, .int (I a5), .ref a6, .int (I a7), .int (I a8)] (v :: []) h2 P)) : R 97 101 [.ref a0, .ref a1, .int (I a2), .int (I a3), a4, .int (I a5), .ref a6, .int (I a7), .int (I a8)] [] h P := by
  refine R_aload_n (Dat dd_L_soon 55 rfl) rfl rfl ?_
  refine R_aload_n (Dat dd_L_soon 56 rfl) rfl rfl ?_
  refine R_iload_n (Dat dd_L_soon 57 rfl) rfl ?_
  refine R_aload (Dat dd_L_soon 58 rfl) rfl rfl ?_
  refine R_iload (Dat dd_L_soon 59 rfl) rfl ?_
  exact R_call0 (Dat dd_L_soon 60 rfl) rfl rfl rfl rfl rfl rfl T
theorem t_L_soon_111 {h : Hp} {P : Value → Hp → Prop} {a2 a3 a5 a7 a8 s0 : Int} {a0 a1 a6 : Nat} {a4 : Value} (T : R 97 45 [.ref a0, .ref a1, .int (I a2), .int (I a3), a4, .int (I a5), .ref a6, .int (I a7), .int (I (a8 + 1))] [] h P) : R 97 111 [.ref a0, .ref a1, .int (I a2), .int (I a3), a4, .int (I a5), .ref a6, .int (I a7), .int (I a8)] [.int (I s0)] h P := by
  refine R_pop (Dat dd_L_soon 61 rfl) rfl ?_
  refine R_iinc (Dat dd_L_soon 62 rfl) rfl rfl rfl ?_
  refine R_goto (Dat dd_L_soon 63 rfl) rfl ?_
  exact T
def dl_L_isRound : List (Nat × Instr × Nat) := [(0, .bipush 7, 2), (2, .newarray .int, 2), (4, .astore 6, 2), (6, .iconst 0, 1), (7, .istore 7, 2), (9, .iload 7, 2), (11, .bipush 7, 2), (13, .if_icmp .ge 18, 3), (16, .aload 6, 2), (18, .iload 7, 2), (20, .aload_n 3, 1), (21, .iload 7, 2), (23, .iaload, 1), (24, .iastore, 1), (25, .iinc 7 1, 3), (28, .goto (-19), 3), (31, .iconst 0, 1), (32, .istore 7, 2), (34, .iload 7, 2), (36, .bipush 40, 2), (38, .if_icmp .ge 52, 3), (41, .aload_n 0, 1), (42, .aload_n 1, 1), (43, .iload_n 2, 1), (44, .aload 6, 2), (46, .iload 5, 2), (48, .invokestatic 46, 3), (51, .pop, 1), (52, .aload 6, 2), (54, .aload_n 0, 1), (55, .bipush 24, 2), (57, .iaload, 1), (58, .iconst 1, 1), (59, .isub, 1), (60, .iaload, 1), (61, .iload 4, 2), (63, .if_icmp .ne 5, 3), (66, .iconst 0, 1), (67, .ireturn, 1), (68, .aload_n 0, 1), (69, .aload 6, 2), (71, .invokestatic 50, 3), (74, .aload_n 0, 1), (75, .aload_n 3, 1), (76, .invokestatic 50, 3), (79, .if_icmp .ne 5, 3), (82, .iconst 1, 1), (83, .ireturn, 1), (84, .iinc 7 1, 3), (87, .goto (-53), 3), (90, .iconst 0, 1), (91, .ireturn, 1)]
theorem dd_L_isRound : Dall 98 dl_L_isRound = true := by decide +kernel
theorem t_L_isRound {h : Hp} {P : Value → Hp → Prop} {p2 p4 p5 : Int} {p0 p1 p3 : Nat} (T : (tg h (10000 + ck h) = 0) ∧ R 98 9 [.ref p0, .ref p1, .int (I p2), .ref p3, .int (I p4), .int (I p5), .ref (10000 + ck h), .int (I 0)] [] (mk h (10000 + ck h) 20 (7 : Int).toNat (7 : Int).toNat) P) : R 98 0 [.ref p0, .ref p1, .int (I p2), .ref p3, .int (I p4), .int (I p5), .retAddr 0, .retAddr 0] [] h P := by
  refine R_bipush (Dat dd_L_isRound 0 rfl) (a := 7) rfl ?_
  obtain ⟨g1, T⟩ := T
  refine R_newa (Dat dd_L_isRound 1 rfl) rfl (q := 10000 + ck h) rfl g1 (Or.inr (Nat.le_add_right _ _)) (by decide) (by decide) ?_
  refine R_astore (Dat dd_L_isRound 2 rfl) rfl rfl rfl ?_
  refine R_iconst (Dat dd_L_isRound 3 rfl) ?_
  refine R_istore (Dat dd_L_isRound 4 rfl) rfl rfl ?_
  exact T
theorem t_L_isRound_9 {h : Hp} {P : Value → Hp → Prop} {a2 a4 a5 a7 : Int} {a0 a1 a3 a6 : Nat} (T : (rng a7) ∧ ((a7 < 7 → (tg h a3 = 20 ∨ tg h a3 = 30) ∧ ((ln h a3 : Int) ≤ 2147483648) ∧ (0 ≤ a7) ∧ (a7 < ln h a3) ∧ (tg h a6 = 20) ∧ ((ln h a6 : Int) ≤ 2147483648) ∧ (0 ≤ a7) ∧ (a7 < ln h a6) ∧ R 98 9 [.ref a0, .ref a1, .int (I a2), .ref a3, .int (I a4), .int (I a5), .ref a6, .int (I (a7 + 1))] [] (setI h a6 a7 (wr (iv h a3 a7))) P) ∧ (¬ a7 < 7 → R 98 34 [.ref a0, .ref a1, .int (I a2), .ref a3, .int (I a4), .int (I a5), .ref a6, .int (I 0)] [] h P))) : R 98 9 [.ref a0, .ref a1, .int (I a2), .ref a3, .int (I a4), .int (I a5), .ref a6, .int (I a7)] [] h P := by
  refine R_iload (Dat dd_L_isRound 5 rfl) rfl ?_
  refine R_bipush (Dat dd_L_isRound 6 rfl) (a := 7) rfl ?_
  obtain ⟨g1, T⟩ := T
  refine R_ic_ge (Dat dd_L_isRound 7 rfl) rfl g1 (by decide) (fun c => ?_) (fun c => ?_)
  · replace T := T.1 c
    refine R_aload (Dat dd_L_isRound 8 rfl) rfl rfl ?_
    refine R_iload (Dat dd_L_isRound 9 rfl) rfl ?_
    refine R_aload_n (Dat dd_L_isRound 10 rfl) rfl rfl ?_
    refine R_iload (Dat dd_L_isRound 11 rfl) rfl ?_
    obtain ⟨g2, T⟩ := T
    obtain ⟨g3, T⟩ := T
    obtain ⟨g4, T⟩ := T
    obtain ⟨g5, T⟩ := T
    refine R_iaload (Dat dd_L_isRound 12 rfl) g2 g3 g4 g5 ?_
    obtain ⟨g6, T⟩ := T
    obtain ⟨g7, T⟩ := T
    obtain ⟨g8, T⟩ := T
    obtain ⟨g9, T⟩ := T
    refine R_iastore (Dat dd_L_isRound 13 rfl) g6 g7 g8 g9 (v := wr (iv h a3 a7)) rfl ?_
    refine R_iinc (Dat dd_L_isRound 14 rfl) rfl rfl rfl ?_
    refine R_goto (Dat dd_L_isRound 15 rfl) rfl ?_
    exact T
  · replace T := T.2 c
    refine R_iconst (Dat dd_L_isRound 16 rfl) ?_
    refine R_istore (Dat dd_L_isRound 17 rfl) rfl rfl ?_
    exact T
theorem t_L_isRound_34 {h : Hp} {P : Value → Hp → Prop} {a2 a4 a5 a7 : Int} {a0 a1 a3 a6 : Nat} (T : (rng a7) ∧ ((a7 < 40 → R 94 0 [.ref a0, .ref a1, .int (I a2), .ref a6, .int (I a5), .retAddr 0, .retAddr 0, .retAddr 0, .retAddr 0, .retAddr 0] [] h (fun v h2 => R 98 51 [.ref a0, .ref a1, .int (I a2), .ref a3, .int (I a4), .int (I a5), .ref a6, .int (I a7)] (v :: []) h2 P)) ∧ (¬ a7 < 40 → P (.int (I 0)) h))) : R 98 34 [.ref a0, .ref a1, .int (I a2), .ref a3, .int (I a4), .int (I a5), .ref a6, .int (I a7)] [] h P := by
  refine R_iload (Dat dd_L_isRound 18 rfl) rfl ?_
  refine R_bipush (Dat dd_L_isRound 19 rfl) (a := 40) rfl ?_
  obtain ⟨g1, T⟩ := T
  refine R_ic_ge (Dat dd_L_isRound 20 rfl) rfl g1 (by decide) (fun c => ?_) (fun c => ?_)
  · replace T := T.1 c
    refine R_aload_n (Dat dd_L_isRound 21 rfl) rfl rfl ?_
    refine R_aload_n (Dat dd_L_isRound 22 rfl) rfl rfl ?_
    refine R_iload_n (Dat dd_L_isRound 23 rfl) rfl ?_
    refine R_aload (Dat dd_L_isRound 24 rfl) rfl rfl ?_
    refine R_iload (Dat dd_L_isRound 25 rfl) rfl ?_
    exact R_call0 (Dat dd_L_isRound 26 rfl) rfl rfl rfl rfl rfl rfl T
  · replace T := T.2 c
    refine R_iconst (Dat dd_L_isRound 50 rfl) ?_
    exact R_ireturn (Dat dd_L_isRound 51 rfl) rfl T
theorem t_L_isRound_51 {h : Hp} {P : Value → Hp → Prop} {a2 a4 a5 a7 s0 : Int} {a0 a1 a3 a6 : Nat} (T : (tg h a0 = 20 ∨ tg h a0 = 30) ∧ ((ln h a0 : Int) ≤ 2147483648) ∧ ((24 : Int) < ln h a0) ∧ (tg h a6 = 20 ∨ tg h a6 = 30) ∧ ((ln h a6 : Int) ≤ 2147483648) ∧ (0 ≤ ((iv h a0 24) - 1)) ∧ (((iv h a0 24) - 1) < ln h a6) ∧ (rng (iv h a6 ((iv h a0 24) - 1))) ∧ (rng a4) ∧ (((iv h a6 ((iv h a0 24) - 1)) = a4 → P (.int (I 0)) h) ∧ (¬ (iv h a6 ((iv h a0 24) - 1)) = a4 → R 95 0 [.ref a0, .ref a6, .retAddr 0, .retAddr 0, .retAddr 0, .retAddr 0, .retAddr 0] [] h (fun v h2 => R 98 74 [.ref a0, .ref a1, .int (I a2), .ref a3, .int (I a4), .int (I a5), .ref a6, .int (I a7)] (v :: []) h2 P)))) : R 98 51 [.ref a0, .ref a1, .int (I a2), .ref a3, .int (I a4), .int (I a5), .ref a6, .int (I a7)] [.int (I s0)] h P := by
  refine R_pop (Dat dd_L_isRound 27 rfl) rfl ?_
  refine R_aload (Dat dd_L_isRound 28 rfl) rfl rfl ?_
  refine R_aload_n (Dat dd_L_isRound 29 rfl) rfl rfl ?_
  refine R_bipush (Dat dd_L_isRound 30 rfl) (a := 24) rfl ?_
  obtain ⟨g1, T⟩ := T
  obtain ⟨g2, T⟩ := T
  obtain ⟨g3, T⟩ := T
  refine R_iaload (Dat dd_L_isRound 31 rfl) g1 g2 (by decide) g3 ?_
  refine R_iconst (Dat dd_L_isRound 32 rfl) ?_
  refine R_isub (Dat dd_L_isRound 33 rfl) ?_
  obtain ⟨g4, T⟩ := T
  obtain ⟨g5, T⟩ := T
  obtain ⟨g6, T⟩ := T
  obtain ⟨g7, T⟩ := T
  refine R_iaload (Dat dd_L_isRound 34 rfl) g4 g5 g6 g7 ?_
  refine R_iload (Dat dd_L_isRound 35 rfl) rfl ?_
  obtain ⟨g8, T⟩ := T
  obtain ⟨g9, T⟩ := T
  refine R_ic_ne (Dat dd_L_isRound 36 rfl) rfl g8 g9 (fun c => ?_) (fun c => ?_)
  · replace T := T.1 c
    refine R_iconst (Dat dd_L_isRound 37 rfl) ?_
    exact R_ireturn (Dat dd_L_isRound 38 rfl) rfl T
  · replace T := T.2 c
    refine R_aload_n (Dat dd_L_isRound 39 rfl) rfl rfl ?_
    refine R_aload (Dat dd_L_isRound 40 rfl) rfl rfl ?_
    exact R_call0 (Dat dd_L_isRound 41 rfl) rfl rfl rfl rfl rfl rfl T
theorem t_L_isRound_74 {h : Hp} {P : Value → Hp → Prop} {a2 a4 a5 a7 s0 : Int} {a0 a1 a3 a6 : Nat} (T : R 95 0 [.ref a0, .ref a3, .retAddr 0, .retAddr 0, .retAddr 0, .retAddr 0, .retAddr 0] [] h (fun v h2 => R 98 79 [.ref a0, .ref a1, .int (I a2), .ref a3, .int (I a4), .int (I a5), .ref a6, .int (I a7)] (v :: [.int (I s0)]) h2 P)) : R 98 74 [.ref a0, .ref a1, .int (I a2), .ref a3, .int (I a4), .int (I a5), .ref a6, .int (I a7)] [.int (I s0)] h P := by
  refine R_aload_n (Dat dd_L_isRound 42 rfl) rfl rfl ?_
  refine R_aload_n (Dat dd_L_isRound 43 rfl) rfl rfl ?_
  exact R_call0 (Dat dd_L_isRound 44 rfl) rfl rfl rfl rfl rfl rfl T
theorem t_L_isRound_79 {h : Hp} {P : Value → Hp → Prop} {a2 a4 a5 a7 s0 s1 : Int} {a0 a1 a3 a6 : Nat} (T : (rng s1) ∧ (rng s0) ∧ ((s1 = s0 → P (.int (I 1)) h) ∧ (¬ s1 = s0 → R 98 34 [.ref a0, .ref a1, .int (I a2), .ref a3, .int (I a4), .int (I a5), .ref a6, .int (I (a7 + 1))] [] h P))) : R 98 79 [.ref a0, .ref a1, .int (I a2), .ref a3, .int (I a4), .int (I a5), .ref a6, .int (I a7)] [.int (I s0), .int (I s1)] h P := by
  obtain ⟨g1, T⟩ := T
  obtain ⟨g2, T⟩ := T
  refine R_ic_ne (Dat dd_L_isRound 45 rfl) rfl g1 g2 (fun c => ?_) (fun c => ?_)
  · replace T := T.1 c
    refine R_iconst (Dat dd_L_isRound 46 rfl) ?_
    exact R_ireturn (Dat dd_L_isRound 47 rfl) rfl T
  · replace T := T.2 c
    refine R_iinc (Dat dd_L_isRound 48 rfl) rfl rfl rfl ?_
    refine R_goto (Dat dd_L_isRound 49 rfl) rfl ?_
    exact T
def dl_L_law_c0 : List (Nat × Instr × Nat) := [(0, .new 20, 3), (3, .dup, 1), (4, .invokespecial 54, 3), (7, .astore_n 1, 1), (8, .bipush 25, 2), (10, .newarray .int, 2), (12, .astore_n 2, 1), (13, .aload_n 1, 1), (14, .aload_n 0, 1), (15, .iconst 0, 1), (16, .bipush 6, 2), (18, .aload_n 2, 1), (19, .invokestatic 55, 3), (22, .istore_n 3, 1), (23, .iload_n 3, 1), (24, .bipush 7, 2), (26, .if_icmp .lt 29, 3), (29, .aload_n 1, 1), (30, .iconst 0, 1), (31, .iconst 0, 1), (32, .iconst 0, 1), (33, .iload_n 3, 1), (34, .invokevirtual 58, 3), (37, .aload_n 2, 1), (38, .bipush 24, 2), (40, .iaload, 1), (41, .if_icmp .ne 14, 3), (44, .aload_n 1, 1), (45, .iconst 1, 1), (46, .iconst 1, 1), (47, .invokevirtual 62, 3), (50, .bipush (-3), 2), (52, .if_icmp .eq 5, 3), (55, .iconst 0, 1), (56, .ireturn, 1), (57, .aload_n 2, 1), (58, .bipush 24, 2), (60, .iaload, 1), (61, .istore 4, 2), (63, .bipush 19, 2), (65, .newarray .int, 2), (67, .astore 5, 2), (69, .bipush 19, 2), (71, .newarray .int, 2), (73, .astore 6, 2), (75, .aload_n 1, 1), (76, .aload_n 0, 1), (77, .iconst 4, 1), (78, .aload 5, 2), (80, .invokestatic 64, 3), (83, .istore 7, 2), (85, .iload 7, 2), (87, .iconst 3, 1), (88, .if_icmp .lt 15, 3), (91, .aload_n 1, 1), (92, .iconst 1, 1), (93, .iconst 2, 1), (94, .iconst 0, 1), (95, .iload 7, 2), (97, .invokevirtual 68, 3)]
theorem dd_L_law_c0 : Dall 99 dl_L_law_c0 = true := by decide +kernel
def dl_L_law_c1 : List (Nat × Instr × Nat) := [(100, .ifCond .eq 5, 3), (103, .iconst 0, 1), (104, .ireturn, 1), (105, .aload_n 1, 1), (106, .aload_n 0, 1), (107, .bipush 7, 2), (109, .aload 6, 2), (111, .invokestatic 64, 3), (114, .istore 7, 2), (116, .iload 7, 2), (118, .iconst 3, 1), (119, .if_icmp .lt 24, 3), (122, .aload_n 1, 1), (123, .iconst 1, 1), (124, .iconst 2, 1), (125, .iconst 0, 1), (126, .iload 7, 2), (128, .invokevirtual 68, 3), (131, .iconst 1, 1), (132, .if_icmp .ne 11, 3), (135, .aload_n 1, 1), (136, .iconst 5, 1), (137, .invokevirtual 71, 3), (140, .ifCond .eq 5, 3), (143, .iconst 0, 1), (144, .ireturn, 1), (145, .aload_n 1, 1), (146, .iconst 1, 1), (147, .invokevirtual 71, 3), (150, .istore 8, 2), (152, .bipush 7, 2), (154, .newarray .int, 2), (156, .astore 9, 2), (158, .iconst 0, 1), (159, .istore 10, 2), (161, .iload 10, 2), (163, .iload 4, 2), (165, .if_icmp .ge 16, 3), (168, .aload 9, 2), (170, .iload 10, 2), (172, .iload 10, 2), (174, .iastore, 1), (175, .iinc 10 1, 3), (178, .goto (-17), 3), (181, .iconst 0, 1), (182, .istore 10, 2), (184, .iconst 0, 1), (185, .istore 11, 2), (187, .iload 11, 2), (189, .bipush 12, 2), (191, .if_icmp .ge 1101, 3), (194, .aload_n 0, 1), (195, .bipush 10, 2), (197, .iload 11, 2), (199, .iadd, 1), (200, .invokestatic 9, 3), (203, .istore 12, 2), (205, .iload 12, 2), (207, .bipush 7, 2), (209, .invokestatic 15, 3)]
theorem dd_L_law_c1 : Dall 99 dl_L_law_c1 = true := by decide +kernel
def dl_L_law_c2 : List (Nat × Instr × Nat) := [(212, .istore 13, 2), (214, .iconst 1, 1), (215, .iload 12, 2), (217, .iconst 3, 1), (218, .ishr, 1), (219, .iconst 3, 1), (220, .invokestatic 15, 3), (223, .iadd, 1), (224, .istore 14, 2), (226, .iload 13, 2), (228, .iconst 3, 1), (229, .if_icmp .ge 75, 3), (232, .iload 12, 2), (234, .iconst 5, 1), (235, .ishr, 1), (236, .bipush 6, 2), (238, .invokestatic 15, 3), (241, .istore 15, 2), (243, .iconst 0, 1), (244, .istore 16, 2), (246, .iconst 0, 1), (247, .istore 17, 2), (249, .iload 17, 2), (251, .iload 15, 2), (253, .if_icmp .ge 26, 3), (256, .iload 16, 2), (258, .aload_n 2, 1), (259, .aload 5, 2), (261, .bipush (-9), 2), (263, .aload 9, 2), (265, .iload 14, 2), (267, .invokestatic 46, 3), (270, .iadd, 1), (271, .istore 16, 2), (273, .iinc 17 1, 3), (276, .goto (-27), 3), (279, .aload_n 1, 1), (280, .iload 14, 2), (282, .iload 15, 2), (284, .invokevirtual 62, 3), (287, .iload 16, 2), (289, .if_icmp .eq 5, 3), (292, .iconst 0, 1), (293, .ireturn, 1), (294, .iload 10, 2), (296, .iload 15, 2), (298, .iadd, 1), (299, .istore 10, 2), (301, .goto 302, 3), (304, .iload 13, 2), (306, .iconst 3, 1), (307, .if_icmp .ne 70, 3), (310, .iconst 0, 1), (311, .istore 15, 2), (313, .iload 15, 2), (315, .iload 4, 2), (317, .iconst 2, 1), (318, .idiv, 1), (319, .if_icmp .ge 43, 3), (322, .aload 9, 2)]
theorem dd_L_law_c2 : Dall 99 dl_L_law_c2 = true := by decide +kernel
def dl_L_law_c3 : List (Nat × Instr × Nat) := [(324, .iload 15, 2), (326, .iaload, 1), (327, .istore 16, 2), (329, .aload 9, 2), (331, .iload 15, 2), (333, .aload 9, 2), (335, .iload 4, 2), (337, .iconst 1, 1), (338, .isub, 1), (339, .iload 15, 2), (341, .isub, 1), (342, .iaload, 1), (343, .iastore, 1), (344, .aload 9, 2), (346, .iload 4, 2), (348, .iconst 1, 1), (349, .isub, 1), (350, .iload 15, 2), (352, .isub, 1), (353, .iload 16, 2), (355, .iastore, 1), (356, .iinc 15 1, 3), (359, .goto (-46), 3), (362, .aload_n 1, 1), (363, .invokevirtual 75, 3), (366, .aload_n 2, 1), (367, .aload 9, 2), (369, .invokestatic 50, 3), (372, .if_icmp .eq 231, 3), (375, .iconst 0, 1), (376, .ireturn, 1), (377, .iload 13, 2), (379, .iconst 4, 1), (380, .if_icmp .ne 60, 3), (383, .aload 9, 2), (385, .iconst 0, 1), (386, .iaload, 1), (387, .istore 15, 2), (389, .iconst 1, 1), (390, .istore 16, 2), (392, .iload 16, 2), (394, .iload 4, 2), (396, .if_icmp .ge 21, 3), (399, .aload 9, 2), (401, .iload 16, 2), (403, .iconst 1, 1), (404, .isub, 1), (405, .aload 9, 2), (407, .iload 16, 2), (409, .iaload, 1), (410, .iastore, 1), (411, .iinc 16 1, 3), (414, .goto (-22), 3), (417, .aload 9, 2), (419, .iload 4, 2), (421, .iconst 1, 1), (422, .isub, 1), (423, .iload 15, 2), (425, .iastore, 1), (426, .aload_n 1, 1)]
theorem dd_L_law_c3 : Dall 99 dl_L_law_c3 = true := by decide +kernel
def dl_L_law_c4 : List (Nat × Instr × Nat) := [(427, .invokevirtual 79, 3), (430, .iload 15, 2), (432, .if_icmp .eq 5, 3), (435, .iconst 0, 1), (436, .ireturn, 1), (437, .goto 166, 3), (440, .iload 13, 2), (442, .iconst 5, 1), (443, .if_icmp .ne 42, 3), (446, .iload 12, 2), (448, .iconst 5, 1), (449, .ishr, 1), (450, .iload 8, 2), (452, .invokestatic 15, 3), (455, .istore 15, 2), (457, .aload_n 1, 1), (458, .iload 15, 2), (460, .invokevirtual 82, 3), (463, .aload_n 2, 1), (464, .aload 9, 2), (466, .invokestatic 50, 3), (469, .if_icmp .eq 5, 3), (472, .iconst 0, 1), (473, .ireturn, 1), (474, .aload_n 2, 1), (475, .iload 15, 2), (477, .aload 9, 2), (479, .invokestatic 38, 3), (482, .goto 121, 3), (485, .iload 12, 2), (487, .iconst 5, 1), (488, .ishr, 1), (489, .iconst 5, 1), (490, .invokestatic 15, 3), (493, .istore 15, 2), (495, .iconst 0, 1), (496, .istore 16, 2), (498, .aload_n 1, 1), (499, .iconst 2, 1), (500, .iconst 0, 1), (501, .bipush 6, 2), (503, .invokevirtual 19, 3), (506, .iconst 1, 1), (507, .if_icmp .eq 5, 3), (510, .iconst 0, 1), (511, .ireturn, 1), (512, .iconst 0, 1), (513, .istore 17, 2), (515, .iload 17, 2), (517, .iload 15, 2), (519, .if_icmp .ge 61, 3), (522, .iconst 1, 1), (523, .iload 12, 2), (525, .bipush 8, 2), (527, .iconst 2, 1), (528, .iload 17, 2), (530, .imul, 1), (531, .iadd, 1), (532, .ishr, 1), (533, .iconst 3, 1)]
theorem dd_L_law_c4 : Dall 99 dl_L_law_c4 = true := by decide +kernel
def dl_L_law_c5 : List (Nat × Instr × Nat) := [(534, .invokestatic 15, 3), (537, .iadd, 1), (538, .istore 18, 2), (540, .aload_n 1, 1), (541, .iconst 2, 1), (542, .iconst 1, 1), (543, .iload 17, 2), (545, .iadd, 1), (546, .iload 18, 2), (548, .invokevirtual 25, 3), (551, .iconst 1, 1), (552, .if_icmp .eq 5, 3), (555, .iconst 0, 1), (556, .ireturn, 1), (557, .iload 16, 2), (559, .aload_n 2, 1), (560, .aload 5, 2), (562, .bipush (-9), 2), (564, .aload 9, 2), (566, .iload 18, 2), (568, .invokestatic 46, 3), (571, .iadd, 1), (572, .istore 16, 2), (574, .iinc 17 1, 3), (577, .goto (-62), 3), (580, .aload_n 1, 1), (581, .iconst 2, 1), (582, .iconst 0, 1), (583, .iconst 1, 1), (584, .iload 15, 2), (586, .invokevirtual 85, 3), (589, .iload 16, 2), (591, .if_icmp .eq 5, 3), (594, .iconst 0, 1), (595, .ireturn, 1), (596, .iload 10, 2), (598, .iload 15, 2), (600, .iadd, 1), (601, .istore 10, 2), (603, .aload_n 2, 1), (604, .aload 9, 2), (606, .invokestatic 50, 3), (609, .istore 15, 2), (611, .aload_n 1, 1), (612, .invokevirtual 88, 3), (615, .iload 15, 2), (617, .if_icmp .ne 13, 3), (620, .aload_n 1, 1), (621, .iconst 4, 1), (622, .invokevirtual 71, 3), (625, .iload 10, 2), (627, .if_icmp .eq 5, 3), (630, .iconst 0, 1), (631, .ireturn, 1), (632, .iconst 0, 1), (633, .istore 16, 2), (635, .iload 16, 2), (637, .iload 4, 2), (639, .if_icmp .ge 56, 3), (642, .aload_n 1, 1)]
theorem dd_L_law_c5 : Dall 99 dl_L_law_c5 = true := by decide +kernel
def dl_L_law_c6 : List (Nat × Instr × Nat) := [(643, .iload 16, 2), (645, .invokevirtual 91, 3), (648, .aload 9, 2), (650, .iload 16, 2), (652, .iaload, 1), (653, .if_icmp .ne 34, 3), (656, .aload_n 1, 1), (657, .iload 15, 2), (659, .iload 16, 2), (661, .invokevirtual 94, 3), (664, .aload 9, 2), (666, .iload 16, 2), (668, .iaload, 1), (669, .if_icmp .ne 18, 3), (672, .aload_n 1, 1), (673, .aload 9, 2), (675, .iload 16, 2), (677, .iaload, 1), (678, .iconst 5, 1), (679, .invokevirtual 97, 3), (682, .iload 16, 2), (684, .if_icmp .eq 5, 3), (687, .iconst 0, 1), (688, .ireturn, 1), (689, .iinc 16 1, 3), (692, .goto (-57), 3), (695, .iconst 0, 1), (696, .istore 16, 2), (698, .iload 16, 2), (700, .iload 4, 2), (702, .iconst 1, 1), (703, .isub, 1), (704, .if_icmp .ge 58, 3), (707, .aload_n 1, 1), (708, .aload 9, 2), (710, .iload 16, 2), (712, .iaload, 1), (713, .aload 9, 2), (715, .iload 16, 2), (717, .iconst 1, 1), (718, .iadd, 1), (719, .iaload, 1), (720, .iload 16, 2), (722, .iload 14, 2), (724, .invokevirtual 100, 3), (727, .aload_n 2, 1), (728, .aload 5, 2), (730, .bipush (-9), 2), (732, .aload 9, 2), (734, .iload 16, 2), (736, .iaload, 1), (737, .aload 9, 2), (739, .iload 16, 2), (741, .iconst 1, 1), (742, .iadd, 1), (743, .iaload, 1), (744, .iload 16, 2), (746, .iload 14, 2), (748, .invokestatic 34, 3), (751, .if_icmp .eq 5, 3)]
theorem dd_L_law_c6 : Dall 99 dl_L_law_c6 = true := by decide +kernel
def dl_L_law_c7 : List (Nat × Instr × Nat) := [(754, .iconst 0, 1), (755, .ireturn, 1), (756, .iinc 16 1, 3), (759, .goto (-61), 3), (762, .bipush 7, 2), (764, .newarray .int, 2), (766, .astore 16, 2), (768, .iconst 0, 1), (769, .istore 17, 2), (771, .iload 17, 2), (773, .bipush 7, 2), (775, .if_icmp .ge 19, 3), (778, .aload 16, 2), (780, .iload 17, 2), (782, .aload 9, 2), (784, .iload 17, 2), (786, .iaload, 1), (787, .iastore, 1), (788, .iinc 17 1, 3), (791, .goto (-20), 3), (794, .aload_n 2, 1), (795, .aload 5, 2), (797, .bipush (-9), 2), (799, .aload 16, 2), (801, .iload 14, 2), (803, .invokestatic 46, 3), (806, .pop, 1), (807, .aload_n 1, 1), (808, .iload 15, 2), (810, .iload 14, 2), (812, .invokevirtual 103, 3), (815, .aload_n 2, 1), (816, .aload 16, 2), (818, .invokestatic 50, 3), (821, .if_icmp .eq 5, 3), (824, .iconst 0, 1), (825, .ireturn, 1), (826, .aload_n 1, 1), (827, .iload 15, 2), (829, .iload 14, 2), (831, .iconst 0, 1), (832, .invokevirtual 106, 3), (835, .istore 17, 2), (837, .aload_n 1, 1), (838, .iload 15, 2), (840, .iload 14, 2), (842, .iconst 1, 1), (843, .invokevirtual 106, 3), (846, .istore 18, 2), (848, .iload 17, 2), (850, .ifCond .lt 19, 3), (853, .iload 18, 2), (855, .iconst 1, 1), (856, .if_icmp .lt 13, 3), (859, .iload 17, 2), (861, .iload 18, 2), (863, .iadd, 1), (864, .iload 8, 2), (866, .if_icmp .le 5, 3), (869, .iconst 0, 1)]
theorem dd_L_law_c7 : Dall 99 dl_L_law_c7 = true := by decide +kernel
def dl_L_law_c8 : List (Nat × Instr × Nat) := [(870, .ireturn, 1), (871, .aload_n 2, 1), (872, .iload 15, 2), (874, .aload 16, 2), (876, .invokestatic 38, 3), (879, .iconst (-1), 1), (880, .istore 19, 2), (882, .iconst (-1), 1), (883, .istore 20, 2), (885, .iconst 0, 1), (886, .istore 21, 2), (888, .iload 21, 2), (890, .iload 17, 2), (892, .iload 18, 2), (894, .iadd, 1), (895, .if_icmp .gt 146, 3), (898, .aload_n 2, 1), (899, .aload 16, 2), (901, .invokestatic 50, 3), (904, .istore 22, 2), (906, .iload 21, 2), (908, .iload 17, 2), (910, .if_icmp .ne 7, 3), (913, .iload 22, 2), (915, .istore 19, 2), (917, .iload 21, 2), (919, .iload 17, 2), (921, .iconst 1, 1), (922, .isub, 1), (923, .if_icmp .ne 7, 3), (926, .iload 22, 2), (928, .istore 20, 2), (930, .iload 21, 2), (932, .iload 17, 2), (934, .if_icmp .le 33, 3), (937, .iload 22, 2), (939, .iload 19, 2), (941, .if_icmp .ne 7, 3), (944, .iconst 1, 1), (945, .goto 4, 3), (948, .iconst 0, 1), (949, .iload 21, 2), (951, .iload 17, 2), (953, .iload 18, 2), (955, .iadd, 1), (956, .if_icmp .ne 7, 3), (959, .iconst 1, 1), (960, .goto 4, 3), (963, .iconst 0, 1), (964, .if_icmp .ne 25, 3), (967, .iload 21, 2), (969, .iload 17, 2), (971, .iload 18, 2), (973, .iadd, 1), (974, .if_icmp .ne 17, 3), (977, .iload 17, 2), (979, .ifCond .le 12, 3), (982, .iload 22, 2), (984, .iload 20, 2), (986, .if_icmp .ne 5, 3)]
theorem dd_L_law_c8 : Dall 99 dl_L_law_c8 = true := by decide +kernel
def dl_L_law_c9 : List (Nat × Instr × Nat) := [(989, .iconst 0, 1), (990, .ireturn, 1), (991, .iload 21, 2), (993, .iload 17, 2), (995, .iload 18, 2), (997, .iadd, 1), (998, .iconst 1, 1), (999, .isub, 1), (1000, .if_icmp .ne 22, 3), (1003, .iload 17, 2), (1005, .ifCond .le 17, 3), (1008, .iload 20, 2), (1010, .ifCond .lt 12, 3), (1013, .iload 22, 2), (1015, .iload 20, 2), (1017, .if_icmp .ne 5, 3), (1020, .iconst 0, 1), (1021, .ireturn, 1), (1022, .aload_n 2, 1), (1023, .aload 5, 2), (1025, .bipush (-9), 2), (1027, .aload 16, 2), (1029, .iload 14, 2), (1031, .invokestatic 46, 3), (1034, .pop, 1), (1035, .iinc 21 1, 3), (1038, .goto (-150), 3), (1041, .iload 12, 2), (1043, .bipush 15, 2), (1045, .ishr, 1), (1046, .iload 4, 2), (1048, .invokestatic 15, 3), (1051, .istore 21, 2), (1053, .aload_n 2, 1), (1054, .aload 5, 2), (1056, .bipush (-9), 2), (1058, .iload 21, 2), (1060, .iload 15, 2), (1062, .iload 14, 2), (1064, .invokestatic 109, 3), (1067, .istore 22, 2), (1069, .aload_n 1, 1), (1070, .iload 21, 2), (1072, .iload 15, 2), (1074, .iload 14, 2), (1076, .invokevirtual 113, 3), (1079, .iload 22, 2), (1081, .sipush 9999, 3), (1084, .if_icmp .ne 8, 3), (1087, .bipush (-9), 2), (1089, .goto 5, 3), (1092, .iload 22, 2), (1094, .if_icmp .eq 5, 3), (1097, .iconst 0, 1), (1098, .ireturn, 1), (1099, .bipush (-9), 2), (1101, .istore 23, 2), (1103, .iconst 0, 1), (1104, .istore 24, 2), (1106, .iconst 0, 1)]
theorem dd_L_law_c9 : Dall 99 dl_L_law_c9 = true := by decide +kernel
def dl_L_law_c10 : List (Nat × Instr × Nat) := [(1107, .istore 25, 2), (1109, .iload 25, 2), (1111, .aload 5, 2), (1113, .iconst 0, 1), (1114, .iaload, 1), (1115, .if_icmp .ge 65, 3), (1118, .aload_n 2, 1), (1119, .aload 5, 2), (1121, .iload 25, 2), (1123, .iload 21, 2), (1125, .iload 15, 2), (1127, .iload 14, 2), (1129, .invokestatic 109, 3), (1132, .istore 26, 2), (1134, .iload 26, 2), (1136, .iload 22, 2), (1138, .if_icmp .le 11, 3), (1141, .iload 26, 2), (1143, .iload 22, 2), (1145, .isub, 1), (1146, .goto 8, 3), (1149, .iload 22, 2), (1151, .iload 26, 2), (1153, .isub, 1), (1154, .istore 27, 2), (1156, .iload 27, 2), (1158, .iload 24, 2), (1160, .if_icmp .gt 6, 3), (1163, .goto 11, 3), (1166, .iload 27, 2), (1168, .istore 24, 2), (1170, .iload 25, 2), (1172, .istore 23, 2), (1174, .iinc 25 1, 3), (1177, .goto (-68), 3), (1180, .aload_n 1, 1), (1181, .iload 21, 2), (1183, .iload 15, 2), (1185, .iload 14, 2), (1187, .invokevirtual 115, 3), (1190, .iload 23, 2), (1192, .if_icmp .eq 5, 3), (1195, .iconst 0, 1), (1196, .ireturn, 1), (1197, .iload 12, 2), (1199, .bipush 18, 2), (1201, .ishr, 1), (1202, .iconst 5, 1), (1203, .invokestatic 15, 3), (1206, .ifCond .le 6, 3), (1209, .goto 77, 3), (1212, .aload_n 1, 1), (1213, .iconst 5, 1), (1214, .invokevirtual 71, 3), (1217, .istore 25, 2), (1219, .aload_n 1, 1), (1220, .iconst 1, 1), (1221, .iload 25, 2), (1223, .isub, 1), (1224, .invokevirtual 118, 3)]
theorem dd_L_law_c10 : Dall 99 dl_L_law_c10 = true := by decide +kernel
def dl_L_law_c11 : List (Nat × Instr × Nat) := [(1227, .iload 25, 2), (1229, .if_icmp .ne 15, 3), (1232, .aload_n 1, 1), (1233, .iconst 5, 1), (1234, .invokevirtual 71, 3), (1237, .iconst 1, 1), (1238, .iload 25, 2), (1240, .isub, 1), (1241, .if_icmp .eq 5, 3), (1244, .iconst 0, 1), (1245, .ireturn, 1), (1246, .iconst 0, 1), (1247, .istore 26, 2), (1249, .iload 26, 2), (1251, .bipush 19, 2), (1253, .if_icmp .ge 33, 3), (1256, .aload 5, 2), (1258, .iload 26, 2), (1260, .iaload, 1), (1261, .istore 27, 2), (1263, .aload 5, 2), (1265, .iload 26, 2), (1267, .aload 6, 2), (1269, .iload 26, 2), (1271, .iaload, 1), (1272, .iastore, 1), (1273, .aload 6, 2), (1275, .iload 26, 2), (1277, .iload 27, 2), (1279, .iastore, 1), (1280, .iinc 26 1, 3), (1283, .goto (-34), 3), (1286, .iinc 11 1, 3), (1289, .goto (-1102), 3), (1292, .aload_n 1, 1), (1293, .iconst 2, 1), (1294, .invokevirtual 118, 3), (1297, .iconst (-1), 1), (1298, .if_icmp .ne 198, 3), (1301, .aload_n 1, 1), (1302, .iload 8, 2), (1304, .invokevirtual 82, 3), (1307, .iconst (-1), 1), (1308, .if_icmp .ne 188, 3), (1311, .aload_n 1, 1), (1312, .iconst 0, 1), (1313, .iload 4, 2), (1315, .invokevirtual 94, 3), (1318, .iconst (-1), 1), (1319, .if_icmp .ne 177, 3), (1322, .aload_n 1, 1), (1323, .iload 4, 2), (1325, .invokevirtual 91, 3), (1328, .iconst (-1), 1), (1329, .if_icmp .ne 167, 3), (1332, .aload_n 1, 1), (1333, .iconst 0, 1), (1334, .iload 4, 2), (1336, .iconst 0, 1), (1337, .iconst 1, 1)]
theorem dd_L_law_c11 : Dall 99 dl_L_law_c11 = true := by decide +kernel
def dl_L_law_c12 : List (Nat × Instr × Nat) := [(1338, .invokevirtual 100, 3), (1341, .iconst (-1), 1), (1342, .if_icmp .ne 154, 3), (1345, .aload_n 1, 1), (1346, .iconst 0, 1), (1347, .iconst 0, 1), (1348, .iconst 0, 1), (1349, .iconst 1, 1), (1350, .invokevirtual 100, 3), (1353, .bipush (-2), 2), (1355, .if_icmp .ne 141, 3), (1358, .aload_n 1, 1), (1359, .iconst 0, 1), (1360, .iconst 1, 1), (1361, .iload 4, 2), (1363, .iconst 1, 1), (1364, .isub, 1), (1365, .iconst 1, 1), (1366, .invokevirtual 100, 3), (1369, .bipush (-2), 2), (1371, .if_icmp .ne 125, 3), (1374, .aload_n 1, 1), (1375, .iconst 0, 1), (1376, .iconst 1, 1), (1377, .iconst 0, 1), (1378, .iconst 4, 1), (1379, .invokevirtual 100, 3), (1382, .bipush (-2), 2), (1384, .if_icmp .ne 112, 3), (1387, .aload_n 1, 1), (1388, .iconst 0, 1), (1389, .iconst 1, 1), (1390, .invokevirtual 62, 3), (1393, .bipush (-2), 2), (1395, .if_icmp .ne 101, 3), (1398, .aload_n 1, 1), (1399, .iconst 1, 1), (1400, .bipush 100, 2), (1402, .invokevirtual 62, 3), (1405, .bipush (-2), 2), (1407, .if_icmp .ne 89, 3), (1410, .aload_n 1, 1), (1411, .iload 8, 2), (1413, .iconst 1, 1), (1414, .invokevirtual 103, 3), (1417, .iconst (-1), 1), (1418, .if_icmp .ne 78, 3), (1421, .aload_n 1, 1), (1422, .iconst 0, 1), (1423, .iconst 4, 1), (1424, .invokevirtual 103, 3), (1427, .bipush (-2), 2), (1429, .if_icmp .ne 67, 3), (1432, .aload_n 1, 1), (1433, .iload 8, 2), (1435, .iconst 1, 1), (1436, .iconst 0, 1), (1437, .invokevirtual 106, 3), (1440, .iconst (-1), 1), (1441, .if_icmp .ne 55, 3)]
theorem dd_L_law_c12 : Dall 99 dl_L_law_c12 = true := by decide +kernel
def dl_L_law_c13 : List (Nat × Instr × Nat) := [(1444, .aload_n 1, 1), (1445, .iconst 0, 1), (1446, .iconst 1, 1), (1447, .iconst 2, 1), (1448, .invokevirtual 106, 3), (1451, .bipush (-2), 2), (1453, .if_icmp .ne 43, 3), (1456, .aload_n 1, 1), (1457, .iload 4, 2), (1459, .iconst 0, 1), (1460, .iconst 1, 1), (1461, .invokevirtual 113, 3), (1464, .iconst (-1), 1), (1465, .if_icmp .ne 31, 3), (1468, .aload_n 1, 1), (1469, .iconst 0, 1), (1470, .iconst 0, 1), (1471, .iconst 0, 1), (1472, .invokevirtual 113, 3), (1475, .bipush (-2), 2), (1477, .if_icmp .ne 19, 3), (1480, .aload_n 1, 1), (1481, .iconst 0, 1), (1482, .iload 8, 2), (1484, .iconst 1, 1), (1485, .invokevirtual 115, 3), (1488, .iconst (-1), 1), (1489, .if_icmp .ne 7, 3), (1492, .iconst 1, 1), (1493, .goto 4, 3), (1496, .iconst 0, 1), (1497, .ireturn, 1)]
theorem dd_L_law_c13 : Dall 99 dl_L_law_c13 = true := by decide +kernel
theorem t_L_law {h : Hp} {P : Value → Hp → Prop} {p0 : Nat} (T : (tg h 0 = 0) ∧ (okg 99 0 [.ref p0, .retAddr 0, .retAddr 0, .retAddr 0, .retAddr 0, .retAddr 0, .retAddr 0, .retAddr 0, .retAddr 0, .retAddr 0, .retAddr 0, .retAddr 0, .retAddr 0, .retAddr 0, .retAddr 0, .retAddr 0, .retAddr 0, .retAddr 0, .retAddr 0, .retAddr 0, .retAddr 0, .retAddr 0, .retAddr 0, .retAddr 0, .retAddr 0, .retAddr 0, .retAddr 0, .retAddr 0] [.ref 0] [.ref 0] = true) ∧ R 0 0 [.ref 0, .retAddr 0] [] (mk h 0 12 0 17) (fun _ h2 => R 99 7 [.ref p0, .retAddr 0, .retAddr 0, .retAddr 0, .retAddr 0, .retAddr 0, .retAddr 0, .retAddr 0, .retAddr 0, .retAddr 0, .retAddr 0, .retAddr 0, .retAddr 0, .retAddr 0, .retAddr 0, .retAddr 0, .retAddr 0, .retAddr 0, .retAddr 0, .retAddr 0, .retAddr 0, .retAddr 0, .retAddr 0, .retAddr 0, .retAddr 0, .retAddr 0, .retAddr 0, .retAddr 0] [.ref 0] h2 P)) : R 99 0 [.ref p0, .retAddr 0, .retAddr 0, .retAddr 0, .retAddr 0, .retAddr 0, .retAddr 0, .retAddr 0, .retAddr 0, .retAddr 0, .retAddr 0, .retAddr 0, .retAddr 0, .retAddr 0, .retAddr 0, .retAddr 0, .retAddr 0, .retAddr 0, .retAddr 0, .retAddr 0, .retAddr 0, .retAddr 0, .retAddr 0, .retAddr 0, .retAddr 0, .retAddr 0, .retAddr 0, .retAddr 0] [] h P := by
  obtain ⟨g1, T⟩ := T
  refine R_new (Dat dd_L_law_c0 0 rfl) (ci := 11) rfl rfl (q := 0) rfl g1 (Or.inl (by decide)) ?_
  refine R_dup (Dat dd_L_law_c0 1 rfl) rfl ?_
  obtain ⟨g2, T⟩ := T
  exact R_call2 (Dat dd_L_law_c0 2 rfl) rfl rfl rfl rfl g2 rfl T
theorem t_L_law_7 {h : Hp} {P : Value → Hp → Prop} {a0 : Nat} {a1 a2 a3 a4 a5 a6 a7 a8 a9 a10 a11 a12 a13 a14 a15 a16 a17 a18 a19 a20 a21 a22 a23 a24 a25 a26 a27 : Value} (T : (tg h (10000 + ck h) = 0) ∧ R 89 0 [.ref 0, .ref a0, .int (I 0), .int (I 6), .ref (10000 + ck h), .retAddr 0, .retAddr 0, .retAddr 0, .retAddr 0] [] (mk h (10000 + ck h) 20 (25 : Int).toNat (25 : Int).toNat) (fun v h2 => R 99 22 [.ref a0, .ref 0, .ref (10000 + ck h), a3, a4, a5, a6, a7, a8, a9, a10, a11, a12, a13, a14, a15, a16, a17, a18, a19, a20, a21, a22, a23, a24, a25, a26, a27] (v :: []) h2 P)) : R 99 7 [.ref a0, a1, a2, a3, a4, a5, a6, a7, a8, a9, a10, a11, a12, a13, a14, a15, a16, a17, a18, a19, a20, a21, a22, a23, a24, a25, a26, a27] [.ref 0] h P := by
  refine R_astore_n (Dat dd_L_law_c0 3 rfl) rfl rfl rfl ?_
  refine R_bipush (Dat dd_L_law_c0 4 rfl) (a := 25) rfl ?_
  obtain ⟨g1, T⟩ := T
  refine R_newa (Dat dd_L_law_c0 5 rfl) rfl (q := 10000 + ck h) rfl g1 (Or.inr (Nat.le_add_right _ _)) (by decide) (by decide) ?_
  refine R_astore_n (Dat dd_L_law_c0 6 rfl) rfl rfl rfl ?_
  refine R_aload_n (Dat dd_L_law_c0 7 rfl) rfl rfl ?_
  refine R_aload_n (Dat dd_L_law_c0 8 rfl) rfl rfl ?_
  refine R_iconst (Dat dd_L_law_c0 9 rfl) ?_
  refine R_bipush (Dat dd_L_law_c0 10 rfl) (a := 6) rfl ?_
  refine R_aload_n (Dat dd_L_law_c0 11 rfl) rfl rfl ?_
  exact R_call0 (Dat dd_L_law_c0 12 rfl) rfl rfl rfl rfl rfl rfl T
theorem t_L_law_22 {h : Hp} {P : Value → Hp → Prop} {s0 : Int} {a0 a2 : Nat} {a3 a4 a5 a6 a7 a8 a9 a10 a11 a12 a13 a14 a15 a16 a17 a18 a19 a20 a21 a22 a23 a24 a25 a26 a27 : Value} (T : (rng s0) ∧ ((s0 < 7 → P (.int (I 0)) h) ∧ (¬ s0 < 7 → (okg 99 7 [.ref a0, .ref 0, .ref a2, .int (I s0), a4, a5, a6, a7, a8, a9, a10, a11, a12, a13, a14, a15, a16, a17, a18, a19, a20, a21, a22, a23, a24, a25, a26, a27] [] [.ref 0, .int (I 0), .int (I 0), .int (I 0), .int (I s0)] = true) ∧ (tg h 0 = 12) ∧ R 7 0 [.ref 0, .int (I 0), .int (I 0), .int (I 0), .int (I s0), .retAddr 0, .retAddr 0, .retAddr 0] [] h (fun v h2 => R 99 37 [.ref a0, .ref 0, .ref a2, .int (I s0), a4, a5, a6, a7, a8, a9, a10, a11, a12, a13, a14, a15, a16, a17, a18, a19, a20, a21, a22, a23, a24, a25, a26, a27] (v :: []) h2 P)))) : R 99 22 [.ref a0, .ref 0, .ref a2, a3, a4, a5, a6, a7, a8, a9, a10, a11, a12, a13, a14, a15, a16, a17, a18, a19, a20, a21, a22, a23, a24, a25, a26, a27] [.int (I s0)] h P := by
  refine R_istore_n (Dat dd_L_law_c0 13 rfl) rfl rfl ?_
  refine R_iload_n (Dat dd_L_law_c0 14 rfl) rfl ?_
  refine R_bipush (Dat dd_L_law_c0 15 rfl) (a := 7) rfl ?_
  obtain ⟨g1, T⟩ := T
  refine R_ic_lt (Dat dd_L_law_c0 16 rfl) rfl g1 (by decide) (fun c => ?_) (fun c => ?_)
  · replace T := T.1 c
    refine R_iconst (Dat dd_L_law_c0 33 rfl) ?_
    exact R_ireturn (Dat dd_L_law_c0 34 rfl) rfl T
  · replace T := T.2 c
    refine R_aload_n (Dat dd_L_law_c0 17 rfl) rfl rfl ?_
    refine R_iconst (Dat dd_L_law_c0 18 rfl) ?_
    refine R_iconst (Dat dd_L_law_c0 19 rfl) ?_
    refine R_iconst (Dat dd_L_law_c0 20 rfl) ?_
    refine R_iload_n (Dat dd_L_law_c0 21 rfl) rfl ?_
    obtain ⟨g2, T⟩ := T
    obtain ⟨g3, T⟩ := T
    exact R_call1 (Dat dd_L_law_c0 22 rfl) rfl g3 rfl rfl rfl g2 rfl T
theorem t_L_law_37 {h : Hp} {P : Value → Hp → Prop} {s0 : Int} {a0 a2 : Nat} {a3 a4 a5 a6 a7 a8 a9 a10 a11 a12 a13 a14 a15 a16 a17 a18 a19 a20 a21 a22 a23 a24 a25 a26 a27 : Value} (T : (tg h a2 = 20 ∨ tg h a2 = 30) ∧ ((ln h a2 : Int) ≤ 2147483648) ∧ ((24 : Int) < ln h a2) ∧ (rng s0) ∧ (rng (iv h a2 24)) ∧ ((s0 = (iv h a2 24) → (okg 99 53 [.ref a0, .ref 0, .ref a2, a3, a4, a5, a6, a7, a8, a9, a10, a11, a12, a13, a14, a15, a16, a17, a18, a19, a20, a21, a22, a23, a24, a25, a26, a27] [] [.ref 0, .int (I 1), .int (I 1)] = true) ∧ (tg h 0 = 12) ∧ R 53 0 [.ref 0, .int (I 1), .int (I 1), .retAddr 0, .retAddr 0, .retAddr 0] [] h (fun v h2 => R 99 50 [.ref a0, .ref 0, .ref a2, a3, a4, a5, a6, a7, a8, a9, a10, a11, a12, a13, a14, a15, a16, a17, a18, a19, a20, a21, a22, a23, a24, a25, a26, a27] (v :: []) h2 P)) ∧ (¬ s0 = (iv h a2 24) → P (.int (I 0)) h))) : R 99 37 [.ref a0, .ref 0, .ref a2, a3, a4, a5, a6, a7, a8, a9, a10, a11, a12, a13, a14, a15, a16, a17, a18, a19, a20, a21, a22, a23, a24, a25, a26, a27] [.int (I s0)] h P := by
  refine R_aload_n (Dat dd_L_law_c0 23 rfl) rfl rfl ?_
  refine R_bipush (Dat dd_L_law_c0 24 rfl) (a := 24) rfl ?_
  obtain ⟨g1, T⟩ := T
  obtain ⟨g2, T⟩ := T
  obtain ⟨g3, T⟩ := T
  refine R_iaload (Dat dd_L_law_c0 25 rfl) g1 g2 (by decide) g3 ?_
  obtain ⟨g4, T⟩ := T
  obtain ⟨g5, T⟩ := T
  refine R_ic_ne (Dat dd_L_law_c0 26 rfl) rfl g4 g5 (fun c => ?_) (fun c => ?_)
  · replace T := T.1 c
    refine R_aload_n (Dat dd_L_law_c0 27 rfl) rfl rfl ?_
    refine R_iconst (Dat dd_L_law_c0 28 rfl) ?_
    refine R_iconst (Dat dd_L_law_c0 29 rfl) ?_
    obtain ⟨g6, T⟩ := T
    obtain ⟨g7, T⟩ := T
    exact R_call1 (Dat dd_L_law_c0 30 rfl) rfl g7 rfl rfl rfl g6 rfl T
  · replace T := T.2 c
    refine R_iconst (Dat dd_L_law_c0 33 rfl) ?_
    exact R_ireturn (Dat dd_L_law_c0 34 rfl) rfl T
theorem t_L_law_50 {h : Hp} {P : Value → Hp → Prop} {s0 : Int} {a0 a2 : Nat} {a3 a4 a5 a6 a7 a8 a9 a10 a11 a12 a13 a14 a15 a16 a17 a18 a19 a20 a21 a22 a23 a24 a25 a26 a27 : Value} (T : (rng s0) ∧ ((s0 = (-3) → (tg h a2 = 20 ∨ tg h a2 = 30) ∧ ((ln h a2 : Int) ≤ 2147483648) ∧ ((24 : Int) < ln h a2) ∧ (tg h (10000 + ck h) = 0) ∧ (tg (mk h (10000 + ck h) 20 (19 : Int).toNat (19 : Int).toNat) (10000 + ck (mk h (10000 + ck h) 20 (19 : Int).toNat (19 : Int).toNat)) = 0) ∧ R 90 0 [.ref 0, .ref a0, .int (I 4), .ref (10000 + ck h), .retAddr 0, .retAddr 0, .retAddr 0, .retAddr 0, .retAddr 0] [] (mk (mk h (10000 + ck h) 20 (19 : Int).toNat (19 : Int).toNat) (10000 + ck (mk h (10000 + ck h) 20 (19 : Int).toNat (19 : Int).toNat)) 20 (19 : Int).toNat (19 : Int).toNat) (fun v h2 => R 99 83 [.ref a0, .ref 0, .ref a2, a3, .int (I (iv h a2 24)), .ref (10000 + ck h), .ref (10000 + ck (mk h (10000 + ck h) 20 (19 : Int).toNat (19 : Int).toNat)), a7, a8, a9, a10, a11, a12, a13, a14, a15, a16, a17, a18, a19, a20, a21, a22, a23, a24, a25, a26, a27] (v :: []) h2 P)) ∧ (¬ s0 = (-3) → P (.int (I 0)) h))) : R 99 50 [.ref a0, .ref 0, .ref a2, a3, a4, a5, a6, a7, a8, a9, a10, a11, a12, a13, a14, a15, a16, a17, a18, a19, a20, a21, a22, a23, a24, a25, a26, a27] [.int (I s0)] h P := by
  refine R_bipush (Dat dd_L_law_c0 31 rfl) (a := (-3)) rfl ?_
  obtain ⟨g1, T⟩ := T
  refine R_ic_eq (Dat dd_L_law_c0 32 rfl) rfl g1 (by decide) (fun c => ?_) (fun c => ?_)
  · replace T := T.1 c
    refine R_aload_n (Dat dd_L_law_c0 35 rfl) rfl rfl ?_
    refine R_bipush (Dat dd_L_law_c0 36 rfl) (a := 24) rfl ?_
    obtain ⟨g2, T⟩ := T
    obtain ⟨g3, T⟩ := T
    obtain ⟨g4, T⟩ := T
    refine R_iaload (Dat dd_L_law_c0 37 rfl) g2 g3 (by decide) g4 ?_
    refine R_istore (Dat dd_L_law_c0 38 rfl) rfl rfl ?_
    refine R_bipush (Dat dd_L_law_c0 39 rfl) (a := 19) rfl ?_
    obtain ⟨g5, T⟩ := T
    refine R_newa (Dat dd_L_law_c0 40 rfl) rfl (q := 10000 + ck h) rfl g5 (Or.inr (Nat.le_add_right _ _)) (by decide) (by decide) ?_
    refine R_astore (Dat dd_L_law_c0 41 rfl) rfl rfl rfl ?_
    refine R_bipush (Dat dd_L_law_c0 42 rfl) (a := 19) rfl ?_
    obtain ⟨g6, T⟩ := T
    refine R_newa (Dat dd_L_law_c0 43 rfl) rfl (q := 10000 + ck (mk h (10000 + ck h) 20 (19 : Int).toNat (19 : Int).toNat)) rfl g6 (Or.inr (Nat.le_add_right _ _)) (by decide) (by decide) ?_
    refine R_astore (Dat dd_L_law_c0 44 rfl) rfl rfl rfl ?_
    refine R_aload_n (Dat dd_L_law_c0 45 rfl) rfl rfl ?_
    refine R_aload_n (Dat dd_L_law_c0 46 rfl) rfl rfl ?_
    refine R_iconst (Dat dd_L_law_c0 47 rfl) ?_
    refine R_aload (Dat dd_L_law_c0 48 rfl) rfl rfl ?_
    exact R_call0 (Dat dd_L_law_c0 49 rfl) rfl rfl rfl rfl rfl rfl T
  · replace T := T.2 c
    refine R_iconst (Dat dd_L_law_c0 33 rfl) ?_
    exact R_ireturn (Dat dd_L_law_c0 34 rfl) rfl T
theorem t_L_law_83 {h : Hp} {P : Value → Hp → Prop} {a4 s0 : Int} {a0 a2 a5 a6 : Nat} {a3 a7 a8 a9 a10 a11 a12 a13 a14 a15 a16 a17 a18 a19 a20 a21 a22 a23 a24 a25 a26 a27 : Value} (T : (rng s0) ∧ ((s0 < 3 → P (.int (I 0)) h) ∧ (¬ s0 < 3 → (okg 99 40 [.ref a0, .ref 0, .ref a2, a3, .int (I a4), .ref a5, .ref a6, .int (I s0), a8, a9, a10, a11, a12, a13, a14, a15, a16, a17, a18, a19, a20, a21, a22, a23, a24, a25, a26, a27] [] [.ref 0, .int (I 1), .int (I 2), .int (I 0), .int (I s0)] = true) ∧ (tg h 0 = 12) ∧ R 40 0 [.ref 0, .int (I 1), .int (I 2), .int (I 0), .int (I s0), .retAddr 0, .retAddr 0, .retAddr 0] [] h (fun v h2 => R 99 100 [.ref a0, .ref 0, .ref a2, a3, .int (I a4), .ref a5, .ref a6, .int (I s0), a8, a9, a10, a11, a12, a13, a14, a15, a16, a17, a18, a19, a20, a21, a22, a23, a24, a25, a26, a27] (v :: []) h2 P)))) : R 99 83 [.ref a0, .ref 0, .ref a2, a3, .int (I a4), .ref a5, .ref a6, a7, a8, a9, a10, a11, a12, a13, a14, a15, a16, a17, a18, a19, a20, a21, a22, a23, a24, a25, a26, a27] [.int (I s0)] h P := by
  refine R_istore (Dat dd_L_law_c0 50 rfl) rfl rfl ?_
  refine R_iload (Dat dd_L_law_c0 51 rfl) rfl ?_
  refine R_iconst (Dat dd_L_law_c0 52 rfl) ?_
  obtain ⟨g1, T⟩ := T
  refine R_ic_lt (Dat dd_L_law_c0 53 rfl) rfl g1 (by decide) (fun c => ?_) (fun c => ?_)
  · replace T := T.1 c
    refine R_iconst (Dat dd_L_law_c1 1 rfl) ?_
    exact R_ireturn (Dat dd_L_law_c1 2 rfl) rfl T
  · replace T := T.2 c
    refine R_aload_n (Dat dd_L_law_c0 54 rfl) rfl rfl ?_
    refine R_iconst (Dat dd_L_law_c0 55 rfl) ?_
    refine R_iconst (Dat dd_L_law_c0 56 rfl) ?_
    refine R_iconst (Dat dd_L_law_c0 57 rfl) ?_
    refine R_iload (Dat dd_L_law_c0 58 rfl) rfl ?_
    obtain ⟨g2, T⟩ := T
    obtain ⟨g3, T⟩ := T
    exact R_call1 (Dat dd_L_law_c0 59 rfl) rfl g3 rfl rfl rfl g2 rfl T
theorem t_L_law_100 {h : Hp} {P : Value → Hp → Prop} {a4 s0 : Int} {a0 a2 a5 a6 : Nat} {a3 a7 a8 a9 a10 a11 a12 a13 a14 a15 a16 a17 a18 a19 a20 a21 a22 a23 a24 a25 a26 a27 : Value} (T : (rng s0) ∧ ((s0 = 0 → R 90 0 [.ref 0, .ref a0, .int (I 7), .ref a6, .retAddr 0, .retAddr 0, .retAddr 0, .retAddr 0, .retAddr 0] [] h (fun v h2 => R 99 114 [.ref a0, .ref 0, .ref a2, a3, .int (I a4), .ref a5, .ref a6, a7, a8, a9, a10, a11, a12, a13, a14, a15, a16, a17, a18, a19, a20, a21, a22, a23, a24, a25, a26, a27] (v :: []) h2 P)) ∧ (¬ s0 = 0 → P (.int (I 0)) h))) : R 99 100 [.ref a0, .ref 0, .ref a2, a3, .int (I a4), .ref a5, .ref a6, a7, a8, a9, a10, a11, a12, a13, a14, a15, a16, a17, a18, a19, a20, a21, a22, a23, a24, a25, a26, a27] [.int (I s0)] h P := by
  obtain ⟨g1, T⟩ := T
  refine R_if_eq (Dat dd_L_law_c1 0 rfl) rfl g1  (fun c => ?_) (fun c => ?_)
  · replace T := T.1 c
    refine R_aload_n (Dat dd_L_law_c1 3 rfl) rfl rfl ?_
    refine R_aload_n (Dat dd_L_law_c1 4 rfl) rfl rfl ?_
    refine R_bipush (Dat dd_L_law_c1 5 rfl) (a := 7) rfl ?_
    refine R_aload (Dat dd_L_law_c1 6 rfl) rfl rfl ?_
    exact R_call0 (Dat dd_L_law_c1 7 rfl) rfl rfl rfl rfl rfl rfl T
  · replace T := T.2 c
    refine R_iconst (Dat dd_L_law_c1 1 rfl) ?_
    exact R_ireturn (Dat dd_L_law_c1 2 rfl) rfl T
theorem t_L_law_114 {h : Hp} {P : Value → Hp → Prop} {a4 s0 : Int} {a0 a2 a5 a6 : Nat} {a3 a7 a8 a9 a10 a11 a12 a13 a14 a15 a16 a17 a18 a19 a20 a21 a22 a23 a24 a25 a26 a27 : Value} (T : (rng s0) ∧ ((s0 < 3 → P (.int (I 0)) h) ∧ (¬ s0 < 3 → (okg 99 40 [.ref a0, .ref 0, .ref a2, a3, .int (I a4), .ref a5, .ref a6, .int (I s0), a8, a9, a10, a11, a12, a13, a14, a15, a16, a17, a18, a19, a20, a21, a22, a23, a24, a25, a26, a27] [] [.ref 0, .int (I 1), .int (I 2), .int (I 0), .int (I s0)] = true) ∧ (tg h 0 = 12) ∧ R 40 0 [.ref 0, .int (I 1), .int (I 2), .int (I 0), .int (I s0), .retAddr 0, .retAddr 0, .retAddr 0] [] h (fun v h2 => R 99 131 [.ref a0, .ref 0, .ref a2, a3, .int (I a4), .ref a5, .ref a6, .int (I s0), a8, a9, a10, a11, a12, a13, a14, a15, a16, a17, a18, a19, a20, a21, a22, a23, a24, a25, a26, a27] (v :: []) h2 P)))) : R 99 114 [.ref a0, .ref 0, .ref a2, a3, .int (I a4), .ref a5, .ref a6, a7, a8, a9, a10, a11, a12, a13, a14, a15, a16, a17, a18, a19, a20, a21, a22, a23, a24, a25, a26, a27] [.int (I s0)] h P := by
  refine R_istore (Dat dd_L_law_c1 8 rfl) rfl rfl ?_
  refine R_iload (Dat dd_L_law_c1 9 rfl) rfl ?_
  refine R_iconst (Dat dd_L_law_c1 10 rfl) ?_
  obtain ⟨g1, T⟩ := T
  refine R_ic_lt (Dat dd_L_law_c1 11 rfl) rfl g1 (by decide) (fun c => ?_) (fun c => ?_)
  · replace T := T.1 c
    refine R_iconst (Dat dd_L_law_c1 24 rfl) ?_
    exact R_ireturn (Dat dd_L_law_c1 25 rfl) rfl T
  · replace T := T.2 c
    refine R_aload_n (Dat dd_L_law_c1 12 rfl) rfl rfl ?_
    refine R_iconst (Dat dd_L_law_c1 13 rfl) ?_
    refine R_iconst (Dat dd_L_law_c1 14 rfl) ?_
    refine R_iconst (Dat dd_L_law_c1 15 rfl) ?_
    refine R_iload (Dat dd_L_law_c1 16 rfl) rfl ?_
    obtain ⟨g2, T⟩ := T
    obtain ⟨g3, T⟩ := T
    exact R_call1 (Dat dd_L_law_c1 17 rfl) rfl g3 rfl rfl rfl g2 rfl T
theorem t_L_law_131 {h : Hp} {P : Value → Hp → Prop} {a4 s0 : Int} {a0 a2 a5 a6 : Nat} {a3 a7 a8 a9 a10 a11 a12 a13 a14 a15 a16 a17 a18 a19 a20 a21 a22 a23 a24 a25 a26 a27 : Value} (T : (rng s0) ∧ ((s0 = 1 → (tg h 0 = 12) ∧ R 86 0 [.ref 0, .int (I 5)] [] h (fun v h2 => R 99 140 [.ref a0, .ref 0, .ref a2, a3, .int (I a4), .ref a5, .ref a6, a7, a8, a9, a10, a11, a12, a13, a14, a15, a16, a17, a18, a19, a20, a21, a22, a23, a24, a25, a26, a27] (v :: []) h2 P)) ∧ (¬ s0 = 1 → P (.int (I 0)) h))) : R 99 131 [.ref a0, .ref 0, .ref a2, a3, .int (I a4), .ref a5, .ref a6, a7, a8, a9, a10, a11, a12, a13, a14, a15, a16, a17, a18, a19, a20, a21, a22, a23, a24, a25, a26, a27] [.int (I s0)] h P := by
  refine R_iconst (Dat dd_L_law_c1 18 rfl) ?_
  obtain ⟨g1, T⟩ := T
  refine R_ic_ne (Dat dd_L_law_c1 19 rfl) rfl g1 (by decide) (fun c => ?_) (fun c => ?_)
  · replace T := T.1 c
    refine R_aload_n (Dat dd_L_law_c1 20 rfl) rfl rfl ?_
    refine R_iconst (Dat dd_L_law_c1 21 rfl) ?_
    obtain ⟨g2, T⟩ := T
    exact R_call1 (Dat dd_L_law_c1 22 rfl) rfl g2 rfl rfl rfl rfl rfl T
  · replace T := T.2 c
    refine R_iconst (Dat dd_L_law_c1 24 rfl) ?_
    exact R_ireturn (Dat dd_L_law_c1 25 rfl) rfl T
theorem t_L_law_140 {h : Hp} {P : Value → Hp → Prop} {a4 s0 : Int} {a0 a2 a5 a6 : Nat} {a3 a7 a8 a9 a10 a11 a12 a13 a14 a15 a16 a17 a18 a19 a20 a21 a22 a23 a24 a25 a26 a27 : Value} (T : (rng s0) ∧ ((s0 = 0 → (tg h 0 = 12) ∧ R 86 0 [.ref 0, .int (I 1)] [] h (fun v h2 => R 99 150 [.ref a0, .ref 0, .ref a2, a3, .int (I a4), .ref a5, .ref a6, a7, a8, a9, a10, a11, a12, a13, a14, a15, a16, a17, a18, a19, a20, a21, a22, a23, a24, a25, a26, a27] (v :: []) h2 P)) ∧ (¬ s0 = 0 → P (.int (I 0)) h))) : R 99 140 [.ref a0, .ref 0, .ref a2, a3, .int (I a4), .ref a5, .ref a6, a7, a8, a9, a10, a11, a12, a13, a14, a15, a16, a17, a18, a19, a20, a21, a22, a23, a24, a25, a26, a27] [.int (I s0)] h P := by
  obtain ⟨g1, T⟩ := T
  refine R_if_eq (Dat dd_L_law_c1 23 rfl) rfl g1  (fun c => ?_) (fun c => ?_)
  · replace T := T.1 c
    refine R_aload_n (Dat dd_L_law_c1 26 rfl) rfl rfl ?_
    refine R_iconst (Dat dd_L_law_c1 27 rfl) ?_
    obtain ⟨g2, T⟩ := T
    exact R_call1 (Dat dd_L_law_c1 28 rfl) rfl g2 rfl rfl rfl rfl rfl T
  · replace T := T.2 c
    refine R_iconst (Dat dd_L_law_c1 24 rfl) ?_
    exact R_ireturn (Dat dd_L_law_c1 25 rfl) rfl T
theorem t_L_law_150 {h : Hp} {P : Value → Hp → Prop} {a4 s0 : Int} {a0 a2 a5 a6 : Nat} {a3 a7 a8 a9 a10 a11 a12 a13 a14 a15 a16 a17 a18 a19 a20 a21 a22 a23 a24 a25 a26 a27 : Value} (T : (tg h (10000 + ck h) = 0) ∧ R 99 161 [.ref a0, .ref 0, .ref a2, a3, .int (I a4), .ref a5, .ref a6, a7, .int (I s0), .ref (10000 + ck h), .int (I 0), a11, a12, a13, a14, a15, a16, a17, a18, a19, a20, a21, a22, a23, a24, a25, a26, a27] [] (mk h (10000 + ck h) 20 (7 : Int).toNat (7 : Int).toNat) P) : R 99 150 [.ref a0, .ref 0, .ref a2, a3, .int (I a4), .ref a5, .ref a6, a7, a8, a9, a10, a11, a12, a13, a14, a15, a16, a17, a18, a19, a20, a21, a22, a23, a24, a25, a26, a27] [.int (I s0)] h P := by
  refine R_istore (Dat dd_L_law_c1 29 rfl) rfl rfl ?_
  refine R_bipush (Dat dd_L_law_c1 30 rfl) (a := 7) rfl ?_
  obtain ⟨g1, T⟩ := T
  refine R_newa (Dat dd_L_law_c1 31 rfl) rfl (q := 10000 + ck h) rfl g1 (Or.inr (Nat.le_add_right _ _)) (by decide) (by decide) ?_
  refine R_astore (Dat dd_L_law_c1 32 rfl) rfl rfl rfl ?_
  refine R_iconst (Dat dd_L_law_c1 33 rfl) ?_
  refine R_istore (Dat dd_L_law_c1 34 rfl) rfl rfl ?_
  exact T
theorem t_L_law_161 {h : Hp} {P : Value → Hp → Prop} {a4 a8 a10 : Int} {a0 a2 a5 a6 a9 : Nat} {a3 a7 a11 a12 a13 a14 a15 a16 a17 a18 a19 a20 a21 a22 a23 a24 a25 a26 a27 : Value} (T : (rng a10) ∧ (rng a4) ∧ ((a10 < a4 → (tg h a9 = 20) ∧ ((ln h a9 : Int) ≤ 2147483648) ∧ (0 ≤ a10) ∧ (a10 < ln h a9) ∧ R 99 161 [.ref a0, .ref 0, .ref a2, a3, .int (I a4), .ref a5, .ref a6, a7, .int (I a8), .ref a9, .int (I (a10 + 1)), a11, a12, a13, a14, a15, a16, a17, a18, a19, a20, a21, a22, a23, a24, a25, a26, a27] [] (setI h a9 a10 (wr a10)) P) ∧ (¬ a10 < a4 → R 99 187 [.ref a0, .ref 0, .ref a2, a3, .int (I a4), .ref a5, .ref a6, a7, .int (I a8), .ref a9, .int (I 0), .int (I 0), a12, a13, a14, a15, a16, a17, a18, a19, a20, a21, a22, a23, a24, a25, a26, a27] [] h P))) : R 99 161 [.ref a0, .ref 0, .ref a2, a3, .int (I a4), .ref a5, .ref a6, a7, .int (I a8), .ref a9, .int (I a10), a11, a12, a13, a14, a15, a16, a17, a18, a19, a20, a21, a22, a23, a24, a25, a26, a27] [] h P := by
  refine R_iload (Dat dd_L_law_c1 35 rfl) rfl ?_
  refine R_iload (Dat dd_L_law_c1 36 rfl) rfl ?_
  obtain ⟨g1, T⟩ := T
  obtain ⟨g2, T⟩ := T
  refine R_ic_ge (Dat dd_L_law_c1 37 rfl) rfl g1 g2 (fun c => ?_) (fun c => ?_)
  · replace T := T.1 c
    refine R_aload (Dat dd_L_law_c1 38 rfl) rfl rfl ?_
    refine R_iload (Dat dd_L_law_c1 39 rfl) rfl ?_
    refine R_iload (Dat dd_L_law_c1 40 rfl) rfl ?_
    obtain ⟨g3, T⟩ := T
    obtain ⟨g4, T⟩ := T
    obtain ⟨g5, T⟩ := T
    obtain ⟨g6, T⟩ := T
    refine R_iastore (Dat dd_L_law_c1 41 rfl) g3 g4 g5 g6 (v := wr a10) rfl ?_
    refine R_iinc (Dat dd_L_law_c1 42 rfl) rfl rfl rfl ?_
    refine R_goto (Dat dd_L_law_c1 43 rfl) rfl ?_
    exact T
  · replace T := T.2 c
    refine R_iconst (Dat dd_L_law_c1 44 rfl) ?_
    refine R_istore (Dat dd_L_law_c1 45 rfl) rfl rfl ?_
    refine R_iconst (Dat dd_L_law_c1 46 rfl) ?_
    refine R_istore (Dat dd_L_law_c1 47 rfl) rfl rfl ?_
    exact T
theorem t_L_law_187 {h : Hp} {P : Value → Hp → Prop} {a4 a8 a10 a11 : Int} {a0 a2 a5 a6 a9 : Nat} {a3 a7 a12 a13 a14 a15 a16 a17 a18 a19 a20 a21 a22 a23 a24 a25 a26 a27 : Value} (T : (rng a11) ∧ ((a11 < 12 → R 87 0 [.ref a0, .int (I (10 + a11))] [] h (fun v h2 => R 99 203 [.ref a0, .ref 0, .ref a2, a3, .int (I a4), .ref a5, .ref a6, a7, .int (I a8), .ref a9, .int (I a10), .int (I a11), a12, a13, a14, a15, a16, a17, a18, a19, a20, a21, a22, a23, a24, a25, a26, a27] (v :: []) h2 P)) ∧ (¬ a11 < 12 → (tg h 0 = 12) ∧ R 47 0 [.ref 0, .int (I 2), .retAddr 0] [] h (fun v h2 => R 99 1297 [.ref a0, .ref 0, .ref a2, a3, .int (I a4), .ref a5, .ref a6, a7, .int (I a8), .ref a9, .int (I a10), .int (I a11), a12, a13, a14, a15, a16, a17, a18, a19, a20, a21, a22, a23, a24, a25, a26, a27] (v :: []) h2 P)))) : R 99 187 [.ref a0, .ref 0, .ref a2, a3, .int (I a4), .ref a5, .ref a6, a7, .int (I a8), .ref a9, .int (I a10), .int (I a11), a12, a13, a14, a15, a16, a17, a18, a19, a20, a21, a22, a23, a24, a25, a26, a27] [] h P := by
  refine R_iload (Dat dd_L_law_c1 48 rfl) rfl ?_
  refine R_bipush (Dat dd_L_law_c1 49 rfl) (a := 12) rfl ?_
  obtain ⟨g1, T⟩ := T
  refine R_ic_ge (Dat dd_L_law_c1 50 rfl) rfl g1 (by decide) (fun c => ?_) (fun c => ?_)
  · replace T := T.1 c
    refine R_aload_n (Dat dd_L_law_c1 51 rfl) rfl rfl ?_
    refine R_bipush (Dat dd_L_law_c1 52 rfl) (a := 10) rfl ?_
    refine R_iload (Dat dd_L_law_c1 53 rfl) rfl ?_
    refine R_iadd (Dat dd_L_law_c1 54 rfl) ?_
    exact R_call0 (Dat dd_L_law_c1 55 rfl) rfl rfl rfl rfl rfl rfl T
  · replace T := T.2 c
    refine R_aload_n (Dat dd_L_law_c11 34 rfl) rfl rfl ?_
    refine R_iconst (Dat dd_L_law_c11 35 rfl) ?_
    obtain ⟨g2, T⟩ := T
    exact R_call1 (Dat dd_L_law_c11 36 rfl) rfl g2 rfl rfl rfl rfl rfl T
theorem t_L_law_203 {h : Hp} {P : Value → Hp → Prop} {a4 a8 a10 a11 s0 : Int} {a0 a2 a5 a6 a9 : Nat} {a3 a7 a12 a13 a14 a15 a16 a17 a18 a19 a20 a21 a22 a23 a24 a25 a26 a27 : Value} (T : R 88 0 [.int (I s0), .int (I 7)] [] h (fun v h2 => R 99 212 [.ref a0, .ref 0, .ref a2, a3, .int (I a4), .ref a5, .ref a6, a7, .int (I a8), .ref a9, .int (I a10), .int (I a11), .int (I s0), a13, a14, a15, a16, a17, a18, a19, a20, a21, a22, a23, a24, a25, a26, a27] (v :: []) h2 P)) : R 99 203 [.ref a0, .ref 0, .ref a2, a3, .int (I a4), .ref a5, .ref a6, a7, .int (I a8), .ref a9, .int (I a10), .int (I a11), a12, a13, a14, a15, a16, a17, a18, a19, a20, a21, a22, a23, a24, a25, a26, a27] [.int (I s0)] h P := by
  refine R_istore (Dat dd_L_law_c1 56 rfl) rfl rfl ?_
  refine R_iload (Dat dd_L_law_c1 57 rfl) rfl ?_
  refine R_bipush (Dat dd_L_law_c1 58 rfl) (a := 7) rfl ?_
  exact R_call0 (Dat dd_L_law_c1 59 rfl) rfl rfl rfl rfl rfl rfl T
theorem t_L_law_1297 {h : Hp} {P : Value → Hp → Prop} {a4 a8 s0 : Int} {a0 a2 a3 a5 a6 a7 a9 a10 a11 a12 a13 a14 a15 a16 a17 a18 a19 a20 a21 a22 a23 a24 a25 a26 a27 : Value} (T : (rng s0) ∧ ((s0 = (-1) → (tg h 0 = 12) ∧ R 37 0 [.ref 0, .int (I a8), .retAddr 0] [] h (fun v h2 => R 99 1307 [a0, .ref 0, a2, a3, .int (I a4), a5, a6, a7, .int (I a8), a9, a10, a11, a12, a13, a14, a15, a16, a17, a18, a19, a20, a21, a22, a23, a24, a25, a26, a27] (v :: []) h2 P)) ∧ (¬ s0 = (-1) → R 99 1497 [a0, .ref 0, a2, a3, .int (I a4), a5, a6, a7, .int (I a8), a9, a10, a11, a12, a13, a14, a15, a16, a17, a18, a19, a20, a21, a22, a23, a24, a25, a26, a27] [.int (I 0)] h P))) : R 99 1297 [a0, .ref 0, a2, a3, .int (I a4), a5, a6, a7, .int (I a8), a9, a10, a11, a12, a13, a14, a15, a16, a17, a18, a19, a20, a21, a22, a23, a24, a25, a26, a27] [.int (I s0)] h P := by
  refine R_iconst (Dat dd_L_law_c11 37 rfl) ?_
  obtain ⟨g1, T⟩ := T
  refine R_ic_ne (Dat dd_L_law_c11 38 rfl) rfl g1 (by decide) (fun c => ?_) (fun c => ?_)
  · replace T := T.1 c
    refine R_aload_n (Dat dd_L_law_c11 39 rfl) rfl rfl ?_
    refine R_iload (Dat dd_L_law_c11 40 rfl) rfl ?_
    obtain ⟨g2, T⟩ := T
    exact R_call1 (Dat dd_L_law_c11 41 rfl) rfl g2 rfl rfl rfl rfl rfl T
  · replace T := T.2 c
    refine R_iconst (Dat dd_L_law_c13 30 rfl) ?_
    exact T
theorem t_L_law_212 {h : Hp} {P : Value → Hp → Prop} {a4 a8 a10 a11 a12 s0 : Int} {a0 a2 a5 a6 a9 : Nat} {a3 a7 a13 a14 a15 a16 a17 a18 a19 a20 a21 a22 a23 a24 a25 a26 a27 : Value} (T : R 88 0 [.int (I (shr a12 3)), .int (I 3)] [] h (fun v h2 => R 99 223 [.ref a0, .ref 0, .ref a2, a3, .int (I a4), .ref a5, .ref a6, a7, .int (I a8), .ref a9, .int (I a10), .int (I a11), .int (I a12), .int (I s0), a14, a15, a16, a17, a18, a19, a20, a21, a22, a23, a24, a25, a26, a27] (v :: [.int (I 1)]) h2 P)) : R 99 212 [.ref a0, .ref 0, .ref a2, a3, .int (I a4), .ref a5, .ref a6, a7, .int (I a8), .ref a9, .int (I a10), .int (I a11), .int (I a12), a13, a14, a15, a16, a17, a18, a19, a20, a21, a22, a23, a24, a25, a26, a27] [.int (I s0)] h P := by
  refine R_istore (Dat dd_L_law_c2 0 rfl) rfl rfl ?_
  refine R_iconst (Dat dd_L_law_c2 1 rfl) ?_
  refine R_iload (Dat dd_L_law_c2 2 rfl) rfl ?_
  refine R_iconst (Dat dd_L_law_c2 3 rfl) ?_
  refine R_ishr (Dat dd_L_law_c2 4 rfl) ?_
  refine R_iconst (Dat dd_L_law_c2 5 rfl) ?_
  exact R_call0 (Dat dd_L_law_c2 6 rfl) rfl rfl rfl rfl rfl rfl T
theorem t_L_law_1307 {h : Hp} {P : Value → Hp → Prop} {a4 a8 s0 : Int} {a0 a2 a3 a5 a6 a7 a9 a10 a11 a12 a13 a14 a15 a16 a17 a18 a19 a20 a21 a22 a23 a24 a25 a26 a27 : Value} (T : (rng s0) ∧ ((s0 = (-1) → (tg h 0 = 12) ∧ R 39 0 [.ref 0, .int (I 0), .int (I a4)] [] h (fun v h2 => R 99 1318 [a0, .ref 0, a2, a3, .int (I a4), a5, a6, a7, .int (I a8), a9, a10, a11, a12, a13, a14, a15, a16, a17, a18, a19, a20, a21, a22, a23, a24, a25, a26, a27] (v :: []) h2 P)) ∧ (¬ s0 = (-1) → R 99 1497 [a0, .ref 0, a2, a3, .int (I a4), a5, a6, a7, .int (I a8), a9, a10, a11, a12, a13, a14, a15, a16, a17, a18, a19, a20, a21, a22, a23, a24, a25, a26, a27] [.int (I 0)] h P))) : R 99 1307 [a0, .ref 0, a2, a3, .int (I a4), a5, a6, a7, .int (I a8), a9, a10, a11, a12, a13, a14, a15, a16, a17, a18, a19, a20, a21, a22, a23, a24, a25, a26, a27] [.int (I s0)] h P := by
  refine R_iconst (Dat dd_L_law_c11 42 rfl) ?_
  obtain ⟨g1, T⟩ := T
  refine R_ic_ne (Dat dd_L_law_c11 43 rfl) rfl g1 (by decide) (fun c => ?_) (fun c => ?_)
  · replace T := T.1 c
    refine R_aload_n (Dat dd_L_law_c11 44 rfl) rfl rfl ?_
    refine R_iconst (Dat dd_L_law_c11 45 rfl) ?_
    refine R_iload (Dat dd_L_law_c11 46 rfl) rfl ?_
    obtain ⟨g2, T⟩ := T
    exact R_call1 (Dat dd_L_law_c11 47 rfl) rfl g2 rfl rfl rfl rfl rfl T
  · replace T := T.2 c
    refine R_iconst (Dat dd_L_law_c13 30 rfl) ?_
    exact T
theorem t_L_law_1497 {h : Hp} {P : Value → Hp → Prop} {s0 : Int} {a0 a1 a2 a3 a4 a5 a6 a7 a8 a9 a10 a11 a12 a13 a14 a15 a16 a17 a18 a19 a20 a21 a22 a23 a24 a25 a26 a27 : Value} (T : (bz (I s0) = true) ∧ P (.int (I s0)) h) : R 99 1497 [a0, a1, a2, a3, a4, a5, a6, a7, a8, a9, a10, a11, a12, a13, a14, a15, a16, a17, a18, a19, a20, a21, a22, a23, a24, a25, a26, a27] [.int (I s0)] h P := by
  obtain ⟨g1, T⟩ := T
  exact R_ireturn (Dat dd_L_law_c13 31 rfl) (by rw [g1]; rfl) T
theorem t_L_law_223 {h : Hp} {P : Value → Hp → Prop} {a4 a8 a10 a11 a12 a13 s0 s1 : Int} {a0 a2 a5 a6 a9 : Nat} {a3 a7 a14 a15 a16 a17 a18 a19 a20 a21 a22 a23 a24 a25 a26 a27 : Value} (T : (rng a13) ∧ ((a13 < 3 → R 88 0 [.int (I (shr a12 5)), .int (I 6)] [] h (fun v h2 => R 99 241 [.ref a0, .ref 0, .ref a2, a3, .int (I a4), .ref a5, .ref a6, a7, .int (I a8), .ref a9, .int (I a10), .int (I a11), .int (I a12), .int (I a13), .int (I (s1 + s0)), a15, a16, a17, a18, a19, a20, a21, a22, a23, a24, a25, a26, a27] (v :: []) h2 P)) ∧ (¬ a13 < 3 → (rng a13) ∧ ((a13 = 3 → R 99 313 [.ref a0, .ref 0, .ref a2, a3, .int (I a4), .ref a5, .ref a6, a7, .int (I a8), .ref a9, .int (I a10), .int (I a11), .int (I a12), .int (I a13), .int (I (s1 + s0)), .int (I 0), a16, a17, a18, a19, a20, a21, a22, a23, a24, a25, a26, a27] [] h P) ∧ (¬ a13 = 3 → (rng a13) ∧ ((a13 = 4 → (tg h a9 = 20 ∨ tg h a9 = 30) ∧ ((ln h a9 : Int) ≤ 2147483648) ∧ ((0 : Int) < ln h a9) ∧ R 99 392 [.ref a0, .ref 0, .ref a2, a3, .int (I a4), .ref a5, .ref a6, a7, .int (I a8), .ref a9, .int (I a10), .int (I a11), .int (I a12), .int (I a13), .int (I (s1 + s0)), .int (I (iv h a9 0)), .int (I 1), a17, a18, a19, a20, a21, a22, a23, a24, a25, a26, a27] [] h P) ∧ (¬ a13 = 4 → (rng a13) ∧ ((a13 = 5 → R 88 0 [.int (I (shr a12 5)), .int (I a8)] [] h (fun v h2 => R 99 455 [.ref a0, .ref 0, .ref a2, a3, .int (I a4), .ref a5, .ref a6, a7, .int (I a8), .ref a9, .int (I a10), .int (I a11), .int (I a12), .int (I a13), .int (I (s1 + s0)), a15, a16, a17, a18, a19, a20, a21, a22, a23, a24, a25, a26, a27] (v :: []) h2 P)) ∧ (¬ a13 = 5 → R 88 0 [.int (I (shr a12 5)), .int (I 5)] [] h (fun v h2 => R 99 493 [.ref a0, .ref 0, .ref a2, a3, .int (I a4), .ref a5, .ref a6, a7, .int (I a8), .ref a9, .int (I a10), .int (I a11), .int (I a12), .int (I a13), .int (I (s1 + s0)), a15, a16, a17, a18, a19, a20, a21, a22, a23, a24, a25, a26, a27] (v :: []) h2 P)))))))))) : R 99 223 [.ref a0, .ref 0, .ref a2, a3, .int (I a4), .ref a5, .ref a6, a7, .int (I a8), .ref a9, .int (I a10), .int (I a11), .int (I a12), .int (I a13), a14, a15, a16, a17, a18, a19, a20, a21, a22, a23, a24, a25, a26, a27] [.int (I s0), .int (I s1)] h P := by
  refine R_iadd (Dat dd_L_law_c2 7 rfl) ?_
  refine R_istore (Dat dd_L_law_c2 8 rfl) rfl rfl ?_
  refine R_iload (Dat dd_L_law_c2 9 rfl) rfl ?_
  refine R_iconst (Dat dd_L_law_c2 10 rfl) ?_
  obtain ⟨g1, T⟩ := T
  refine R_ic_ge (Dat dd_L_law_c2 11 rfl) rfl g1 (by decide) (fun c => ?_) (fun c => ?_)
  · replace T := T.1 c
    refine R_iload (Dat dd_L_law_c2 12 rfl) rfl ?_
    refine R_iconst (Dat dd_L_law_c2 13 rfl) ?_
    refine R_ishr (Dat dd_L_law_c2 14 rfl) ?_
    refine R_bipush (Dat dd_L_law_c2 15 rfl) (a := 6) rfl ?_
    exact R_call0 (Dat dd_L_law_c2 16 rfl) rfl rfl rfl rfl rfl rfl T
  · replace T := T.2 c
    refine R_iload (Dat dd_L_law_c2 49 rfl) rfl ?_
    refine R_iconst (Dat dd_L_law_c2 50 rfl) ?_
    obtain ⟨g2, T⟩ := T
    refine R_ic_ne (Dat dd_L_law_c2 51 rfl) rfl g2 (by decide) (fun c => ?_) (fun c => ?_)
    · replace T := T.1 c
      refine R_iconst (Dat dd_L_law_c2 52 rfl) ?_
      refine R_istore (Dat dd_L_law_c2 53 rfl) rfl rfl ?_
      exact T
    · replace T := T.2 c
      refine R_iload (Dat dd_L_law_c3 31 rfl) rfl ?_
      refine R_iconst (Dat dd_L_law_c3 32 rfl) ?_
      obtain ⟨g3, T⟩ := T
      refine R_ic_ne (Dat dd_L_law_c3 33 rfl) rfl g3 (by decide) (fun c => ?_) (fun c => ?_)
      · replace T := T.1 c
        refine R_aload (Dat dd_L_law_c3 34 rfl) rfl rfl ?_
        refine R_iconst (Dat dd_L_law_c3 35 rfl) ?_
        obtain ⟨g4, T⟩ := T
        obtain ⟨g5, T⟩ := T
        obtain ⟨g6, T⟩ := T
        refine R_iaload (Dat dd_L_law_c3 36 rfl) g4 g5 (by decide) g6 ?_
        refine R_istore (Dat dd_L_law_c3 37 rfl) rfl rfl ?_
        refine R_iconst (Dat dd_L_law_c3 38 rfl) ?_
        refine R_istore (Dat dd_L_law_c3 39 rfl) rfl rfl ?_
        exact T
      · replace T := T.2 c
        refine R_iload (Dat dd_L_law_c4 6 rfl) rfl ?_
        refine R_iconst (Dat dd_L_law_c4 7 rfl) ?_
        obtain ⟨g7, T⟩ := T
        refine R_ic_ne (Dat dd_L_law_c4 8 rfl) rfl g7 (by decide) (fun c => ?_) (fun c => ?_)
        · replace T := T.1 c
          refine R_iload (Dat dd_L_law_c4 9 rfl) rfl ?_
          refine R_iconst (Dat dd_L_law_c4 10 rfl) ?_
          refine R_ishr (Dat dd_L_law_c4 11 rfl) ?_
          refine R_iload (Dat dd_L_law_c4 12 rfl) rfl ?_
          exact R_call0 (Dat dd_L_law_c4 13 rfl) rfl rfl rfl rfl rfl rfl T
        · replace T := T.2 c
          refine R_iload (Dat dd_L_law_c4 29 rfl) rfl ?_
          refine R_iconst (Dat dd_L_law_c4 30 rfl) ?_
          refine R_ishr (Dat dd_L_law_c4 31 rfl) ?_
          refine R_iconst (Dat dd_L_law_c4 32 rfl) ?_
          exact R_call0 (Dat dd_L_law_c4 33 rfl) rfl rfl rfl rfl rfl rfl T
theorem t_L_law_1318 {h : Hp} {P : Value → Hp → Prop} {a4 a8 s0 : Int} {a0 a2 a3 a5 a6 a7 a9 a10 a11 a12 a13 a14 a15 a16 a17 a18 a19 a20 a21 a22 a23 a24 a25 a26 a27 : Value} (T : (rng s0) ∧ ((s0 = (-1) → (tg h 0 = 12) ∧ R 33 0 [.ref 0, .int (I a4)] [] h (fun v h2 => R 99 1328 [a0, .ref 0, a2, a3, .int (I a4), a5, a6, a7, .int (I a8), a9, a10, a11, a12, a13, a14, a15, a16, a17, a18, a19, a20, a21, a22, a23, a24, a25, a26, a27] (v :: []) h2 P)) ∧ (¬ s0 = (-1) → R 99 1497 [a0, .ref 0, a2, a3, .int (I a4), a5, a6, a7, .int (I a8), a9, a10, a11, a12, a13, a14, a15, a16, a17, a18, a19, a20, a21, a22, a23, a24, a25, a26, a27] [.int (I 0)] h P))) : R 99 1318 [a0, .ref 0, a2, a3, .int (I a4), a5, a6, a7, .int (I a8), a9, a10, a11, a12, a13, a14, a15, a16, a17, a18, a19, a20, a21, a22, a23, a24, a25, a26, a27] [.int (I s0)] h P := by
  refine R_iconst (Dat dd_L_law_c11 48 rfl) ?_
  obtain ⟨g1, T⟩ := T
  refine R_ic_ne (Dat dd_L_law_c11 49 rfl) rfl g1 (by decide) (fun c => ?_) (fun c => ?_)
  · replace T := T.1 c
    refine R_aload_n (Dat dd_L_law_c11 50 rfl) rfl rfl ?_
    refine R_iload (Dat dd_L_law_c11 51 rfl) rfl ?_
    obtain ⟨g2, T⟩ := T
    exact R_call1 (Dat dd_L_law_c11 52 rfl) rfl g2 rfl rfl rfl rfl rfl T
  · replace T := T.2 c
    refine R_iconst (Dat dd_L_law_c13 30 rfl) ?_
    exact T
theorem t_L_law_241 {h : Hp} {P : Value → Hp → Prop} {a4 a8 a10 a11 a12 a14 s0 : Int} {a0 a2 a5 a6 a9 : Nat} {a3 a7 a13 a15 a16 a17 a18 a19 a20 a21 a22 a23 a24 a25 a26 a27 : Value} (T : R 99 249 [.ref a0, .ref 0, .ref a2, a3, .int (I a4), .ref a5, .ref a6, a7, .int (I a8), .ref a9, .int (I a10), .int (I a11), .int (I a12), a13, .int (I a14), .int (I s0), .int (I 0), .int (I 0), a18, a19, a20, a21, a22, a23, a24, a25, a26, a27] [] h P) : R 99 241 [.ref a0, .ref 0, .ref a2, a3, .int (I a4), .ref a5, .ref a6, a7, .int (I a8), .ref a9, .int (I a10), .int (I a11), .int (I a12), a13, .int (I a14), a15, a16, a17, a18, a19, a20, a21, a22, a23, a24, a25, a26, a27] [.int (I s0)] h P := by
  refine R_istore (Dat dd_L_law_c2 17 rfl) rfl rfl ?_
  refine R_iconst (Dat dd_L_law_c2 18 rfl) ?_
  refine R_istore (Dat dd_L_law_c2 19 rfl) rfl rfl ?_
  refine R_iconst (Dat dd_L_law_c2 20 rfl) ?_
  refine R_istore (Dat dd_L_law_c2 21 rfl) rfl rfl ?_
  exact T
theorem t_L_law_313 {h : Hp} {P : Value → Hp → Prop} {a4 a8 a10 a11 a12 a14 a15 : Int} {a0 a2 a5 a6 a9 : Nat} {a3 a7 a13 a16 a17 a18 a19 a20 a21 a22 a23 a24 a25 a26 a27 : Value} (T : (0 ≤ a4 ∧ a4 < 2147483648) ∧ (rng a15) ∧ (rng (a4 / 2)) ∧ ((a15 < (a4 / 2) → (tg h a9 = 20 ∨ tg h a9 = 30) ∧ ((ln h a9 : Int) ≤ 2147483648) ∧ (0 ≤ a15) ∧ (a15 < ln h a9) ∧ (tg h a9 = 20 ∨ tg h a9 = 30) ∧ ((ln h a9 : Int) ≤ 2147483648) ∧ (0 ≤ ((a4 - 1) - a15)) ∧ (((a4 - 1) - a15) < ln h a9) ∧ (tg h a9 = 20) ∧ ((ln h a9 : Int) ≤ 2147483648) ∧ (0 ≤ a15) ∧ (a15 < ln h a9) ∧ (tg (setI h a9 a15 (wr (iv h a9 ((a4 - 1) - a15)))) a9 = 20) ∧ ((ln (setI h a9 a15 (wr (iv h a9 ((a4 - 1) - a15)))) a9 : Int) ≤ 2147483648) ∧ (0 ≤ ((a4 - 1) - a15)) ∧ (((a4 - 1) - a15) < ln (setI h a9 a15 (wr (iv h a9 ((a4 - 1) - a15)))) a9) ∧ R 99 313 [.ref a0, .ref 0, .ref a2, a3, .int (I a4), .ref a5, .ref a6, a7, .int (I a8), .ref a9, .int (I a10), .int (I a11), .int (I a12), a13, .int (I a14), .int (I (a15 + 1)), .int (I (iv h a9 a15)), a17, a18, a19, a20, a21, a22, a23, a24, a25, a26, a27] [] (setI (setI h a9 a15 (wr (iv h a9 ((a4 - 1) - a15)))) a9 ((a4 - 1) - a15) (wr (iv h a9 a15))) P) ∧ (¬ a15 < (a4 / 2) → (tg h 0 = 12) ∧ R 67 0 [.ref 0] [] h (fun v h2 => R 99 366 [.ref a0, .ref 0, .ref a2, a3, .int (I a4), .ref a5, .ref a6, a7, .int (I a8), .ref a9, .int (I a10), .int (I a11), .int (I a12), a13, .int (I a14), .int (I a15), a16, a17, a18, a19, a20, a21, a22, a23, a24, a25, a26, a27] (v :: []) h2 P)))) : R 99 313 [.ref a0, .ref 0, .ref a2, a3, .int (I a4), .ref a5, .ref a6, a7, .int (I a8), .ref a9, .int (I a10), .int (I a11), .int (I a12), a13, .int (I a14), .int (I a15), a16, a17, a18, a19, a20, a21, a22, a23, a24, a25, a26, a27] [] h P := by
  refine R_iload (Dat dd_L_law_c2 54 rfl) rfl ?_
  refine R_iload (Dat dd_L_law_c2 55 rfl) rfl ?_
  refine R_iconst (Dat dd_L_law_c2 56 rfl) ?_
  obtain ⟨g1, T⟩ := T
  refine R_idiv (Dat dd_L_law_c2 57 rfl) g1 (by decide) ?_
  obtain ⟨g2, T⟩ := T
  obtain ⟨g3, T⟩ := T
  refine R_ic_ge (Dat dd_L_law_c2 58 rfl) rfl g2 g3 (fun c => ?_) (fun c => ?_)
  · replace T := T.1 c
    refine R_aload (Dat dd_L_law_c2 59 rfl) rfl rfl ?_
    refine R_iload (Dat dd_L_law_c3 0 rfl) rfl ?_
    obtain ⟨g4, T⟩ := T
    obtain ⟨g5, T⟩ := T
    obtain ⟨g6, T⟩ := T
    obtain ⟨g7, T⟩ := T
    refine R_iaload (Dat dd_L_law_c3 1 rfl) g4 g5 g6 g7 ?_
    refine R_istore (Dat dd_L_law_c3 2 rfl) rfl rfl ?_
    refine R_aload (Dat dd_L_law_c3 3 rfl) rfl rfl ?_
    refine R_iload (Dat dd_L_law_c3 4 rfl) rfl ?_
    refine R_aload (Dat dd_L_law_c3 5 rfl) rfl rfl ?_
    refine R_iload (Dat dd_L_law_c3 6 rfl) rfl ?_
    refine R_iconst (Dat dd_L_law_c3 7 rfl) ?_
    refine R_isub (Dat dd_L_law_c3 8 rfl) ?_
    refine R_iload (Dat dd_L_law_c3 9 rfl) rfl ?_
    refine R_isub (Dat dd_L_law_c3 10 rfl) ?_
    obtain ⟨g8, T⟩ := T
    obtain ⟨g9, T⟩ := T
    obtain ⟨g10, T⟩ := T
    obtain ⟨g11, T⟩ := T
    refine R_iaload (Dat dd_L_law_c3 11 rfl) g8 g9 g10 g11 ?_
    obtain ⟨g12, T⟩ := T
    obtain ⟨g13, T⟩ := T
    obtain ⟨g14, T⟩ := T
    obtain ⟨g15, T⟩ := T
    refine R_iastore (Dat dd_L_law_c3 12 rfl) g12 g13 g14 g15 (v := wr (iv h a9 ((a4 - 1) - a15))) rfl ?_
    refine R_aload (Dat dd_L_law_c3 13 rfl) rfl rfl ?_
    refine R_iload (Dat dd_L_law_c3 14 rfl) rfl ?_
    refine R_iconst (Dat dd_L_law_c3 15 rfl) ?_
    refine R_isub (Dat dd_L_law_c3 16 rfl) ?_
    refine R_iload (Dat dd_L_law_c3 17 rfl) rfl ?_
    refine R_isub (Dat dd_L_law_c3 18 rfl) ?_
    refine R_iload (Dat dd_L_law_c3 19 rfl) rfl ?_
    obtain ⟨g16, T⟩ := T
    obtain ⟨g17, T⟩ := T
    obtain ⟨g18, T⟩ := T
    obtain ⟨g19, T⟩ := T
    refine R_iastore (Dat dd_L_law_c3 20 rfl) g16 g17 g18 g19 (v := wr (iv h a9 a15)) rfl ?_
    refine R_iinc (Dat dd_L_law_c3 21 rfl) rfl rfl rfl ?_
    refine R_goto (Dat dd_L_law_c3 22 rfl) rfl ?_
    exact T
  · replace T := T.2 c
    refine R_aload_n (Dat dd_L_law_c3 23 rfl) rfl rfl ?_
    obtain ⟨g20, T⟩ := T
    exact R_call1 (Dat dd_L_law_c3 24 rfl) rfl g20 rfl rfl rfl rfl rfl T
theorem t_L_law_392 {h : Hp} {P : Value → Hp → Prop} {a4 a8 a10 a11 a12 a14 a15 a16 : Int} {a0 a2 a5 a6 a9 : Nat} {a3 a7 a13 a17 a18 a19 a20 a21 a22 a23 a24 a25 a26 a27 : Value} (T : (rng a16) ∧ (rng a4) ∧ ((a16 < a4 → (tg h a9 = 20 ∨ tg h a9 = 30) ∧ ((ln h a9 : Int) ≤ 2147483648) ∧ (0 ≤ a16) ∧ (a16 < ln h a9) ∧ (tg h a9 = 20) ∧ ((ln h a9 : Int) ≤ 2147483648) ∧ (0 ≤ (a16 - 1)) ∧ ((a16 - 1) < ln h a9) ∧ R 99 392 [.ref a0, .ref 0, .ref a2, a3, .int (I a4), .ref a5, .ref a6, a7, .int (I a8), .ref a9, .int (I a10), .int (I a11), .int (I a12), a13, .int (I a14), .int (I a15), .int (I (a16 + 1)), a17, a18, a19, a20, a21, a22, a23, a24, a25, a26, a27] [] (setI h a9 (a16 - 1) (wr (iv h a9 a16))) P) ∧ (¬ a16 < a4 → (tg h a9 = 20) ∧ ((ln h a9 : Int) ≤ 2147483648) ∧ (0 ≤ (a4 - 1)) ∧ ((a4 - 1) < ln h a9) ∧ (tg (setI h a9 (a4 - 1) (wr a15)) 0 = 12) ∧ R 70 0 [.ref 0, .retAddr 0] [] (setI h a9 (a4 - 1) (wr a15)) (fun v h2 => R 99 430 [.ref a0, .ref 0, .ref a2, a3, .int (I a4), .ref a5, .ref a6, a7, .int (I a8), .ref a9, .int (I a10), .int (I a11), .int (I a12), a13, .int (I a14), .int (I a15), .int (I a16), a17, a18, a19, a20, a21, a22, a23, a24, a25, a26, a27] (v :: []) h2 P)))) : R 99 392 [.ref a0, .ref 0, .ref a2, a3, .int (I a4), .ref a5, .ref a6, a7, .int (I a8), .ref a9, .int (I a10), .int (I a11), .int (I a12), a13, .int (I a14), .int (I a15), .int (I a16), a17, a18, a19, a20, a21, a22, a23, a24, a25, a26, a27] [] h P := by
  refine R_iload (Dat dd_L_law_c3 40 rfl) rfl ?_
  refine R_iload (Dat dd_L_law_c3 41 rfl) rfl ?_
  obtain ⟨g1, T⟩ := T
  obtain ⟨g2, T⟩ := T
  refine R_ic_ge (Dat dd_L_law_c3 42 rfl) rfl g1 g2 (fun c => ?_) (fun c => ?_)
  · replace T := T.1 c
    refine R_aload (Dat dd_L_law_c3 43 rfl) rfl rfl ?_
    refine R_iload (Dat dd_L_law_c3 44 rfl) rfl ?_
    refine R_iconst (Dat dd_L_law_c3 45 rfl) ?_
    refine R_isub (Dat dd_L_law_c3 46 rfl) ?_
    refine R_aload (Dat dd_L_law_c3 47 rfl) rfl rfl ?_
    refine R_iload (Dat dd_L_law_c3 48 rfl) rfl ?_
    obtain ⟨g3, T⟩ := T
    obtain ⟨g4, T⟩ := T
    obtain ⟨g5, T⟩ := T
    obtain ⟨g6, T⟩ := T
    refine R_iaload (Dat dd_L_law_c3 49 rfl) g3 g4 g5 g6 ?_
    obtain ⟨g7, T⟩ := T
    obtain ⟨g8, T⟩ := T
    obtain ⟨g9, T⟩ := T
    obtain ⟨g10, T⟩ := T
    refine R_iastore (Dat dd_L_law_c3 50 rfl) g7 g8 g9 g10 (v := wr (iv h a9 a16)) rfl ?_
    refine R_iinc (Dat dd_L_law_c3 51 rfl) rfl rfl rfl ?_
    refine R_goto (Dat dd_L_law_c3 52 rfl) rfl ?_
    exact T
  · replace T := T.2 c
    refine R_aload (Dat dd_L_law_c3 53 rfl) rfl rfl ?_
    refine R_iload (Dat dd_L_law_c3 54 rfl) rfl ?_
    refine R_iconst (Dat dd_L_law_c3 55 rfl) ?_
    refine R_isub (Dat dd_L_law_c3 56 rfl) ?_
    refine R_iload (Dat dd_L_law_c3 57 rfl) rfl ?_
    obtain ⟨g11, T⟩ := T
    obtain ⟨g12, T⟩ := T
    obtain ⟨g13, T⟩ := T
    obtain ⟨g14, T⟩ := T
    refine R_iastore (Dat dd_L_law_c3 58 rfl) g11 g12 g13 g14 (v := wr a15) rfl ?_
    refine R_aload_n (Dat dd_L_law_c3 59 rfl) rfl rfl ?_
    obtain ⟨g15, T⟩ := T
    exact R_call1 (Dat dd_L_law_c4 0 rfl) rfl g15 rfl rfl rfl rfl rfl T
theorem t_L_law_455 {h : Hp} {P : Value → Hp → Prop} {a4 a8 a10 a11 a12 a14 s0 : Int} {a0 a2 a5 a6 a9 : Nat} {a3 a7 a13 a15 a16 a17 a18 a19 a20 a21 a22 a23 a24 a25 a26 a27 : Value} (T : (tg h 0 = 12) ∧ R 37 0 [.ref 0, .int (I s0), .retAddr 0] [] h (fun v h2 => R 99 463 [.ref a0, .ref 0, .ref a2, a3, .int (I a4), .ref a5, .ref a6, a7, .int (I a8), .ref a9, .int (I a10), .int (I a11), .int (I a12), a13, .int (I a14), .int (I s0), a16, a17, a18, a19, a20, a21, a22, a23, a24, a25, a26, a27] (v :: []) h2 P)) : R 99 455 [.ref a0, .ref 0, .ref a2, a3, .int (I a4), .ref a5, .ref a6, a7, .int (I a8), .ref a9, .int (I a10), .int (I a11), .int (I a12), a13, .int (I a14), a15, a16, a17, a18, a19, a20, a21, a22, a23, a24, a25, a26, a27] [.int (I s0)] h P := by
  refine R_istore (Dat dd_L_law_c4 14 rfl) rfl rfl ?_
  refine R_aload_n (Dat dd_L_law_c4 15 rfl) rfl rfl ?_
  refine R_iload (Dat dd_L_law_c4 16 rfl) rfl ?_
  obtain ⟨g1, T⟩ := T
  exact R_call1 (Dat dd_L_law_c4 17 rfl) rfl g1 rfl rfl rfl rfl rfl T
theorem t_L_law_493 {h : Hp} {P : Value → Hp → Prop} {a4 a8 a10 a11 a12 a14 s0 : Int} {a0 a2 a5 a6 a9 : Nat} {a3 a7 a13 a15 a16 a17 a18 a19 a20 a21 a22 a23 a24 a25 a26 a27 : Value} (T : (tg h 0 = 12) ∧ R 82 0 [.ref 0, .int (I 2), .int (I 0), .int (I 6)] [] h (fun v h2 => R 99 506 [.ref a0, .ref 0, .ref a2, a3, .int (I a4), .ref a5, .ref a6, a7, .int (I a8), .ref a9, .int (I a10), .int (I a11), .int (I a12), a13, .int (I a14), .int (I s0), .int (I 0), a17, a18, a19, a20, a21, a22, a23, a24, a25, a26, a27] (v :: []) h2 P)) : R 99 493 [.ref a0, .ref 0, .ref a2, a3, .int (I a4), .ref a5, .ref a6, a7, .int (I a8), .ref a9, .int (I a10), .int (I a11), .int (I a12), a13, .int (I a14), a15, a16, a17, a18, a19, a20, a21, a22, a23, a24, a25, a26, a27] [.int (I s0)] h P := by
  refine R_istore (Dat dd_L_law_c4 34 rfl) rfl rfl ?_
  refine R_iconst (Dat dd_L_law_c4 35 rfl) ?_
  refine R_istore (Dat dd_L_law_c4 36 rfl) rfl rfl ?_
  refine R_aload_n (Dat dd_L_law_c4 37 rfl) rfl rfl ?_
  refine R_iconst (Dat dd_L_law_c4 38 rfl) ?_
  refine R_iconst (Dat dd_L_law_c4 39 rfl) ?_
  refine R_bipush (Dat dd_L_law_c4 40 rfl) (a := 6) rfl ?_
  obtain ⟨g1, T⟩ := T
  exact R_call1 (Dat dd_L_law_c4 41 rfl) rfl g1 rfl rfl rfl rfl rfl T
theorem t_L_law_1328 {h : Hp} {P : Value → Hp → Prop} {a4 a8 s0 : Int} {a0 a2 a3 a5 a6 a7 a9 a10 a11 a12 a13 a14 a15 a16 a17 a18 a19 a20 a21 a22 a23 a24 a25 a26 a27 : Value} (T : (rng s0) ∧ ((s0 = (-1) → (tg h 0 = 12) ∧ R 48 0 [.ref 0, .int (I 0), .int (I a4), .int (I 0), .int (I 1), .retAddr 0] [] h (fun v h2 => R 99 1341 [a0, .ref 0, a2, a3, .int (I a4), a5, a6, a7, .int (I a8), a9, a10, a11, a12, a13, a14, a15, a16, a17, a18, a19, a20, a21, a22, a23, a24, a25, a26, a27] (v :: []) h2 P)) ∧ (¬ s0 = (-1) → R 99 1497 [a0, .ref 0, a2, a3, .int (I a4), a5, a6, a7, .int (I a8), a9, a10, a11, a12, a13, a14, a15, a16, a17, a18, a19, a20, a21, a22, a23, a24, a25, a26, a27] [.int (I 0)] h P))) : R 99 1328 [a0, .ref 0, a2, a3, .int (I a4), a5, a6, a7, .int (I a8), a9, a10, a11, a12, a13, a14, a15, a16, a17, a18, a19, a20, a21, a22, a23, a24, a25, a26, a27] [.int (I s0)] h P := by
  refine R_iconst (Dat dd_L_law_c11 53 rfl) ?_
  obtain ⟨g1, T⟩ := T
  refine R_ic_ne (Dat dd_L_law_c11 54 rfl) rfl g1 (by decide) (fun c => ?_) (fun c => ?_)
  · replace T := T.1 c
    refine R_aload_n (Dat dd_L_law_c11 55 rfl) rfl rfl ?_
    refine R_iconst (Dat dd_L_law_c11 56 rfl) ?_
    refine R_iload (Dat dd_L_law_c11 57 rfl) rfl ?_
    refine R_iconst (Dat dd_L_law_c11 58 rfl) ?_
    refine R_iconst (Dat dd_L_law_c11 59 rfl) ?_
    obtain ⟨g2, T⟩ := T
    exact R_call1 (Dat dd_L_law_c12 0 rfl) rfl g2 rfl rfl rfl rfl rfl T
  · replace T := T.2 c
    refine R_iconst (Dat dd_L_law_c13 30 rfl) ?_
    exact T
theorem t_L_law_249 {h : Hp} {P : Value → Hp → Prop} {a4 a8 a10 a11 a12 a14 a15 a16 a17 : Int} {a0 a2 a5 a6 a9 : Nat} {a3 a7 a13 a18 a19 a20 a21 a22 a23 a24 a25 a26 a27 : Value} (T : (rng a17) ∧ (rng a15) ∧ ((a17 < a15 → R 94 0 [.ref a2, .ref a5, .int (I (-9)), .ref a9, .int (I a14), .retAddr 0, .retAddr 0, .retAddr 0, .retAddr 0, .retAddr 0] [] h (fun v h2 => R 99 270 [.ref a0, .ref 0, .ref a2, a3, .int (I a4), .ref a5, .ref a6, a7, .int (I a8), .ref a9, .int (I a10), .int (I a11), .int (I a12), a13, .int (I a14), .int (I a15), .int (I a16), .int (I a17), a18, a19, a20, a21, a22, a23, a24, a25, a26, a27] (v :: [.int (I a16)]) h2 P)) ∧ (¬ a17 < a15 → (okg 99 53 [.ref a0, .ref 0, .ref a2, a3, .int (I a4), .ref a5, .ref a6, a7, .int (I a8), .ref a9, .int (I a10), .int (I a11), .int (I a12), a13, .int (I a14), .int (I a15), .int (I a16), .int (I a17), a18, a19, a20, a21, a22, a23, a24, a25, a26, a27] [] [.ref 0, .int (I a14), .int (I a15)] = true) ∧ (tg h 0 = 12) ∧ R 53 0 [.ref 0, .int (I a14), .int (I a15), .retAddr 0, .retAddr 0, .retAddr 0] [] h (fun v h2 => R 99 287 [.ref a0, .ref 0, .ref a2, a3, .int (I a4), .ref a5, .ref a6, a7, .int (I a8), .ref a9, .int (I a10), .int (I a11), .int (I a12), a13, .int (I a14), .int (I a15), .int (I a16), .int (I a17), a18, a19, a20, a21, a22, a23, a24, a25, a26, a27] (v :: []) h2 P)))) : R 99 249 [.ref a0, .ref 0, .ref a2, a3, .int (I a4), .ref a5, .ref a6, a7, .int (I a8), .ref a9, .int (I a10), .int (I a11), .int (I a12), a13, .int (I a14), .int (I a15), .int (I a16), .int (I a17), a18, a19, a20, a21, a22, a23, a24, a25, a26, a27] [] h P := by
  refine R_iload (Dat dd_L_law_c2 22 rfl) rfl ?_
  refine R_iload (Dat dd_L_law_c2 23 rfl) rfl ?_
  obtain ⟨g1, T⟩ := T
  obtain ⟨g2, T⟩ := T
  refine R_ic_ge (Dat dd_L_law_c2 24 rfl) rfl g1 g2 (fun c => ?_) (fun c => ?_)
  · replace T := T.1 c
    refine R_iload (Dat dd_L_law_c2 25 rfl) rfl ?_
    refine R_aload_n (Dat dd_L_law_c2 26 rfl) rfl rfl ?_
    refine R_aload (Dat dd_L_law_c2 27 rfl) rfl rfl ?_
    refine R_bipush (Dat dd_L_law_c2 28 rfl) (a := (-9)) rfl ?_
    refine R_aload (Dat dd_L_law_c2 29 rfl) rfl rfl ?_
    refine R_iload (Dat dd_L_law_c2 30 rfl) rfl ?_
    exact R_call0 (Dat dd_L_law_c2 31 rfl) rfl rfl rfl rfl rfl rfl T
  · replace T := T.2 c
    refine R_aload_n (Dat dd_L_law_c2 36 rfl) rfl rfl ?_
    refine R_iload (Dat dd_L_law_c2 37 rfl) rfl ?_
    refine R_iload (Dat dd_L_law_c2 38 rfl) rfl ?_
    obtain ⟨g3, T⟩ := T
    obtain ⟨g4, T⟩ := T
    exact R_call1 (Dat dd_L_law_c2 39 rfl) rfl g4 rfl rfl rfl g3 rfl T
theorem t_L_law_366 {h : Hp} {P : Value → Hp → Prop} {a4 a8 a10 a11 a12 a14 s0 : Int} {a0 a2 a5 a6 a9 : Nat} {a3 a7 a13 a15 a16 a17 a18 a19 a20 a21 a22 a23 a24 a25 a26 a27 : Value} (T : R 95 0 [.ref a2, .ref a9, .retAddr 0, .retAddr 0, .retAddr 0, .retAddr 0, .retAddr 0] [] h (fun v h2 => R 99 372 [.ref a0, .ref 0, .ref a2, a3, .int (I a4), .ref a5, .ref a6, a7, .int (I a8), .ref a9, .int (I a10), .int (I a11), .int (I a12), a13, .int (I a14), a15, a16, a17, a18, a19, a20, a21, a22, a23, a24, a25, a26, a27] (v :: [.int (I s0)]) h2 P)) : R 99 366 [.ref a0, .ref 0, .ref a2, a3, .int (I a4), .ref a5, .ref a6, a7, .int (I a8), .ref a9, .int (I a10), .int (I a11), .int (I a12), a13, .int (I a14), a15, a16, a17, a18, a19, a20, a21, a22, a23, a24, a25, a26, a27] [.int (I s0)] h P := by
  refine R_aload_n (Dat dd_L_law_c3 25 rfl) rfl rfl ?_
  refine R_aload (Dat dd_L_law_c3 26 rfl) rfl rfl ?_
  exact R_call0 (Dat dd_L_law_c3 27 rfl) rfl rfl rfl rfl rfl rfl T
theorem t_L_law_430 {h : Hp} {P : Value → Hp → Prop} {a4 a8 a10 a11 a12 a14 a15 s0 : Int} {a0 a2 a5 a6 a9 : Nat} {a3 a7 a13 a16 a17 a18 a19 a20 a21 a22 a23 a24 a25 a26 a27 : Value} (T : (rng s0) ∧ (rng a15) ∧ ((s0 = a15 → R 99 603 [.ref a0, .ref 0, .ref a2, a3, .int (I a4), .ref a5, .ref a6, a7, .int (I a8), .ref a9, .int (I a10), .int (I a11), .int (I a12), a13, .int (I a14), .int (I a15), a16, a17, a18, a19, a20, a21, a22, a23, a24, a25, a26, a27] [] h P) ∧ (¬ s0 = a15 → P (.int (I 0)) h))) : R 99 430 [.ref a0, .ref 0, .ref a2, a3, .int (I a4), .ref a5, .ref a6, a7, .int (I a8), .ref a9, .int (I a10), .int (I a11), .int (I a12), a13, .int (I a14), .int (I a15), a16, a17, a18, a19, a20, a21, a22, a23, a24, a25, a26, a27] [.int (I s0)] h P := by
  refine R_iload (Dat dd_L_law_c4 1 rfl) rfl ?_
  obtain ⟨g1, T⟩ := T
  obtain ⟨g2, T⟩ := T
  refine R_ic_eq (Dat dd_L_law_c4 2 rfl) rfl g1 g2 (fun c => ?_) (fun c => ?_)
  · replace T := T.1 c
    refine R_goto (Dat dd_L_law_c4 5 rfl) rfl ?_
    exact T
  · replace T := T.2 c
    refine R_iconst (Dat dd_L_law_c4 3 rfl) ?_
    exact R_ireturn (Dat dd_L_law_c4 4 rfl) rfl T
theorem t_L_law_463 {h : Hp} {P : Value → Hp → Prop} {a4 a8 a10 a11 a12 a14 a15 s0 : Int} {a0 a2 a5 a6 a9 : Nat} {a3 a7 a13 a16 a17 a18 a19 a20 a21 a22 a23 a24 a25 a26 a27 : Value} (T : R 95 0 [.ref a2, .ref a9, .retAddr 0, .retAddr 0, .retAddr 0, .retAddr 0, .retAddr 0] [] h (fun v h2 => R 99 469 [.ref a0, .ref 0, .ref a2, a3, .int (I a4), .ref a5, .ref a6, a7, .int (I a8), .ref a9, .int (I a10), .int (I a11), .int (I a12), a13, .int (I a14), .int (I a15), a16, a17, a18, a19, a20, a21, a22, a23, a24, a25, a26, a27] (v :: [.int (I s0)]) h2 P)) : R 99 463 [.ref a0, .ref 0, .ref a2, a3, .int (I a4), .ref a5, .ref a6, a7, .int (I a8), .ref a9, .int (I a10), .int (I a11), .int (I a12), a13, .int (I a14), .int (I a15), a16, a17, a18, a19, a20, a21, a22, a23, a24, a25, a26, a27] [.int (I s0)] h P := by
  refine R_aload_n (Dat dd_L_law_c4 18 rfl) rfl rfl ?_
  refine R_aload (Dat dd_L_law_c4 19 rfl) rfl rfl ?_
  exact R_call0 (Dat dd_L_law_c4 20 rfl) rfl rfl rfl rfl rfl rfl T
theorem t_L_law_506 {h : Hp} {P : Value → Hp → Prop} {a4 a8 a10 a11 a12 a14 a15 a16 s0 : Int} {a0 a2 a5 a6 a9 : Nat} {a3 a7 a13 a17 a18 a19 a20 a21 a22 a23 a24 a25 a26 a27 : Value} (T : (rng s0) ∧ ((s0 = 1 → R 99 515 [.ref a0, .ref 0, .ref a2, a3, .int (I a4), .ref a5, .ref a6, a7, .int (I a8), .ref a9, .int (I a10), .int (I a11), .int (I a12), a13, .int (I a14), .int (I a15), .int (I a16), .int (I 0), a18, a19, a20, a21, a22, a23, a24, a25, a26, a27] [] h P) ∧ (¬ s0 = 1 → P (.int (I 0)) h))) : R 99 506 [.ref a0, .ref 0, .ref a2, a3, .int (I a4), .ref a5, .ref a6, a7, .int (I a8), .ref a9, .int (I a10), .int (I a11), .int (I a12), a13, .int (I a14), .int (I a15), .int (I a16), a17, a18, a19, a20, a21, a22, a23, a24, a25, a26, a27] [.int (I s0)] h P := by
  refine R_iconst (Dat dd_L_law_c4 42 rfl) ?_
  obtain ⟨g1, T⟩ := T
  refine R_ic_eq (Dat dd_L_law_c4 43 rfl) rfl g1 (by decide) (fun c => ?_) (fun c => ?_)
  · replace T := T.1 c
    refine R_iconst (Dat dd_L_law_c4 46 rfl) ?_
    refine R_istore (Dat dd_L_law_c4 47 rfl) rfl rfl ?_
    exact T
  · replace T := T.2 c
    refine R_iconst (Dat dd_L_law_c4 44 rfl) ?_
    exact R_ireturn (Dat dd_L_law_c4 45 rfl) rfl T
theorem t_L_law_1341 {h : Hp} {P : Value → Hp → Prop} {a4 a8 s0 : Int} {a0 a2 a3 a5 a6 a7 a9 a10 a11 a12 a13 a14 a15 a16 a17 a18 a19 a20 a21 a22 a23 a24 a25 a26 a27 : Value} (T : (rng s0) ∧ ((s0 = (-1) → (tg h 0 = 12) ∧ R 48 0 [.ref 0, .int (I 0), .int (I 0), .int (I 0), .int (I 1), .retAddr 0] [] h (fun v h2 => R 99 1353 [a0, .ref 0, a2, a3, .int (I a4), a5, a6, a7, .int (I a8), a9, a10, a11, a12, a13, a14, a15, a16, a17, a18, a19, a20, a21, a22, a23, a24, a25, a26, a27] (v :: []) h2 P)) ∧ (¬ s0 = (-1) → R 99 1497 [a0, .ref 0, a2, a3, .int (I a4), a5, a6, a7, .int (I a8), a9, a10, a11, a12, a13, a14, a15, a16, a17, a18, a19, a20, a21, a22, a23, a24, a25, a26, a27] [.int (I 0)] h P))) : R 99 1341 [a0, .ref 0, a2, a3, .int (I a4), a5, a6, a7, .int (I a8), a9, a10, a11, a12, a13, a14, a15, a16, a17, a18, a19, a20, a21, a22, a23, a24, a25, a26, a27] [.int (I s0)] h P := by
  refine R_iconst (Dat dd_L_law_c12 1 rfl) ?_
  obtain ⟨g1, T⟩ := T
  refine R_ic_ne (Dat dd_L_law_c12 2 rfl) rfl g1 (by decide) (fun c => ?_) (fun c => ?_)
  · replace T := T.1 c
    refine R_aload_n (Dat dd_L_law_c12 3 rfl) rfl rfl ?_
    refine R_iconst (Dat dd_L_law_c12 4 rfl) ?_
    refine R_iconst (Dat dd_L_law_c12 5 rfl) ?_
    refine R_iconst (Dat dd_L_law_c12 6 rfl) ?_
    refine R_iconst (Dat dd_L_law_c12 7 rfl) ?_
    obtain ⟨g2, T⟩ := T
    exact R_call1 (Dat dd_L_law_c12 8 rfl) rfl g2 rfl rfl rfl rfl rfl T
  · replace T := T.2 c
    refine R_iconst (Dat dd_L_law_c13 30 rfl) ?_
    exact T
theorem t_L_law_270 {h : Hp} {P : Value → Hp → Prop} {a4 a8 a10 a11 a12 a14 a15 a17 s0 s1 : Int} {a0 a2 a5 a6 a9 : Nat} {a3 a7 a13 a16 a18 a19 a20 a21 a22 a23 a24 a25 a26 a27 : Value} (T : R 99 249 [.ref a0, .ref 0, .ref a2, a3, .int (I a4), .ref a5, .ref a6, a7, .int (I a8), .ref a9, .int (I a10), .int (I a11), .int (I a12), a13, .int (I a14), .int (I a15), .int (I (s1 + s0)), .int (I (a17 + 1)), a18, a19, a20, a21, a22, a23, a24, a25, a26, a27] [] h P) : R 99 270 [.ref a0, .ref 0, .ref a2, a3, .int (I a4), .ref a5, .ref a6, a7, .int (I a8), .ref a9, .int (I a10), .int (I a11), .int (I a12), a13, .int (I a14), .int (I a15), a16, .int (I a17), a18, a19, a20, a21, a22, a23, a24, a25, a26, a27] [.int (I s0), .int (I s1)] h P := by
  refine R_iadd (Dat dd_L_law_c2 32 rfl) ?_
  refine R_istore (Dat dd_L_law_c2 33 rfl) rfl rfl ?_
  refine R_iinc (Dat dd_L_law_c2 34 rfl) rfl rfl rfl ?_
  refine R_goto (Dat dd_L_law_c2 35 rfl) rfl ?_
  exact T
theorem t_L_law_287 {h : Hp} {P : Value → Hp → Prop} {a4 a8 a10 a11 a12 a14 a15 a16 s0 : Int} {a0 a2 a5 a6 a9 : Nat} {a3 a7 a13 a17 a18 a19 a20 a21 a22 a23 a24 a25 a26 a27 : Value} (T : (rng s0) ∧ (rng a16) ∧ ((s0 = a16 → R 99 603 [.ref a0, .ref 0, .ref a2, a3, .int (I a4), .ref a5, .ref a6, a7, .int (I a8), .ref a9, .int (I (a10 + a15)), .int (I a11), .int (I a12), a13, .int (I a14), .int (I a15), .int (I a16), a17, a18, a19, a20, a21, a22, a23, a24, a25, a26, a27] [] h P) ∧ (¬ s0 = a16 → P (.int (I 0)) h))) : R 99 287 [.ref a0, .ref 0, .ref a2, a3, .int (I a4), .ref a5, .ref a6, a7, .int (I a8), .ref a9, .int (I a10), .int (I a11), .int (I a12), a13, .int (I a14), .int (I a15), .int (I a16), a17, a18, a19, a20, a21, a22, a23, a24, a25, a26, a27] [.int (I s0)] h P := by
  refine R_iload (Dat dd_L_law_c2 40 rfl) rfl ?_
  obtain ⟨g1, T⟩ := T
  obtain ⟨g2, T⟩ := T
  refine R_ic_eq (Dat dd_L_law_c2 41 rfl) rfl g1 g2 (fun c => ?_) (fun c => ?_)
  · replace T := T.1 c
    refine R_iload (Dat dd_L_law_c2 44 rfl) rfl ?_
    refine R_iload (Dat dd_L_law_c2 45 rfl) rfl ?_
    refine R_iadd (Dat dd_L_law_c2 46 rfl) ?_
    refine R_istore (Dat dd_L_law_c2 47 rfl) rfl rfl ?_
    refine R_goto (Dat dd_L_law_c2 48 rfl) rfl ?_
    exact T
  · replace T := T.2 c
    refine R_iconst (Dat dd_L_law_c2 42 rfl) ?_
    exact R_ireturn (Dat dd_L_law_c2 43 rfl) rfl T
theorem t_L_law_372 {h : Hp} {P : Value → Hp → Prop} {a4 a8 a10 a11 a12 a14 s0 s1 : Int} {a0 a2 a5 a6 a9 : Nat} {a3 a7 a13 a15 a16 a17 a18 a19 a20 a21 a22 a23 a24 a25 a26 a27 : Value} (T : (rng s1) ∧ (rng s0) ∧ ((s1 = s0 → R 99 603 [.ref a0, .ref 0, .ref a2, a3, .int (I a4), .ref a5, .ref a6, a7, .int (I a8), .ref a9, .int (I a10), .int (I a11), .int (I a12), a13, .int (I a14), a15, a16, a17, a18, a19, a20, a21, a22, a23, a24, a25, a26, a27] [] h P) ∧ (¬ s1 = s0 → P (.int (I 0)) h))) : R 99 372 [.ref a0, .ref 0, .ref a2, a3, .int (I a4), .ref a5, .ref a6, a7, .int (I a8), .ref a9, .int (I a10), .int (I a11), .int (I a12), a13, .int (I a14), a15, a16, a17, a18, a19, a20, a21, a22, a23, a24, a25, a26, a27] [.int (I s0), .int (I s1)] h P := by
  obtain ⟨g1, T⟩ := T
  obtain ⟨g2, T⟩ := T
  refine R_ic_eq (Dat dd_L_law_c3 28 rfl) rfl g1 g2 (fun c => ?_) (fun c => ?_)
  · replace T := T.1 c
    exact T
  · replace T := T.2 c
    refine R_iconst (Dat dd_L_law_c3 29 rfl) ?_
    exact R_ireturn (Dat dd_L_law_c3 30 rfl) rfl T
theorem t_L_law_603 {h : Hp} {P : Value → Hp → Prop} {a4 a8 a10 a11 a12 a14 : Int} {a0 a2 a5 a6 a9 : Nat} {a3 a7 a13 a15 a16 a17 a18 a19 a20 a21 a22 a23 a24 a25 a26 a27 : Value} (T : R 95 0 [.ref a2, .ref a9, .retAddr 0, .retAddr 0, .retAddr 0, .retAddr 0, .retAddr 0] [] h (fun v h2 => R 99 609 [.ref a0, .ref 0, .ref a2, a3, .int (I a4), .ref a5, .ref a6, a7, .int (I a8), .ref a9, .int (I a10), .int (I a11), .int (I a12), a13, .int (I a14), a15, a16, a17, a18, a19, a20, a21, a22, a23, a24, a25, a26, a27] (v :: []) h2 P)) : R 99 603 [.ref a0, .ref 0, .ref a2, a3, .int (I a4), .ref a5, .ref a6, a7, .int (I a8), .ref a9, .int (I a10), .int (I a11), .int (I a12), a13, .int (I a14), a15, a16, a17, a18, a19, a20, a21, a22, a23, a24, a25, a26, a27] [] h P := by
  refine R_aload_n (Dat dd_L_law_c5 39 rfl) rfl rfl ?_
  refine R_aload (Dat dd_L_law_c5 40 rfl) rfl rfl ?_
  exact R_call0 (Dat dd_L_law_c5 41 rfl) rfl rfl rfl rfl rfl rfl T
theorem t_L_law_469 {h : Hp} {P : Value → Hp → Prop} {a4 a8 a10 a11 a12 a14 a15 s0 s1 : Int} {a0 a2 a5 a6 a9 : Nat} {a3 a7 a13 a16 a17 a18 a19 a20 a21 a22 a23 a24 a25 a26 a27 : Value} (T : (rng s1) ∧ (rng s0) ∧ ((s1 = s0 → R 96 0 [.ref a2, .int (I a15), .ref a9, .retAddr 0, .retAddr 0, .retAddr 0, .retAddr 0, .retAddr 0] [] h (fun _ h2 => R 99 482 [.ref a0, .ref 0, .ref a2, a3, .int (I a4), .ref a5, .ref a6, a7, .int (I a8), .ref a9, .int (I a10), .int (I a11), .int (I a12), a13, .int (I a14), .int (I a15), a16, a17, a18, a19, a20, a21, a22, a23, a24, a25, a26, a27] [] h2 P)) ∧ (¬ s1 = s0 → P (.int (I 0)) h))) : R 99 469 [.ref a0, .ref 0, .ref a2, a3, .int (I a4), .ref a5, .ref a6, a7, .int (I a8), .ref a9, .int (I a10), .int (I a11), .int (I a12), a13, .int (I a14), .int (I a15), a16, a17, a18, a19, a20, a21, a22, a23, a24, a25, a26, a27] [.int (I s0), .int (I s1)] h P := by
  obtain ⟨g1, T⟩ := T
  obtain ⟨g2, T⟩ := T
  refine R_ic_eq (Dat dd_L_law_c4 21 rfl) rfl g1 g2 (fun c => ?_) (fun c => ?_)
  · replace T := T.1 c
    refine R_aload_n (Dat dd_L_law_c4 24 rfl) rfl rfl ?_
    refine R_iload (Dat dd_L_law_c4 25 rfl) rfl ?_
    refine R_aload (Dat dd_L_law_c4 26 rfl) rfl rfl ?_
    exact R_call0 (Dat dd_L_law_c4 27 rfl) rfl rfl rfl rfl rfl rfl T
  · replace T := T.2 c
    refine R_iconst (Dat dd_L_law_c4 22 rfl) ?_
    exact R_ireturn (Dat dd_L_law_c4 23 rfl) rfl T
theorem t_L_law_515 {h : Hp} {P : Value → Hp → Prop} {a4 a8 a10 a11 a12 a14 a15 a16 a17 : Int} {a0 a2 a5 a6 a9 : Nat} {a3 a7 a13 a18 a19 a20 a21 a22 a23 a24 a25 a26 a27 : Value} (T : (rng a17) ∧ (rng a15) ∧ ((a17 < a15 → R 88 0 [.int (I (shr a12 (8 + (2 * a17)))), .int (I 3)] [] h (fun v h2 => R 99 537 [.ref a0, .ref 0, .ref a2, a3, .int (I a4), .ref a5, .ref a6, a7, .int (I a8), .ref a9, .int (I a10), .int (I a11), .int (I a12), a13, .int (I a14), .int (I a15), .int (I a16), .int (I a17), a18, a19, a20, a21, a22, a23, a24, a25, a26, a27] (v :: [.int (I 1)]) h2 P)) ∧ (¬ a17 < a15 → (okg 99 65 [.ref a0, .ref 0, .ref a2, a3, .int (I a4), .ref a5, .ref a6, a7, .int (I a8), .ref a9, .int (I a10), .int (I a11), .int (I a12), a13, .int (I a14), .int (I a15), .int (I a16), .int (I a17), a18, a19, a20, a21, a22, a23, a24, a25, a26, a27] [] [.ref 0, .int (I 2), .int (I 0), .int (I 1), .int (I a15)] = true) ∧ (tg h 0 = 12) ∧ R 65 0 [.ref 0, .int (I 2), .int (I 0), .int (I 1), .int (I a15), .retAddr 0, .retAddr 0, .retAddr 0, .retAddr 0, .retAddr 0] [] h (fun v h2 => R 99 589 [.ref a0, .ref 0, .ref a2, a3, .int (I a4), .ref a5, .ref a6, a7, .int (I a8), .ref a9, .int (I a10), .int (I a11), .int (I a12), a13, .int (I a14), .int (I a15), .int (I a16), .int (I a17), a18, a19, a20, a21, a22, a23, a24, a25, a26, a27] (v :: []) h2 P)))) : R 99 515 [.ref a0, .ref 0, .ref a2, a3, .int (I a4), .ref a5, .ref a6, a7, .int (I a8), .ref a9, .int (I a10), .int (I a11), .int (I a12), a13, .int (I a14), .int (I a15), .int (I a16), .int (I a17), a18, a19, a20, a21, a22, a23, a24, a25, a26, a27] [] h P := by
  refine R_iload (Dat dd_L_law_c4 48 rfl) rfl ?_
  refine R_iload (Dat dd_L_law_c4 49 rfl) rfl ?_
  obtain ⟨g1, T⟩ := T
  obtain ⟨g2, T⟩ := T
  refine R_ic_ge (Dat dd_L_law_c4 50 rfl) rfl g1 g2 (fun c => ?_) (fun c => ?_)
  · replace T := T.1 c
    refine R_iconst (Dat dd_L_law_c4 51 rfl) ?_
    refine R_iload (Dat dd_L_law_c4 52 rfl) rfl ?_
    refine R_bipush (Dat dd_L_law_c4 53 rfl) (a := 8) rfl ?_
    refine R_iconst (Dat dd_L_law_c4 54 rfl) ?_
    refine R_iload (Dat dd_L_law_c4 55 rfl) rfl ?_
    refine R_imul (Dat dd_L_law_c4 56 rfl) ?_
    refine R_iadd (Dat dd_L_law_c4 57 rfl) ?_
    refine R_ishr (Dat dd_L_law_c4 58 rfl) ?_
    refine R_iconst (Dat dd_L_law_c4 59 rfl) ?_
    exact R_call0 (Dat dd_L_law_c5 0 rfl) rfl rfl rfl rfl rfl rfl T
  · replace T := T.2 c
    refine R_aload_n (Dat dd_L_law_c5 25 rfl) rfl rfl ?_
    refine R_iconst (Dat dd_L_law_c5 26 rfl) ?_
    refine R_iconst (Dat dd_L_law_c5 27 rfl) ?_
    refine R_iconst (Dat dd_L_law_c5 28 rfl) ?_
    refine R_iload (Dat dd_L_law_c5 29 rfl) rfl ?_
    obtain ⟨g3, T⟩ := T
    obtain ⟨g4, T⟩ := T
    exact R_call1 (Dat dd_L_law_c5 30 rfl) rfl g4 rfl rfl rfl g3 rfl T
theorem t_L_law_1353 {h : Hp} {P : Value → Hp → Prop} {a4 a8 s0 : Int} {a0 a2 a3 a5 a6 a7 a9 a10 a11 a12 a13 a14 a15 a16 a17 a18 a19 a20 a21 a22 a23 a24 a25 a26 a27 : Value} (T : (rng s0) ∧ ((s0 = (-2) → (tg h 0 = 12) ∧ R 48 0 [.ref 0, .int (I 0), .int (I 1), .int (I (a4 - 1)), .int (I 1), .retAddr 0] [] h (fun v h2 => R 99 1369 [a0, .ref 0, a2, a3, .int (I a4), a5, a6, a7, .int (I a8), a9, a10, a11, a12, a13, a14, a15, a16, a17, a18, a19, a20, a21, a22, a23, a24, a25, a26, a27] (v :: []) h2 P)) ∧ (¬ s0 = (-2) → R 99 1497 [a0, .ref 0, a2, a3, .int (I a4), a5, a6, a7, .int (I a8), a9, a10, a11, a12, a13, a14, a15, a16, a17, a18, a19, a20, a21, a22, a23, a24, a25, a26, a27] [.int (I 0)] h P))) : R 99 1353 [a0, .ref 0, a2, a3, .int (I a4), a5, a6, a7, .int (I a8), a9, a10, a11, a12, a13, a14, a15, a16, a17, a18, a19, a20, a21, a22, a23, a24, a25, a26, a27] [.int (I s0)] h P := by
  refine R_bipush (Dat dd_L_law_c12 9 rfl) (a := (-2)) rfl ?_
  obtain ⟨g1, T⟩ := T
  refine R_ic_ne (Dat dd_L_law_c12 10 rfl) rfl g1 (by decide) (fun c => ?_) (fun c => ?_)
  · replace T := T.1 c
    refine R_aload_n (Dat dd_L_law_c12 11 rfl) rfl rfl ?_
    refine R_iconst (Dat dd_L_law_c12 12 rfl) ?_
    refine R_iconst (Dat dd_L_law_c12 13 rfl) ?_
    refine R_iload (Dat dd_L_law_c12 14 rfl) rfl ?_
    refine R_iconst (Dat dd_L_law_c12 15 rfl) ?_
    refine R_isub (Dat dd_L_law_c12 16 rfl) ?_
    refine R_iconst (Dat dd_L_law_c12 17 rfl) ?_
    obtain ⟨g2, T⟩ := T
    exact R_call1 (Dat dd_L_law_c12 18 rfl) rfl g2 rfl rfl rfl rfl rfl T
  · replace T := T.2 c
    refine R_iconst (Dat dd_L_law_c13 30 rfl) ?_
    exact T
theorem t_L_law_609 {h : Hp} {P : Value → Hp → Prop} {a4 a8 a10 a11 a12 a14 s0 : Int} {a0 a2 a5 a6 a9 : Nat} {a3 a7 a13 a15 a16 a17 a18 a19 a20 a21 a22 a23 a24 a25 a26 a27 : Value} (T : (tg h 0 = 12) ∧ R 35 0 [.ref 0] [] h (fun v h2 => R 99 615 [.ref a0, .ref 0, .ref a2, a3, .int (I a4), .ref a5, .ref a6, a7, .int (I a8), .ref a9, .int (I a10), .int (I a11), .int (I a12), a13, .int (I a14), .int (I s0), a16, a17, a18, a19, a20, a21, a22, a23, a24, a25, a26, a27] (v :: []) h2 P)) : R 99 609 [.ref a0, .ref 0, .ref a2, a3, .int (I a4), .ref a5, .ref a6, a7, .int (I a8), .ref a9, .int (I a10), .int (I a11), .int (I a12), a13, .int (I a14), a15, a16, a17, a18, a19, a20, a21, a22, a23, a24, a25, a26, a27] [.int (I s0)] h P := by
  refine R_istore (Dat dd_L_law_c5 42 rfl) rfl rfl ?_
  refine R_aload_n (Dat dd_L_law_c5 43 rfl) rfl rfl ?_
  obtain ⟨g1, T⟩ := T
  exact R_call1 (Dat dd_L_law_c5 44 rfl) rfl g1 rfl rfl rfl rfl rfl T
theorem t_L_law_482 {h : Hp} {P : Value → Hp → Prop} {a4 a8 a10 a11 a12 a14 : Int} {a0 a2 a5 a6 a9 : Nat} {a3 a7 a13 a15 a16 a17 a18 a19 a20 a21 a22 a23 a24 a25 a26 a27 : Value} (T : R 99 603 [.ref a0, .ref 0, .ref a2, a3, .int (I a4), .ref a5, .ref a6, a7, .int (I a8), .ref a9, .int (I a10), .int (I a11), .int (I a12), a13, .int (I a14), a15, a16, a17, a18, a19, a20, a21, a22, a23, a24, a25, a26, a27] [] h P) : R 99 482 [.ref a0, .ref 0, .ref a2, a3, .int (I a4), .ref a5, .ref a6, a7, .int (I a8), .ref a9, .int (I a10), .int (I a11), .int (I a12), a13, .int (I a14), a15, a16, a17, a18, a19, a20, a21, a22, a23, a24, a25, a26, a27] [] h P := by
  refine R_goto (Dat dd_L_law_c4 28 rfl) rfl ?_
  exact T
theorem t_L_law_537 {h : Hp} {P : Value → Hp → Prop} {a4 a8 a10 a11 a12 a14 a15 a16 a17 s0 s1 : Int} {a0 a2 a5 a6 a9 : Nat} {a3 a7 a13 a18 a19 a20 a21 a22 a23 a24 a25 a26 a27 : Value} (T : (tg h 0 = 12) ∧ R 84 0 [.ref 0, .int (I 2), .int (I (1 + a17)), .int (I (s1 + s0)), .retAddr 0] [] h (fun v h2 => R 99 551 [.ref a0, .ref 0, .ref a2, a3, .int (I a4), .ref a5, .ref a6, a7, .int (I a8), .ref a9, .int (I a10), .int (I a11), .int (I a12), a13, .int (I a14), .int (I a15), .int (I a16), .int (I a17), .int (I (s1 + s0)), a19, a20, a21, a22, a23, a24, a25, a26, a27] (v :: []) h2 P)) : R 99 537 [.ref a0, .ref 0, .ref a2, a3, .int (I a4), .ref a5, .ref a6, a7, .int (I a8), .ref a9, .int (I a10), .int (I a11), .int (I a12), a13, .int (I a14), .int (I a15), .int (I a16), .int (I a17), a18, a19, a20, a21, a22, a23, a24, a25, a26, a27] [.int (I s0), .int (I s1)] h P := by
  refine R_iadd (Dat dd_L_law_c5 1 rfl) ?_
  refine R_istore (Dat dd_L_law_c5 2 rfl) rfl rfl ?_
  refine R_aload_n (Dat dd_L_law_c5 3 rfl) rfl rfl ?_
  refine R_iconst (Dat dd_L_law_c5 4 rfl) ?_
  refine R_iconst (Dat dd_L_law_c5 5 rfl) ?_
  refine R_iload (Dat dd_L_law_c5 6 rfl) rfl ?_
  refine R_iadd (Dat dd_L_law_c5 7 rfl) ?_
  refine R_iload (Dat dd_L_law_c5 8 rfl) rfl ?_
  obtain ⟨g1, T⟩ := T
  exact R_call1 (Dat dd_L_law_c5 9 rfl) rfl g1 rfl rfl rfl rfl rfl T
theorem t_L_law_589 {h : Hp} {P : Value → Hp → Prop} {a4 a8 a10 a11 a12 a14 a15 a16 s0 : Int} {a0 a2 a5 a6 a9 : Nat} {a3 a7 a13 a17 a18 a19 a20 a21 a22 a23 a24 a25 a26 a27 : Value} (T : (rng s0) ∧ (rng a16) ∧ ((s0 = a16 → R 99 603 [.ref a0, .ref 0, .ref a2, a3, .int (I a4), .ref a5, .ref a6, a7, .int (I a8), .ref a9, .int (I (a10 + a15)), .int (I a11), .int (I a12), a13, .int (I a14), .int (I a15), .int (I a16), a17, a18, a19, a20, a21, a22, a23, a24, a25, a26, a27] [] h P) ∧ (¬ s0 = a16 → P (.int (I 0)) h))) : R 99 589 [.ref a0, .ref 0, .ref a2, a3, .int (I a4), .ref a5, .ref a6, a7, .int (I a8), .ref a9, .int (I a10), .int (I a11), .int (I a12), a13, .int (I a14), .int (I a15), .int (I a16), a17, a18, a19, a20, a21, a22, a23, a24, a25, a26, a27] [.int (I s0)] h P := by
  refine R_iload (Dat dd_L_law_c5 31 rfl) rfl ?_
  obtain ⟨g1, T⟩ := T
  obtain ⟨g2, T⟩ := T
  refine R_ic_eq (Dat dd_L_law_c5 32 rfl) rfl g1 g2 (fun c => ?_) (fun c => ?_)
  · replace T := T.1 c
    refine R_iload (Dat dd_L_law_c5 35 rfl) rfl ?_
    refine R_iload (Dat dd_L_law_c5 36 rfl) rfl ?_
    refine R_iadd (Dat dd_L_law_c5 37 rfl) ?_
    refine R_istore (Dat dd_L_law_c5 38 rfl) rfl rfl ?_
    exact T
  · replace T := T.2 c
    refine R_iconst (Dat dd_L_law_c5 33 rfl) ?_
    exact R_ireturn (Dat dd_L_law_c5 34 rfl) rfl T
theorem t_L_law_1369 {h : Hp} {P : Value → Hp → Prop} {a4 a8 s0 : Int} {a0 a2 a3 a5 a6 a7 a9 a10 a11 a12 a13 a14 a15 a16 a17 a18 a19 a20 a21 a22 a23 a24 a25 a26 a27 : Value} (T : (rng s0) ∧ ((s0 = (-2) → (tg h 0 = 12) ∧ R 48 0 [.ref 0, .int (I 0), .int (I 1), .int (I 0), .int (I 4), .retAddr 0] [] h (fun v h2 => R 99 1382 [a0, .ref 0, a2, a3, .int (I a4), a5, a6, a7, .int (I a8), a9, a10, a11, a12, a13, a14, a15, a16, a17, a18, a19, a20, a21, a22, a23, a24, a25, a26, a27] (v :: []) h2 P)) ∧ (¬ s0 = (-2) → R 99 1497 [a0, .ref 0, a2, a3, .int (I a4), a5, a6, a7, .int (I a8), a9, a10, a11, a12, a13, a14, a15, a16, a17, a18, a19, a20, a21, a22, a23, a24, a25, a26, a27] [.int (I 0)] h P))) : R 99 1369 [a0, .ref 0, a2, a3, .int (I a4), a5, a6, a7, .int (I a8), a9, a10, a11, a12, a13, a14, a15, a16, a17, a18, a19, a20, a21, a22, a23, a24, a25, a26, a27] [.int (I s0)] h P := by
  refine R_bipush (Dat dd_L_law_c12 19 rfl) (a := (-2)) rfl ?_
  obtain ⟨g1, T⟩ := T
  refine R_ic_ne (Dat dd_L_law_c12 20 rfl) rfl g1 (by decide) (fun c => ?_) (fun c => ?_)
  · replace T := T.1 c
    refine R_aload_n (Dat dd_L_law_c12 21 rfl) rfl rfl ?_
    refine R_iconst (Dat dd_L_law_c12 22 rfl) ?_
    refine R_iconst (Dat dd_L_law_c12 23 rfl) ?_
    refine R_iconst (Dat dd_L_law_c12 24 rfl) ?_
    refine R_iconst (Dat dd_L_law_c12 25 rfl) ?_
    obtain ⟨g2, T⟩ := T
    exact R_call1 (Dat dd_L_law_c12 26 rfl) rfl g2 rfl rfl rfl rfl rfl T
  · replace T := T.2 c
    refine R_iconst (Dat dd_L_law_c13 30 rfl) ?_
    exact T
theorem t_L_law_615 {h : Hp} {P : Value → Hp → Prop} {a4 a8 a10 a11 a12 a14 a15 s0 : Int} {a0 a2 a5 a6 a9 : Nat} {a3 a7 a13 a16 a17 a18 a19 a20 a21 a22 a23 a24 a25 a26 a27 : Value} (T : (rng s0) ∧ (rng a15) ∧ ((s0 = a15 → (tg h 0 = 12) ∧ R 86 0 [.ref 0, .int (I 4)] [] h (fun v h2 => R 99 625 [.ref a0, .ref 0, .ref a2, a3, .int (I a4), .ref a5, .ref a6, a7, .int (I a8), .ref a9, .int (I a10), .int (I a11), .int (I a12), a13, .int (I a14), .int (I a15), a16, a17, a18, a19, a20, a21, a22, a23, a24, a25, a26, a27] (v :: []) h2 P)) ∧ (¬ s0 = a15 → P (.int (I 0)) h))) : R 99 615 [.ref a0, .ref 0, .ref a2, a3, .int (I a4), .ref a5, .ref a6, a7, .int (I a8), .ref a9, .int (I a10), .int (I a11), .int (I a12), a13, .int (I a14), .int (I a15), a16, a17, a18, a19, a20, a21, a22, a23, a24, a25, a26, a27] [.int (I s0)] h P := by
  refine R_iload (Dat dd_L_law_c5 45 rfl) rfl ?_
  obtain ⟨g1, T⟩ := T
  obtain ⟨g2, T⟩ := T
  refine R_ic_ne (Dat dd_L_law_c5 46 rfl) rfl g1 g2 (fun c => ?_) (fun c => ?_)
  · replace T := T.1 c
    refine R_aload_n (Dat dd_L_law_c5 47 rfl) rfl rfl ?_
    refine R_iconst (Dat dd_L_law_c5 48 rfl) ?_
    obtain ⟨g3, T⟩ := T
    exact R_call1 (Dat dd_L_law_c5 49 rfl) rfl g3 rfl rfl rfl rfl rfl T
  · replace T := T.2 c
    refine R_iconst (Dat dd_L_law_c5 52 rfl) ?_
    exact R_ireturn (Dat dd_L_law_c5 53 rfl) rfl T
theorem t_L_law_551 {h : Hp} {P : Value → Hp → Prop} {a4 a8 a10 a11 a12 a14 a15 a16 a17 a18 s0 : Int} {a0 a2 a5 a6 a9 : Nat} {a3 a7 a13 a19 a20 a21 a22 a23 a24 a25 a26 a27 : Value} (T : (rng s0) ∧ ((s0 = 1 → R 94 0 [.ref a2, .ref a5, .int (I (-9)), .ref a9, .int (I a18), .retAddr 0, .retAddr 0, .retAddr 0, .retAddr 0, .retAddr 0] [] h (fun v h2 => R 99 571 [.ref a0, .ref 0, .ref a2, a3, .int (I a4), .ref a5, .ref a6, a7, .int (I a8), .ref a9, .int (I a10), .int (I a11), .int (I a12), a13, .int (I a14), .int (I a15), .int (I a16), .int (I a17), .int (I a18), a19, a20, a21, a22, a23, a24, a25, a26, a27] (v :: [.int (I a16)]) h2 P)) ∧ (¬ s0 = 1 → P (.int (I 0)) h))) : R 99 551 [.ref a0, .ref 0, .ref a2, a3, .int (I a4), .ref a5, .ref a6, a7, .int (I a8), .ref a9, .int (I a10), .int (I a11), .int (I a12), a13, .int (I a14), .int (I a15), .int (I a16), .int (I a17), .int (I a18), a19, a20, a21, a22, a23, a24, a25, a26, a27] [.int (I s0)] h P := by
  refine R_iconst (Dat dd_L_law_c5 10 rfl) ?_
  obtain ⟨g1, T⟩ := T
  refine R_ic_eq (Dat dd_L_law_c5 11 rfl) rfl g1 (by decide) (fun c => ?_) (fun c => ?_)
  · replace T := T.1 c
    refine R_iload (Dat dd_L_law_c5 14 rfl) rfl ?_
    refine R_aload_n (Dat dd_L_law_c5 15 rfl) rfl rfl ?_
    refine R_aload (Dat dd_L_law_c5 16 rfl) rfl rfl ?_
    refine R_bipush (Dat dd_L_law_c5 17 rfl) (a := (-9)) rfl ?_
    refine R_aload (Dat dd_L_law_c5 18 rfl) rfl rfl ?_
    refine R_iload (Dat dd_L_law_c5 19 rfl) rfl ?_
    exact R_call0 (Dat dd_L_law_c5 20 rfl) rfl rfl rfl rfl rfl rfl T
  · replace T := T.2 c
    refine R_iconst (Dat dd_L_law_c5 12 rfl) ?_
    exact R_ireturn (Dat dd_L_law_c5 13 rfl) rfl T
theorem t_L_law_1382 {h : Hp} {P : Value → Hp → Prop} {a4 a8 s0 : Int} {a0 a2 a3 a5 a6 a7 a9 a10 a11 a12 a13 a14 a15 a16 a17 a18 a19 a20 a21 a22 a23 a24 a25 a26 a27 : Value} (T : (rng s0) ∧ ((s0 = (-2) → (okg 99 53 [a0, .ref 0, a2, a3, .int (I a4), a5, a6, a7, .int (I a8), a9, a10, a11, a12, a13, a14, a15, a16, a17, a18, a19, a20, a21, a22, a23, a24, a25, a26, a27] [] [.ref 0, .int (I 0), .int (I 1)] = true) ∧ (tg h 0 = 12) ∧ R 53 0 [.ref 0, .int (I 0), .int (I 1), .retAddr 0, .retAddr 0, .retAddr 0] [] h (fun v h2 => R 99 1393 [a0, .ref 0, a2, a3, .int (I a4), a5, a6, a7, .int (I a8), a9, a10, a11, a12, a13, a14, a15, a16, a17, a18, a19, a20, a21, a22, a23, a24, a25, a26, a27] (v :: []) h2 P)) ∧ (¬ s0 = (-2) → R 99 1497 [a0, .ref 0, a2, a3, .int (I a4), a5, a6, a7, .int (I a8), a9, a10, a11, a12, a13, a14, a15, a16, a17, a18, a19, a20, a21, a22, a23, a24, a25, a26, a27] [.int (I 0)] h P))) : R 99 1382 [a0, .ref 0, a2, a3, .int (I a4), a5, a6, a7, .int (I a8), a9, a10, a11, a12, a13, a14, a15, a16, a17, a18, a19, a20, a21, a22, a23, a24, a25, a26, a27] [.int (I s0)] h P := by
  refine R_bipush (Dat dd_L_law_c12 27 rfl) (a := (-2)) rfl ?_
  obtain ⟨g1, T⟩ := T
  refine R_ic_ne (Dat dd_L_law_c12 28 rfl) rfl g1 (by decide) (fun c => ?_) (fun c => ?_)
  · replace T := T.1 c
    refine R_aload_n (Dat dd_L_law_c12 29 rfl) rfl rfl ?_
    refine R_iconst (Dat dd_L_law_c12 30 rfl) ?_
    refine R_iconst (Dat dd_L_law_c12 31 rfl) ?_
    obtain ⟨g2, T⟩ := T
    obtain ⟨g3, T⟩ := T
    exact R_call1 (Dat dd_L_law_c12 32 rfl) rfl g3 rfl rfl rfl g2 rfl T
  · replace T := T.2 c
    refine R_iconst (Dat dd_L_law_c13 30 rfl) ?_
    exact T
theorem t_L_law_625 {h : Hp} {P : Value → Hp → Prop} {a4 a8 a10 a11 a12 a14 a15 s0 : Int} {a0 a2 a5 a6 a9 : Nat} {a3 a7 a13 a16 a17 a18 a19 a20 a21 a22 a23 a24 a25 a26 a27 : Value} (T : (rng s0) ∧ (rng a10) ∧ ((s0 = a10 → R 99 635 [.ref a0, .ref 0, .ref a2, a3, .int (I a4), .ref a5, .ref a6, a7, .int (I a8), .ref a9, .int (I a10), .int (I a11), .int (I a12), a13, .int (I a14), .int (I a15), .int (I 0), a17, a18, a19, a20, a21, a22, a23, a24, a25, a26, a27] [] h P) ∧ (¬ s0 = a10 → P (.int (I 0)) h))) : R 99 625 [.ref a0, .ref 0, .ref a2, a3, .int (I a4), .ref a5, .ref a6, a7, .int (I a8), .ref a9, .int (I a10), .int (I a11), .int (I a12), a13, .int (I a14), .int (I a15), a16, a17, a18, a19, a20, a21, a22, a23, a24, a25, a26, a27] [.int (I s0)] h P := by
  refine R_iload (Dat dd_L_law_c5 50 rfl) rfl ?_
  obtain ⟨g1, T⟩ := T
  obtain ⟨g2, T⟩ := T
  refine R_ic_eq (Dat dd_L_law_c5 51 rfl) rfl g1 g2 (fun c => ?_) (fun c => ?_)
  · replace T := T.1 c
    refine R_iconst (Dat dd_L_law_c5 54 rfl) ?_
    refine R_istore (Dat dd_L_law_c5 55 rfl) rfl rfl ?_
    exact T
  · replace T := T.2 c
    refine R_iconst (Dat dd_L_law_c5 52 rfl) ?_
    exact R_ireturn (Dat dd_L_law_c5 53 rfl) rfl T
theorem t_L_law_571 {h : Hp} {P : Value → Hp → Prop} {a4 a8 a10 a11 a12 a14 a15 a17 s0 s1 : Int} {a0 a2 a5 a6 a9 : Nat} {a3 a7 a13 a16 a18 a19 a20 a21 a22 a23 a24 a25 a26 a27 : Value} (T : R 99 515 [.ref a0, .ref 0, .ref a2, a3, .int (I a4), .ref a5, .ref a6, a7, .int (I a8), .ref a9, .int (I a10), .int (I a11), .int (I a12), a13, .int (I a14), .int (I a15), .int (I (s1 + s0)), .int (I (a17 + 1)), a18, a19, a20, a21, a22, a23, a24, a25, a26, a27] [] h P) : R 99 571 [.ref a0, .ref 0, .ref a2, a3, .int (I a4), .ref a5, .ref a6, a7, .int (I a8), .ref a9, .int (I a10), .int (I a11), .int (I a12), a13, .int (I a14), .int (I a15), a16, .int (I a17), a18, a19, a20, a21, a22, a23, a24, a25, a26, a27] [.int (I s0), .int (I s1)] h P := by
  refine R_iadd (Dat dd_L_law_c5 21 rfl) ?_
  refine R_istore (Dat dd_L_law_c5 22 rfl) rfl rfl ?_
  refine R_iinc (Dat dd_L_law_c5 23 rfl) rfl rfl rfl ?_
  refine R_goto (Dat dd_L_law_c5 24 rfl) rfl ?_
  exact T
theorem t_L_law_1393 {h : Hp} {P : Value → Hp → Prop} {a4 a8 s0 : Int} {a0 a2 a3 a5 a6 a7 a9 a10 a11 a12 a13 a14 a15 a16 a17 a18 a19 a20 a21 a22 a23 a24 a25 a26 a27 : Value} (T : (rng s0) ∧ ((s0 = (-2) → (okg 99 53 [a0, .ref 0, a2, a3, .int (I a4), a5, a6, a7, .int (I a8), a9, a10, a11, a12, a13, a14, a15, a16, a17, a18, a19, a20, a21, a22, a23, a24, a25, a26, a27] [] [.ref 0, .int (I 1), .int (I 100)] = true) ∧ (tg h 0 = 12) ∧ R 53 0 [.ref 0, .int (I 1), .int (I 100), .retAddr 0, .retAddr 0, .retAddr 0] [] h (fun v h2 => R 99 1405 [a0, .ref 0, a2, a3, .int (I a4), a5, a6, a7, .int (I a8), a9, a10, a11, a12, a13, a14, a15, a16, a17, a18, a19, a20, a21, a22, a23, a24, a25, a26, a27] (v :: []) h2 P)) ∧ (¬ s0 = (-2) → R 99 1497 [a0, .ref 0, a2, a3, .int (I a4), a5, a6, a7, .int (I a8), a9, a10, a11, a12, a13, a14, a15, a16, a17, a18, a19, a20, a21, a22, a23, a24, a25, a26, a27] [.int (I 0)] h P))) : R 99 1393 [a0, .ref 0, a2, a3, .int (I a4), a5, a6, a7, .int (I a8), a9, a10, a11, a12, a13, a14, a15, a16, a17, a18, a19, a20, a21, a22, a23, a24, a25, a26, a27] [.int (I s0)] h P := by
  refine R_bipush (Dat dd_L_law_c12 33 rfl) (a := (-2)) rfl ?_
  obtain ⟨g1, T⟩ := T
  refine R_ic_ne (Dat dd_L_law_c12 34 rfl) rfl g1 (by decide) (fun c => ?_) (fun c => ?_)
  · replace T := T.1 c
    refine R_aload_n (Dat dd_L_law_c12 35 rfl) rfl rfl ?_
    refine R_iconst (Dat dd_L_law_c12 36 rfl) ?_
    refine R_bipush (Dat dd_L_law_c12 37 rfl) (a := 100) rfl ?_
    obtain ⟨g2, T⟩ := T
    obtain ⟨g3, T⟩ := T
    exact R_call1 (Dat dd_L_law_c12 38 rfl) rfl g3 rfl rfl rfl g2 rfl T
  · replace T := T.2 c
    refine R_iconst (Dat dd_L_law_c13 30 rfl) ?_
    exact T
theorem t_L_law_635 {h : Hp} {P : Value → Hp → Prop} {a4 a8 a10 a11 a12 a14 a15 a16 : Int} {a0 a2 a5 a6 a9 : Nat} {a3 a7 a13 a17 a18 a19 a20 a21 a22 a23 a24 a25 a26 a27 : Value} (T : (rng a16) ∧ (rng a4) ∧ ((a16 < a4 → (tg h 0 = 12) ∧ R 33 0 [.ref 0, .int (I a16)] [] h (fun v h2 => R 99 648 [.ref a0, .ref 0, .ref a2, a3, .int (I a4), .ref a5, .ref a6, a7, .int (I a8), .ref a9, .int (I a10), .int (I a11), .int (I a12), a13, .int (I a14), .int (I a15), .int (I a16), a17, a18, a19, a20, a21, a22, a23, a24, a25, a26, a27] (v :: []) h2 P)) ∧ (¬ a16 < a4 → R 99 698 [.ref a0, .ref 0, .ref a2, a3, .int (I a4), .ref a5, .ref a6, a7, .int (I a8), .ref a9, .int (I a10), .int (I a11), .int (I a12), a13, .int (I a14), .int (I a15), .int (I 0), a17, a18, a19, a20, a21, a22, a23, a24, a25, a26, a27] [] h P))) : R 99 635 [.ref a0, .ref 0, .ref a2, a3, .int (I a4), .ref a5, .ref a6, a7, .int (I a8), .ref a9, .int (I a10), .int (I a11), .int (I a12), a13, .int (I a14), .int (I a15), .int (I a16), a17, a18, a19, a20, a21, a22, a23, a24, a25, a26, a27] [] h P := by
  refine R_iload (Dat dd_L_law_c5 56 rfl) rfl ?_
  refine R_iload (Dat dd_L_law_c5 57 rfl) rfl ?_
  obtain ⟨g1, T⟩ := T
  obtain ⟨g2, T⟩ := T
  refine R_ic_ge (Dat dd_L_law_c5 58 rfl) rfl g1 g2 (fun c => ?_) (fun c => ?_)
  · replace T := T.1 c
    refine R_aload_n (Dat dd_L_law_c5 59 rfl) rfl rfl ?_
    refine R_iload (Dat dd_L_law_c6 0 rfl) rfl ?_
    obtain ⟨g3, T⟩ := T
    exact R_call1 (Dat dd_L_law_c6 1 rfl) rfl g3 rfl rfl rfl rfl rfl T
  · replace T := T.2 c
    refine R_iconst (Dat dd_L_law_c6 26 rfl) ?_
    refine R_istore (Dat dd_L_law_c6 27 rfl) rfl rfl ?_
    exact T
theorem t_L_law_1405 {h : Hp} {P : Value → Hp → Prop} {a4 a8 s0 : Int} {a0 a2 a3 a5 a6 a7 a9 a10 a11 a12 a13 a14 a15 a16 a17 a18 a19 a20 a21 a22 a23 a24 a25 a26 a27 : Value} (T : (rng s0) ∧ ((s0 = (-2) → (okg 99 73 [a0, .ref 0, a2, a3, .int (I a4), a5, a6, a7, .int (I a8), a9, a10, a11, a12, a13, a14, a15, a16, a17, a18, a19, a20, a21, a22, a23, a24, a25, a26, a27] [] [.ref 0, .int (I a8), .int (I 1)] = true) ∧ (tg h 0 = 12) ∧ R 73 0 [.ref 0, .int (I a8), .int (I 1), .retAddr 0] [] h (fun v h2 => R 99 1417 [a0, .ref 0, a2, a3, .int (I a4), a5, a6, a7, .int (I a8), a9, a10, a11, a12, a13, a14, a15, a16, a17, a18, a19, a20, a21, a22, a23, a24, a25, a26, a27] (v :: []) h2 P)) ∧ (¬ s0 = (-2) → R 99 1497 [a0, .ref 0, a2, a3, .int (I a4), a5, a6, a7, .int (I a8), a9, a10, a11, a12, a13, a14, a15, a16, a17, a18, a19, a20, a21, a22, a23, a24, a25, a26, a27] [.int (I 0)] h P))) : R 99 1405 [a0, .ref 0, a2, a3, .int (I a4), a5, a6, a7, .int (I a8), a9, a10, a11, a12, a13, a14, a15, a16, a17, a18, a19, a20, a21, a22, a23, a24, a25, a26, a27] [.int (I s0)] h P := by
  refine R_bipush (Dat dd_L_law_c12 39 rfl) (a := (-2)) rfl ?_
  obtain ⟨g1, T⟩ := T
  refine R_ic_ne (Dat dd_L_law_c12 40 rfl) rfl g1 (by decide) (fun c => ?_) (fun c => ?_)
  · replace T := T.1 c
    refine R_aload_n (Dat dd_L_law_c12 41 rfl) rfl rfl ?_
    refine R_iload (Dat dd_L_law_c12 42 rfl) rfl ?_
    refine R_iconst (Dat dd_L_law_c12 43 rfl) ?_
    obtain ⟨g2, T⟩ := T
    obtain ⟨g3, T⟩ := T
    exact R_call1 (Dat dd_L_law_c12 44 rfl) rfl g3 rfl rfl rfl g2 rfl T
  · replace T := T.2 c
    refine R_iconst (Dat dd_L_law_c13 30 rfl) ?_
    exact T
theorem t_L_law_648 {h : Hp} {P : Value → Hp → Prop} {a4 a8 a10 a11 a12 a14 a15 a16 s0 : Int} {a0 a2 a5 a6 a9 : Nat} {a3 a7 a13 a17 a18 a19 a20 a21 a22 a23 a24 a25 a26 a27 : Value} (T : (tg h a9 = 20 ∨ tg h a9 = 30) ∧ ((ln h a9 : Int) ≤ 2147483648) ∧ (0 ≤ a16) ∧ (a16 < ln h a9) ∧ (rng s0) ∧ (rng (iv h a9 a16)) ∧ ((s0 = (iv h a9 a16) → (tg h 0 = 12) ∧ R 39 0 [.ref 0, .int (I a15), .int (I a16)] [] h (fun v h2 => R 99 664 [.ref a0, .ref 0, .ref a2, a3, .int (I a4), .ref a5, .ref a6, a7, .int (I a8), .ref a9, .int (I a10), .int (I a11), .int (I a12), a13, .int (I a14), .int (I a15), .int (I a16), a17, a18, a19, a20, a21, a22, a23, a24, a25, a26, a27] (v :: []) h2 P)) ∧ (¬ s0 = (iv h a9 a16) → P (.int (I 0)) h))) : R 99 648 [.ref a0, .ref 0, .ref a2, a3, .int (I a4), .ref a5, .ref a6, a7, .int (I a8), .ref a9, .int (I a10), .int (I a11), .int (I a12), a13, .int (I a14), .int (I a15), .int (I a16), a17, a18, a19, a20, a21, a22, a23, a24, a25, a26, a27] [.int (I s0)] h P := by
  refine R_aload (Dat dd_L_law_c6 2 rfl) rfl rfl ?_
  refine R_iload (Dat dd_L_law_c6 3 rfl) rfl ?_
  obtain ⟨g1, T⟩ := T
  obtain ⟨g2, T⟩ := T
  obtain ⟨g3, T⟩ := T
  obtain ⟨g4, T⟩ := T
  refine R_iaload (Dat dd_L_law_c6 4 rfl) g1 g2 g3 g4 ?_
  obtain ⟨g5, T⟩ := T
  obtain ⟨g6, T⟩ := T
  refine R_ic_ne (Dat dd_L_law_c6 5 rfl) rfl g5 g6 (fun c => ?_) (fun c => ?_)
  · replace T := T.1 c
    refine R_aload_n (Dat dd_L_law_c6 6 rfl) rfl rfl ?_
    refine R_iload (Dat dd_L_law_c6 7 rfl) rfl ?_
    refine R_iload (Dat dd_L_law_c6 8 rfl) rfl ?_
    obtain ⟨g7, T⟩ := T
    exact R_call1 (Dat dd_L_law_c6 9 rfl) rfl g7 rfl rfl rfl rfl rfl T
  · replace T := T.2 c
    refine R_iconst (Dat dd_L_law_c6 22 rfl) ?_
    exact R_ireturn (Dat dd_L_law_c6 23 rfl) rfl T
theorem t_L_law_698 {h : Hp} {P : Value → Hp → Prop} {a4 a8 a10 a11 a12 a14 a15 a16 : Int} {a0 a2 a5 a6 a9 : Nat} {a3 a7 a13 a17 a18 a19 a20 a21 a22 a23 a24 a25 a26 a27 : Value} (T : (rng a16) ∧ (rng (a4 - 1)) ∧ ((a16 < (a4 - 1) → (tg h a9 = 20 ∨ tg h a9 = 30) ∧ ((ln h a9 : Int) ≤ 2147483648) ∧ (0 ≤ a16) ∧ (a16 < ln h a9) ∧ (tg h a9 = 20 ∨ tg h a9 = 30) ∧ ((ln h a9 : Int) ≤ 2147483648) ∧ (0 ≤ (a16 + 1)) ∧ ((a16 + 1) < ln h a9) ∧ (tg h 0 = 12) ∧ R 48 0 [.ref 0, .int (I (iv h a9 a16)), .int (I (iv h a9 (a16 + 1))), .int (I a16), .int (I a14), .retAddr 0] [] h (fun v h2 => R 99 727 [.ref a0, .ref 0, .ref a2, a3, .int (I a4), .ref a5, .ref a6, a7, .int (I a8), .ref a9, .int (I a10), .int (I a11), .int (I a12), a13, .int (I a14), .int (I a15), .int (I a16), a17, a18, a19, a20, a21, a22, a23, a24, a25, a26, a27] (v :: []) h2 P)) ∧ (¬ a16 < (a4 - 1) → (tg h (10000 + ck h) = 0) ∧ R 99 771 [.ref a0, .ref 0, .ref a2, a3, .int (I a4), .ref a5, .ref a6, a7, .int (I a8), .ref a9, .int (I a10), .int (I a11), .int (I a12), a13, .int (I a14), .int (I a15), .ref (10000 + ck h), .int (I 0), a18, a19, a20, a21, a22, a23, a24, a25, a26, a27] [] (mk h (10000 + ck h) 20 (7 : Int).toNat (7 : Int).toNat) P))) : R 99 698 [.ref a0, .ref 0, .ref a2, a3, .int (I a4), .ref a5, .ref a6, a7, .int (I a8), .ref a9, .int (I a10), .int (I a11), .int (I a12), a13, .int (I a14), .int (I a15), .int (I a16), a17, a18, a19, a20, a21, a22, a23, a24, a25, a26, a27] [] h P := by
  refine R_iload (Dat dd_L_law_c6 28 rfl) rfl ?_
  refine R_iload (Dat dd_L_law_c6 29 rfl) rfl ?_
  refine R_iconst (Dat dd_L_law_c6 30 rfl) ?_
  refine R_isub (Dat dd_L_law_c6 31 rfl) ?_
  obtain ⟨g1, T⟩ := T
  obtain ⟨g2, T⟩ := T
  refine R_ic_ge (Dat dd_L_law_c6 32 rfl) rfl g1 g2 (fun c => ?_) (fun c => ?_)
  · replace T := T.1 c
    refine R_aload_n (Dat dd_L_law_c6 33 rfl) rfl rfl ?_
    refine R_aload (Dat dd_L_law_c6 34 rfl) rfl rfl ?_
    refine R_iload (Dat dd_L_law_c6 35 rfl) rfl ?_
    obtain ⟨g3, T⟩ := T
    obtain ⟨g4, T⟩ := T
    obtain ⟨g5, T⟩ := T
    obtain ⟨g6, T⟩ := T
    refine R_iaload (Dat dd_L_law_c6 36 rfl) g3 g4 g5 g6 ?_
    refine R_aload (Dat dd_L_law_c6 37 rfl) rfl rfl ?_
    refine R_iload (Dat dd_L_law_c6 38 rfl) rfl ?_
    refine R_iconst (Dat dd_L_law_c6 39 rfl) ?_
    refine R_iadd (Dat dd_L_law_c6 40 rfl) ?_
    obtain ⟨g7, T⟩ := T
    obtain ⟨g8, T⟩ := T
    obtain ⟨g9, T⟩ := T
    obtain ⟨g10, T⟩ := T
    refine R_iaload (Dat dd_L_law_c6 41 rfl) g7 g8 g9 g10 ?_
    refine R_iload (Dat dd_L_law_c6 42 rfl) rfl ?_
    refine R_iload (Dat dd_L_law_c6 43 rfl) rfl ?_
    obtain ⟨g11, T⟩ := T
    exact R_call1 (Dat dd_L_law_c6 44 rfl) rfl g11 rfl rfl rfl rfl rfl T
  · replace T := T.2 c
    refine R_bipush (Dat dd_L_law_c7 4 rfl) (a := 7) rfl ?_
    obtain ⟨g12, T⟩ := T
    refine R_newa (Dat dd_L_law_c7 5 rfl) rfl (q := 10000 + ck h) rfl g12 (Or.inr (Nat.le_add_right _ _)) (by decide) (by decide) ?_
    refine R_astore (Dat dd_L_law_c7 6 rfl) rfl rfl rfl ?_
    refine R_iconst (Dat dd_L_law_c7 7 rfl) ?_
    refine R_istore (Dat dd_L_law_c7 8 rfl) rfl rfl ?_
    exact T
theorem t_L_law_1417 {h : Hp} {P : Value → Hp → Prop} {a4 a8 s0 : Int} {a0 a2 a3 a5 a6 a7 a9 a10 a11 a12 a13 a14 a15 a16 a17 a18 a19 a20 a21 a22 a23 a24 a25 a26 a27 : Value} (T : (rng s0) ∧ ((s0 = (-1) → (okg 99 73 [a0, .ref 0, a2, a3, .int (I a4), a5, a6, a7, .int (I a8), a9, a10, a11, a12, a13, a14, a15, a16, a17, a18, a19, a20, a21, a22, a23, a24, a25, a26, a27] [] [.ref 0, .int (I 0), .int (I 4)] = true) ∧ (tg h 0 = 12) ∧ R 73 0 [.ref 0, .int (I 0), .int (I 4), .retAddr 0] [] h (fun v h2 => R 99 1427 [a0, .ref 0, a2, a3, .int (I a4), a5, a6, a7, .int (I a8), a9, a10, a11, a12, a13, a14, a15, a16, a17, a18, a19, a20, a21, a22, a23, a24, a25, a26, a27] (v :: []) h2 P)) ∧ (¬ s0 = (-1) → R 99 1497 [a0, .ref 0, a2, a3, .int (I a4), a5, a6, a7, .int (I a8), a9, a10, a11, a12, a13, a14, a15, a16, a17, a18, a19, a20, a21, a22, a23, a24, a25, a26, a27] [.int (I 0)] h P))) : R 99 1417 [a0, .ref 0, a2, a3, .int (I a4), a5, a6, a7, .int (I a8), a9, a10, a11, a12, a13, a14, a15, a16, a17, a18, a19, a20, a21, a22, a23, a24, a25, a26, a27] [.int (I s0)] h P := by
  refine R_iconst (Dat dd_L_law_c12 45 rfl) ?_
  obtain ⟨g1, T⟩ := T
  refine R_ic_ne (Dat dd_L_law_c12 46 rfl) rfl g1 (by decide) (fun c => ?_) (fun c => ?_)
  · replace T := T.1 c
    refine R_aload_n (Dat dd_L_law_c12 47 rfl) rfl rfl ?_
    refine R_iconst (Dat dd_L_law_c12 48 rfl) ?_
    refine R_iconst (Dat dd_L_law_c12 49 rfl) ?_
    obtain ⟨g2, T⟩ := T
    obtain ⟨g3, T⟩ := T
    exact R_call1 (Dat dd_L_law_c12 50 rfl) rfl g3 rfl rfl rfl g2 rfl T
  · replace T := T.2 c
    refine R_iconst (Dat dd_L_law_c13 30 rfl) ?_
    exact T
theorem t_L_law_664 {h : Hp} {P : Value → Hp → Prop} {a4 a8 a10 a11 a12 a14 a15 a16 s0 : Int} {a0 a2 a5 a6 a9 : Nat} {a3 a7 a13 a17 a18 a19 a20 a21 a22 a23 a24 a25 a26 a27 : Value} (T : (tg h a9 = 20 ∨ tg h a9 = 30) ∧ ((ln h a9 : Int) ≤ 2147483648) ∧ (0 ≤ a16) ∧ (a16 < ln h a9) ∧ (rng s0) ∧ (rng (iv h a9 a16)) ∧ ((s0 = (iv h a9 a16) → (tg h a9 = 20 ∨ tg h a9 = 30) ∧ ((ln h a9 : Int) ≤ 2147483648) ∧ (0 ≤ a16) ∧ (a16 < ln h a9) ∧ (tg h 0 = 12) ∧ R 27 0 [.ref 0, .int (I (iv h a9 a16)), .int (I 5), .retAddr 0] [] h (fun v h2 => R 99 682 [.ref a0, .ref 0, .ref a2, a3, .int (I a4), .ref a5, .ref a6, a7, .int (I a8), .ref a9, .int (I a10), .int (I a11), .int (I a12), a13, .int (I a14), .int (I a15), .int (I a16), a17, a18, a19, a20, a21, a22, a23, a24, a25, a26, a27] (v :: []) h2 P)) ∧ (¬ s0 = (iv h a9 a16) → P (.int (I 0)) h))) : R 99 664 [.ref a0, .ref 0, .ref a2, a3, .int (I a4), .ref a5, .ref a6, a7, .int (I a8), .ref a9, .int (I a10), .int (I a11), .int (I a12), a13, .int (I a14), .int (I a15), .int (I a16), a17, a18, a19, a20, a21, a22, a23, a24, a25, a26, a27] [.int (I s0)] h P := by
  refine R_aload (Dat dd_L_law_c6 10 rfl) rfl rfl ?_
  refine R_iload (Dat dd_L_law_c6 11 rfl) rfl ?_
  obtain ⟨g1, T⟩ := T
  obtain ⟨g2, T⟩ := T
  obtain ⟨g3, T⟩ := T
  obtain ⟨g4, T⟩ := T
  refine R_iaload (Dat dd_L_law_c6 12 rfl) g1 g2 g3 g4 ?_
  obtain ⟨g5, T⟩ := T
  obtain ⟨g6, T⟩ := T
  refine R_ic_ne (Dat dd_L_law_c6 13 rfl) rfl g5 g6 (fun c => ?_) (fun c => ?_)
  · replace T := T.1 c
    refine R_aload_n (Dat dd_L_law_c6 14 rfl) rfl rfl ?_
    refine R_aload (Dat dd_L_law_c6 15 rfl) rfl rfl ?_
    refine R_iload (Dat dd_L_law_c6 16 rfl) rfl ?_
    obtain ⟨g7, T⟩ := T
    obtain ⟨g8, T⟩ := T
    obtain ⟨g9, T⟩ := T
    obtain ⟨g10, T⟩ := T
    refine R_iaload (Dat dd_L_law_c6 17 rfl) g7 g8 g9 g10 ?_
    refine R_iconst (Dat dd_L_law_c6 18 rfl) ?_
    obtain ⟨g11, T⟩ := T
    exact R_call1 (Dat dd_L_law_c6 19 rfl) rfl g11 rfl rfl rfl rfl rfl T
  · replace T := T.2 c
    refine R_iconst (Dat dd_L_law_c6 22 rfl) ?_
    exact R_ireturn (Dat dd_L_law_c6 23 rfl) rfl T
theorem t_L_law_727 {h : Hp} {P : Value → Hp → Prop} {a4 a8 a10 a11 a12 a14 a15 a16 s0 : Int} {a0 a2 a5 a6 a9 : Nat} {a3 a7 a13 a17 a18 a19 a20 a21 a22 a23 a24 a25 a26 a27 : Value} (T : (tg h a9 = 20 ∨ tg h a9 = 30) ∧ ((ln h a9 : Int) ≤ 2147483648) ∧ (0 ≤ a16) ∧ (a16 < ln h a9) ∧ (tg h a9 = 20 ∨ tg h a9 = 30) ∧ ((ln h a9 : Int) ≤ 2147483648) ∧ (0 ≤ (a16 + 1)) ∧ ((a16 + 1) < ln h a9) ∧ R 91 0 [.ref a2, .ref a5, .int (I (-9)), .int (I (iv h a9 a16)), .int (I (iv h a9 (a16 + 1))), .int (I a16), .int (I a14), .retAddr 0, .retAddr 0, .retAddr 0, .retAddr 0, .retAddr 0] [] h (fun v h2 => R 99 751 [.ref a0, .ref 0, .ref a2, a3, .int (I a4), .ref a5, .ref a6, a7, .int (I a8), .ref a9, .int (I a10), .int (I a11), .int (I a12), a13, .int (I a14), .int (I a15), .int (I a16), a17, a18, a19, a20, a21, a22, a23, a24, a25, a26, a27] (v :: [.int (I s0)]) h2 P)) : R 99 727 [.ref a0, .ref 0, .ref a2, a3, .int (I a4), .ref a5, .ref a6, a7, .int (I a8), .ref a9, .int (I a10), .int (I a11), .int (I a12), a13, .int (I a14), .int (I a15), .int (I a16), a17, a18, a19, a20, a21, a22, a23, a24, a25, a26, a27] [.int (I s0)] h P := by
  refine R_aload_n (Dat dd_L_law_c6 45 rfl) rfl rfl ?_
  refine R_aload (Dat dd_L_law_c6 46 rfl) rfl rfl ?_
  refine R_bipush (Dat dd_L_law_c6 47 rfl) (a := (-9)) rfl ?_
  refine R_aload (Dat dd_L_law_c6 48 rfl) rfl rfl ?_
  refine R_iload (Dat dd_L_law_c6 49 rfl) rfl ?_
  obtain ⟨g1, T⟩ := T
  obtain ⟨g2, T⟩ := T
  obtain ⟨g3, T⟩ := T
  obtain ⟨g4, T⟩ := T
  refine R_iaload (Dat dd_L_law_c6 50 rfl) g1 g2 g3 g4 ?_
  refine R_aload (Dat dd_L_law_c6 51 rfl) rfl rfl ?_
  refine R_iload (Dat dd_L_law_c6 52 rfl) rfl ?_
  refine R_iconst (Dat dd_L_law_c6 53 rfl) ?_
  refine R_iadd (Dat dd_L_law_c6 54 rfl) ?_
  obtain ⟨g5, T⟩ := T
  obtain ⟨g6, T⟩ := T
  obtain ⟨g7, T⟩ := T
  obtain ⟨g8, T⟩ := T
  refine R_iaload (Dat dd_L_law_c6 55 rfl) g5 g6 g7 g8 ?_
  refine R_iload (Dat dd_L_law_c6 56 rfl) rfl ?_
  refine R_iload (Dat dd_L_law_c6 57 rfl) rfl ?_
  exact R_call0 (Dat dd_L_law_c6 58 rfl) rfl rfl rfl rfl rfl rfl T
theorem t_L_law_771 {h : Hp} {P : Value → Hp → Prop} {a4 a8 a10 a11 a12 a14 a15 a17 : Int} {a0 a2 a5 a6 a9 a16 : Nat} {a3 a7 a13 a18 a19 a20 a21 a22 a23 a24 a25 a26 a27 : Value} (T : (rng a17) ∧ ((a17 < 7 → (tg h a9 = 20 ∨ tg h a9 = 30) ∧ ((ln h a9 : Int) ≤ 2147483648) ∧ (0 ≤ a17) ∧ (a17 < ln h a9) ∧ (tg h a16 = 20) ∧ ((ln h a16 : Int) ≤ 2147483648) ∧ (0 ≤ a17) ∧ (a17 < ln h a16) ∧ R 99 771 [.ref a0, .ref 0, .ref a2, a3, .int (I a4), .ref a5, .ref a6, a7, .int (I a8), .ref a9, .int (I a10), .int (I a11), .int (I a12), a13, .int (I a14), .int (I a15), .ref a16, .int (I (a17 + 1)), a18, a19, a20, a21, a22, a23, a24, a25, a26, a27] [] (setI h a16 a17 (wr (iv h a9 a17))) P) ∧ (¬ a17 < 7 → R 94 0 [.ref a2, .ref a5, .int (I (-9)), .ref a16, .int (I a14), .retAddr 0, .retAddr 0, .retAddr 0, .retAddr 0, .retAddr 0] [] h (fun v h2 => R 99 806 [.ref a0, .ref 0, .ref a2, a3, .int (I a4), .ref a5, .ref a6, a7, .int (I a8), .ref a9, .int (I a10), .int (I a11), .int (I a12), a13, .int (I a14), .int (I a15), .ref a16, .int (I a17), a18, a19, a20, a21, a22, a23, a24, a25, a26, a27] (v :: []) h2 P)))) : R 99 771 [.ref a0, .ref 0, .ref a2, a3, .int (I a4), .ref a5, .ref a6, a7, .int (I a8), .ref a9, .int (I a10), .int (I a11), .int (I a12), a13, .int (I a14), .int (I a15), .ref a16, .int (I a17), a18, a19, a20, a21, a22, a23, a24, a25, a26, a27] [] h P := by
  refine R_iload (Dat dd_L_law_c7 9 rfl) rfl ?_
  refine R_bipush (Dat dd_L_law_c7 10 rfl) (a := 7) rfl ?_
  obtain ⟨g1, T⟩ := T
  refine R_ic_ge (Dat dd_L_law_c7 11 rfl) rfl g1 (by decide) (fun c => ?_) (fun c => ?_)
  · replace T := T.1 c
    refine R_aload (Dat dd_L_law_c7 12 rfl) rfl rfl ?_
    refine R_iload (Dat dd_L_law_c7 13 rfl) rfl ?_
    refine R_aload (Dat dd_L_law_c7 14 rfl) rfl rfl ?_
    refine R_iload (Dat dd_L_law_c7 15 rfl) rfl ?_
    obtain ⟨g2, T⟩ := T
    obtain ⟨g3, T⟩ := T
    obtain ⟨g4, T⟩ := T
    obtain ⟨g5, T⟩ := T
    refine R_iaload (Dat dd_L_law_c7 16 rfl) g2 g3 g4 g5 ?_
    obtain ⟨g6, T⟩ := T
    obtain ⟨g7, T⟩ := T
    obtain ⟨g8, T⟩ := T
    obtain ⟨g9, T⟩ := T
    refine R_iastore (Dat dd_L_law_c7 17 rfl) g6 g7 g8 g9 (v := wr (iv h a9 a17)) rfl ?_
    refine R_iinc (Dat dd_L_law_c7 18 rfl) rfl rfl rfl ?_
    refine R_goto (Dat dd_L_law_c7 19 rfl) rfl ?_
    exact T
  · replace T := T.2 c
    refine R_aload_n (Dat dd_L_law_c7 20 rfl) rfl rfl ?_
    refine R_aload (Dat dd_L_law_c7 21 rfl) rfl rfl ?_
    refine R_bipush (Dat dd_L_law_c7 22 rfl) (a := (-9)) rfl ?_
    refine R_aload (Dat dd_L_law_c7 23 rfl) rfl rfl ?_
    refine R_iload (Dat dd_L_law_c7 24 rfl) rfl ?_
    exact R_call0 (Dat dd_L_law_c7 25 rfl) rfl rfl rfl rfl rfl rfl T
theorem t_L_law_1427 {h : Hp} {P : Value → Hp → Prop} {a4 a8 s0 : Int} {a0 a2 a3 a5 a6 a7 a9 a10 a11 a12 a13 a14 a15 a16 a17 a18 a19 a20 a21 a22 a23 a24 a25 a26 a27 : Value} (T : (rng s0) ∧ ((s0 = (-2) → (okg 99 75 [a0, .ref 0, a2, a3, .int (I a4), a5, a6, a7, .int (I a8), a9, a10, a11, a12, a13, a14, a15, a16, a17, a18, a19, a20, a21, a22, a23, a24, a25, a26, a27] [] [.ref 0, .int (I a8), .int (I 1), .int (I 0)] = true) ∧ (tg h 0 = 12) ∧ R 75 0 [.ref 0, .int (I a8), .int (I 1), .int (I 0), .retAddr 0, .retAddr 0, .retAddr 0, .retAddr 0] [] h (fun v h2 => R 99 1440 [a0, .ref 0, a2, a3, .int (I a4), a5, a6, a7, .int (I a8), a9, a10, a11, a12, a13, a14, a15, a16, a17, a18, a19, a20, a21, a22, a23, a24, a25, a26, a27] (v :: []) h2 P)) ∧ (¬ s0 = (-2) → R 99 1497 [a0, .ref 0, a2, a3, .int (I a4), a5, a6, a7, .int (I a8), a9, a10, a11, a12, a13, a14, a15, a16, a17, a18, a19, a20, a21, a22, a23, a24, a25, a26, a27] [.int (I 0)] h P))) : R 99 1427 [a0, .ref 0, a2, a3, .int (I a4), a5, a6, a7, .int (I a8), a9, a10, a11, a12, a13, a14, a15, a16, a17, a18, a19, a20, a21, a22, a23, a24, a25, a26, a27] [.int (I s0)] h P := by
  refine R_bipush (Dat dd_L_law_c12 51 rfl) (a := (-2)) rfl ?_
  obtain ⟨g1, T⟩ := T
  refine R_ic_ne (Dat dd_L_law_c12 52 rfl) rfl g1 (by decide) (fun c => ?_) (fun c => ?_)
  · replace T := T.1 c
    refine R_aload_n (Dat dd_L_law_c12 53 rfl) rfl rfl ?_
    refine R_iload (Dat dd_L_law_c12 54 rfl) rfl ?_
    refine R_iconst (Dat dd_L_law_c12 55 rfl) ?_
    refine R_iconst (Dat dd_L_law_c12 56 rfl) ?_
    obtain ⟨g2, T⟩ := T
    obtain ⟨g3, T⟩ := T
    exact R_call1 (Dat dd_L_law_c12 57 rfl) rfl g3 rfl rfl rfl g2 rfl T
  · replace T := T.2 c
    refine R_iconst (Dat dd_L_law_c13 30 rfl) ?_
    exact T
theorem t_L_law_682 {h : Hp} {P : Value → Hp → Prop} {a4 a8 a10 a11 a12 a14 a15 a16 s0 : Int} {a0 a2 a5 a6 a9 : Nat} {a3 a7 a13 a17 a18 a19 a20 a21 a22 a23 a24 a25 a26 a27 : Value} (T : (rng s0) ∧ (rng a16) ∧ ((s0 = a16 → R 99 635 [.ref a0, .ref 0, .ref a2, a3, .int (I a4), .ref a5, .ref a6, a7, .int (I a8), .ref a9, .int (I a10), .int (I a11), .int (I a12), a13, .int (I a14), .int (I a15), .int (I (a16 + 1)), a17, a18, a19, a20, a21, a22, a23, a24, a25, a26, a27] [] h P) ∧ (¬ s0 = a16 → P (.int (I 0)) h))) : R 99 682 [.ref a0, .ref 0, .ref a2, a3, .int (I a4), .ref a5, .ref a6, a7, .int (I a8), .ref a9, .int (I a10), .int (I a11), .int (I a12), a13, .int (I a14), .int (I a15), .int (I a16), a17, a18, a19, a20, a21, a22, a23, a24, a25, a26, a27] [.int (I s0)] h P := by
  refine R_iload (Dat dd_L_law_c6 20 rfl) rfl ?_
  obtain ⟨g1, T⟩ := T
  obtain ⟨g2, T⟩ := T
  refine R_ic_eq (Dat dd_L_law_c6 21 rfl) rfl g1 g2 (fun c => ?_) (fun c => ?_)
  · replace T := T.1 c
    refine R_iinc (Dat dd_L_law_c6 24 rfl) rfl rfl rfl ?_
    refine R_goto (Dat dd_L_law_c6 25 rfl) rfl ?_
    exact T
  · replace T := T.2 c
    refine R_iconst (Dat dd_L_law_c6 22 rfl) ?_
    exact R_ireturn (Dat dd_L_law_c6 23 rfl) rfl T
theorem t_L_law_751 {h : Hp} {P : Value → Hp → Prop} {a4 a8 a10 a11 a12 a14 a15 a16 s0 s1 : Int} {a0 a2 a5 a6 a9 : Nat} {a3 a7 a13 a17 a18 a19 a20 a21 a22 a23 a24 a25 a26 a27 : Value} (T : (rng s1) ∧ (rng s0) ∧ ((s1 = s0 → R 99 698 [.ref a0, .ref 0, .ref a2, a3, .int (I a4), .ref a5, .ref a6, a7, .int (I a8), .ref a9, .int (I a10), .int (I a11), .int (I a12), a13, .int (I a14), .int (I a15), .int (I (a16 + 1)), a17, a18, a19, a20, a21, a22, a23, a24, a25, a26, a27] [] h P) ∧ (¬ s1 = s0 → P (.int (I 0)) h))) : R 99 751 [.ref a0, .ref 0, .ref a2, a3, .int (I a4), .ref a5, .ref a6, a7, .int (I a8), .ref a9, .int (I a10), .int (I a11), .int (I a12), a13, .int (I a14), .int (I a15), .int (I a16), a17, a18, a19, a20, a21, a22, a23, a24, a25, a26, a27] [.int (I s0), .int (I s1)] h P := by
  obtain ⟨g1, T⟩ := T
  obtain ⟨g2, T⟩ := T
  refine R_ic_eq (Dat dd_L_law_c6 59 rfl) rfl g1 g2 (fun c => ?_) (fun c => ?_)
  · replace T := T.1 c
    refine R_iinc (Dat dd_L_law_c7 2 rfl) rfl rfl rfl ?_
    refine R_goto (Dat dd_L_law_c7 3 rfl) rfl ?_
    exact T
  · replace T := T.2 c
    refine R_iconst (Dat dd_L_law_c7 0 rfl) ?_
    exact R_ireturn (Dat dd_L_law_c7 1 rfl) rfl T
theorem t_L_law_806 {h : Hp} {P : Value → Hp → Prop} {a4 a8 a10 a11 a12 a14 a15 s0 : Int} {a0 a2 a5 a6 a9 a16 : Nat} {a3 a7 a13 a17 a18 a19 a20 a21 a22 a23 a24 a25 a26 a27 : Value} (T : (okg 99 73 [.ref a0, .ref 0, .ref a2, a3, .int (I a4), .ref a5, .ref a6, a7, .int (I a8), .ref a9, .int (I a10), .int (I a11), .int (I a12), a13, .int (I a14), .int (I a15), .ref a16, a17, a18, a19, a20, a21, a22, a23, a24, a25, a26, a27] [] [.ref 0, .int (I a15), .int (I a14)] = true) ∧ (tg h 0 = 12) ∧ R 73 0 [.ref 0, .int (I a15), .int (I a14), .retAddr 0] [] h (fun v h2 => R 99 815 [.ref a0, .ref 0, .ref a2, a3, .int (I a4), .ref a5, .ref a6, a7, .int (I a8), .ref a9, .int (I a10), .int (I a11), .int (I a12), a13, .int (I a14), .int (I a15), .ref a16, a17, a18, a19, a20, a21, a22, a23, a24, a25, a26, a27] (v :: []) h2 P)) : R 99 806 [.ref a0, .ref 0, .ref a2, a3, .int (I a4), .ref a5, .ref a6, a7, .int (I a8), .ref a9, .int (I a10), .int (I a11), .int (I a12), a13, .int (I a14), .int (I a15), .ref a16, a17, a18, a19, a20, a21, a22, a23, a24, a25, a26, a27] [.int (I s0)] h P := by
  refine R_pop (Dat dd_L_law_c7 26 rfl) rfl ?_
  refine R_aload_n (Dat dd_L_law_c7 27 rfl) rfl rfl ?_
  refine R_iload (Dat dd_L_law_c7 28 rfl) rfl ?_
  refine R_iload (Dat dd_L_law_c7 29 rfl) rfl ?_
  obtain ⟨g1, T⟩ := T
  obtain ⟨g2, T⟩ := T
  exact R_call1 (Dat dd_L_law_c7 30 rfl) rfl g2 rfl rfl rfl g1 rfl T
theorem t_L_law_1440 {h : Hp} {P : Value → Hp → Prop} {a4 a8 s0 : Int} {a0 a2 a3 a5 a6 a7 a9 a10 a11 a12 a13 a14 a15 a16 a17 a18 a19 a20 a21 a22 a23 a24 a25 a26 a27 : Value} (T : (rng s0) ∧ ((s0 = (-1) → (okg 99 75 [a0, .ref 0, a2, a3, .int (I a4), a5, a6, a7, .int (I a8), a9, a10, a11, a12, a13, a14, a15, a16, a17, a18, a19, a20, a21, a22, a23, a24, a25, a26, a27] [] [.ref 0, .int (I 0), .int (I 1), .int (I 2)] = true) ∧ (tg h 0 = 12) ∧ R 75 0 [.ref 0, .int (I 0), .int (I 1), .int (I 2), .retAddr 0, .retAddr 0, .retAddr 0, .retAddr 0] [] h (fun v h2 => R 99 1451 [a0, .ref 0, a2, a3, .int (I a4), a5, a6, a7, .int (I a8), a9, a10, a11, a12, a13, a14, a15, a16, a17, a18, a19, a20, a21, a22, a23, a24, a25, a26, a27] (v :: []) h2 P)) ∧ (¬ s0 = (-1) → R 99 1497 [a0, .ref 0, a2, a3, .int (I a4), a5, a6, a7, .int (I a8), a9, a10, a11, a12, a13, a14, a15, a16, a17, a18, a19, a20, a21, a22, a23, a24, a25, a26, a27] [.int (I 0)] h P))) : R 99 1440 [a0, .ref 0, a2, a3, .int (I a4), a5, a6, a7, .int (I a8), a9, a10, a11, a12, a13, a14, a15, a16, a17, a18, a19, a20, a21, a22, a23, a24, a25, a26, a27] [.int (I s0)] h P := by
  refine R_iconst (Dat dd_L_law_c12 58 rfl) ?_
  obtain ⟨g1, T⟩ := T
  refine R_ic_ne (Dat dd_L_law_c12 59 rfl) rfl g1 (by decide) (fun c => ?_) (fun c => ?_)
  · replace T := T.1 c
    refine R_aload_n (Dat dd_L_law_c13 0 rfl) rfl rfl ?_
    refine R_iconst (Dat dd_L_law_c13 1 rfl) ?_
    refine R_iconst (Dat dd_L_law_c13 2 rfl) ?_
    refine R_iconst (Dat dd_L_law_c13 3 rfl) ?_
    obtain ⟨g2, T⟩ := T
    obtain ⟨g3, T⟩ := T
    exact R_call1 (Dat dd_L_law_c13 4 rfl) rfl g3 rfl rfl rfl g2 rfl T
  · replace T := T.2 c
    refine R_iconst (Dat dd_L_law_c13 30 rfl) ?_
    exact T
theorem t_L_law_815 {h : Hp} {P : Value → Hp → Prop} {a4 a8 a10 a11 a12 a14 a15 s0 : Int} {a0 a2 a5 a6 a9 a16 : Nat} {a3 a7 a13 a17 a18 a19 a20 a21 a22 a23 a24 a25 a26 a27 : Value} (T : R 95 0 [.ref a2, .ref a16, .retAddr 0, .retAddr 0, .retAddr 0, .retAddr 0, .retAddr 0] [] h (fun v h2 => R 99 821 [.ref a0, .ref 0, .ref a2, a3, .int (I a4), .ref a5, .ref a6, a7, .int (I a8), .ref a9, .int (I a10), .int (I a11), .int (I a12), a13, .int (I a14), .int (I a15), .ref a16, a17, a18, a19, a20, a21, a22, a23, a24, a25, a26, a27] (v :: [.int (I s0)]) h2 P)) : R 99 815 [.ref a0, .ref 0, .ref a2, a3, .int (I a4), .ref a5, .ref a6, a7, .int (I a8), .ref a9, .int (I a10), .int (I a11), .int (I a12), a13, .int (I a14), .int (I a15), .ref a16, a17, a18, a19, a20, a21, a22, a23, a24, a25, a26, a27] [.int (I s0)] h P := by
  refine R_aload_n (Dat dd_L_law_c7 31 rfl) rfl rfl ?_
  refine R_aload (Dat dd_L_law_c7 32 rfl) rfl rfl ?_
  exact R_call0 (Dat dd_L_law_c7 33 rfl) rfl rfl rfl rfl rfl rfl T
theorem t_L_law_1451 {h : Hp} {P : Value → Hp → Prop} {a4 a8 s0 : Int} {a0 a2 a3 a5 a6 a7 a9 a10 a11 a12 a13 a14 a15 a16 a17 a18 a19 a20 a21 a22 a23 a24 a25 a26 a27 : Value} (T : (rng s0) ∧ ((s0 = (-2) → (okg 99 76 [a0, .ref 0, a2, a3, .int (I a4), a5, a6, a7, .int (I a8), a9, a10, a11, a12, a13, a14, a15, a16, a17, a18, a19, a20, a21, a22, a23, a24, a25, a26, a27] [] [.ref 0, .int (I a4), .int (I 0), .int (I 1)] = true) ∧ (tg h 0 = 12) ∧ R 76 0 [.ref 0, .int (I a4), .int (I 0), .int (I 1), .retAddr 0] [] h (fun v h2 => R 99 1464 [a0, .ref 0, a2, a3, .int (I a4), a5, a6, a7, .int (I a8), a9, a10, a11, a12, a13, a14, a15, a16, a17, a18, a19, a20, a21, a22, a23, a24, a25, a26, a27] (v :: []) h2 P)) ∧ (¬ s0 = (-2) → R 99 1497 [a0, .ref 0, a2, a3, .int (I a4), a5, a6, a7, .int (I a8), a9, a10, a11, a12, a13, a14, a15, a16, a17, a18, a19, a20, a21, a22, a23, a24, a25, a26, a27] [.int (I 0)] h P))) : R 99 1451 [a0, .ref 0, a2, a3, .int (I a4), a5, a6, a7, .int (I a8), a9, a10, a11, a12, a13, a14, a15, a16, a17, a18, a19, a20, a21, a22, a23, a24, a25, a26, a27] [.int (I s0)] h P := by
  refine R_bipush (Dat dd_L_law_c13 5 rfl) (a := (-2)) rfl ?_
  obtain ⟨g1, T⟩ := T
  refine R_ic_ne (Dat dd_L_law_c13 6 rfl) rfl g1 (by decide) (fun c => ?_) (fun c => ?_)
  · replace T := T.1 c
    refine R_aload_n (Dat dd_L_law_c13 7 rfl) rfl rfl ?_
    refine R_iload (Dat dd_L_law_c13 8 rfl) rfl ?_
    refine R_iconst (Dat dd_L_law_c13 9 rfl) ?_
    refine R_iconst (Dat dd_L_law_c13 10 rfl) ?_
    obtain ⟨g2, T⟩ := T
    obtain ⟨g3, T⟩ := T
    exact R_call1 (Dat dd_L_law_c13 11 rfl) rfl g3 rfl rfl rfl g2 rfl T
  · replace T := T.2 c
    refine R_iconst (Dat dd_L_law_c13 30 rfl) ?_
    exact T
theorem t_L_law_821 {h : Hp} {P : Value → Hp → Prop} {a4 a8 a10 a11 a12 a14 a15 s0 s1 : Int} {a0 a2 a5 a6 a9 a16 : Nat} {a3 a7 a13 a17 a18 a19 a20 a21 a22 a23 a24 a25 a26 a27 : Value} (T : (rng s1) ∧ (rng s0) ∧ ((s1 = s0 → (okg 99 75 [.ref a0, .ref 0, .ref a2, a3, .int (I a4), .ref a5, .ref a6, a7, .int (I a8), .ref a9, .int (I a10), .int (I a11), .int (I a12), a13, .int (I a14), .int (I a15), .ref a16, a17, a18, a19, a20, a21, a22, a23, a24, a25, a26, a27] [] [.ref 0, .int (I a15), .int (I a14), .int (I 0)] = true) ∧ (tg h 0 = 12) ∧ R 75 0 [.ref 0, .int (I a15), .int (I a14), .int (I 0), .retAddr 0, .retAddr 0, .retAddr 0, .retAddr 0] [] h (fun v h2 => R 99 835 [.ref a0, .ref 0, .ref a2, a3, .int (I a4), .ref a5, .ref a6, a7, .int (I a8), .ref a9, .int (I a10), .int (I a11), .int (I a12), a13, .int (I a14), .int (I a15), .ref a16, a17, a18, a19, a20, a21, a22, a23, a24, a25, a26, a27] (v :: []) h2 P)) ∧ (¬ s1 = s0 → P (.int (I 0)) h))) : R 99 821 [.ref a0, .ref 0, .ref a2, a3, .int (I a4), .ref a5, .ref a6, a7, .int (I a8), .ref a9, .int (I a10), .int (I a11), .int (I a12), a13, .int (I a14), .int (I a15), .ref a16, a17, a18, a19, a20, a21, a22, a23, a24, a25, a26, a27] [.int (I s0), .int (I s1)] h P := by
  obtain ⟨g1, T⟩ := T
  obtain ⟨g2, T⟩ := T
  refine R_ic_eq (Dat dd_L_law_c7 34 rfl) rfl g1 g2 (fun c => ?_) (fun c => ?_)
  · replace T := T.1 c
    refine R_aload_n (Dat dd_L_law_c7 37 rfl) rfl rfl ?_
    refine R_iload (Dat dd_L_law_c7 38 rfl) rfl ?_
    refine R_iload (Dat dd_L_law_c7 39 rfl) rfl ?_
    refine R_iconst (Dat dd_L_law_c7 40 rfl) ?_
    obtain ⟨g3, T⟩ := T
    obtain ⟨g4, T⟩ := T
    exact R_call1 (Dat dd_L_law_c7 41 rfl) rfl g4 rfl rfl rfl g3 rfl T
  · replace T := T.2 c
    refine R_iconst (Dat dd_L_law_c7 35 rfl) ?_
    exact R_ireturn (Dat dd_L_law_c7 36 rfl) rfl T
theorem t_L_law_1464 {h : Hp} {P : Value → Hp → Prop} {a8 s0 : Int} {a0 a2 a3 a4 a5 a6 a7 a9 a10 a11 a12 a13 a14 a15 a16 a17 a18 a19 a20 a21 a22 a23 a24 a25 a26 a27 : Value} (T : (rng s0) ∧ ((s0 = (-1) → (okg 99 76 [a0, .ref 0, a2, a3, a4, a5, a6, a7, .int (I a8), a9, a10, a11, a12, a13, a14, a15, a16, a17, a18, a19, a20, a21, a22, a23, a24, a25, a26, a27] [] [.ref 0, .int (I 0), .int (I 0), .int (I 0)] = true) ∧ (tg h 0 = 12) ∧ R 76 0 [.ref 0, .int (I 0), .int (I 0), .int (I 0), .retAddr 0] [] h (fun v h2 => R 99 1475 [a0, .ref 0, a2, a3, a4, a5, a6, a7, .int (I a8), a9, a10, a11, a12, a13, a14, a15, a16, a17, a18, a19, a20, a21, a22, a23, a24, a25, a26, a27] (v :: []) h2 P)) ∧ (¬ s0 = (-1) → R 99 1497 [a0, .ref 0, a2, a3, a4, a5, a6, a7, .int (I a8), a9, a10, a11, a12, a13, a14, a15, a16, a17, a18, a19, a20, a21, a22, a23, a24, a25, a26, a27] [.int (I 0)] h P))) : R 99 1464 [a0, .ref 0, a2, a3, a4, a5, a6, a7, .int (I a8), a9, a10, a11, a12, a13, a14, a15, a16, a17, a18, a19, a20, a21, a22, a23, a24, a25, a26, a27] [.int (I s0)] h P := by
  refine R_iconst (Dat dd_L_law_c13 12 rfl) ?_
  obtain ⟨g1, T⟩ := T
  refine R_ic_ne (Dat dd_L_law_c13 13 rfl) rfl g1 (by decide) (fun c => ?_) (fun c => ?_)
  · replace T := T.1 c
    refine R_aload_n (Dat dd_L_law_c13 14 rfl) rfl rfl ?_
    refine R_iconst (Dat dd_L_law_c13 15 rfl) ?_
    refine R_iconst (Dat dd_L_law_c13 16 rfl) ?_
    refine R_iconst (Dat dd_L_law_c13 17 rfl) ?_
    obtain ⟨g2, T⟩ := T
    obtain ⟨g3, T⟩ := T
    exact R_call1 (Dat dd_L_law_c13 18 rfl) rfl g3 rfl rfl rfl g2 rfl T
  · replace T := T.2 c
    refine R_iconst (Dat dd_L_law_c13 30 rfl) ?_
    exact T
theorem t_L_law_835 {h : Hp} {P : Value → Hp → Prop} {a4 a8 a10 a11 a12 a14 a15 s0 : Int} {a0 a2 a5 a6 a9 a16 : Nat} {a3 a7 a13 a17 a18 a19 a20 a21 a22 a23 a24 a25 a26 a27 : Value} (T : (okg 99 75 [.ref a0, .ref 0, .ref a2, a3, .int (I a4), .ref a5, .ref a6, a7, .int (I a8), .ref a9, .int (I a10), .int (I a11), .int (I a12), a13, .int (I a14), .int (I a15), .ref a16, .int (I s0), a18, a19, a20, a21, a22, a23, a24, a25, a26, a27] [] [.ref 0, .int (I a15), .int (I a14), .int (I 1)] = true) ∧ (tg h 0 = 12) ∧ R 75 0 [.ref 0, .int (I a15), .int (I a14), .int (I 1), .retAddr 0, .retAddr 0, .retAddr 0, .retAddr 0] [] h (fun v h2 => R 99 846 [.ref a0, .ref 0, .ref a2, a3, .int (I a4), .ref a5, .ref a6, a7, .int (I a8), .ref a9, .int (I a10), .int (I a11), .int (I a12), a13, .int (I a14), .int (I a15), .ref a16, .int (I s0), a18, a19, a20, a21, a22, a23, a24, a25, a26, a27] (v :: []) h2 P)) : R 99 835 [.ref a0, .ref 0, .ref a2, a3, .int (I a4), .ref a5, .ref a6, a7, .int (I a8), .ref a9, .int (I a10), .int (I a11), .int (I a12), a13, .int (I a14), .int (I a15), .ref a16, a17, a18, a19, a20, a21, a22, a23, a24, a25, a26, a27] [.int (I s0)] h P := by
  refine R_istore (Dat dd_L_law_c7 42 rfl) rfl rfl ?_
  refine R_aload_n (Dat dd_L_law_c7 43 rfl) rfl rfl ?_
  refine R_iload (Dat dd_L_law_c7 44 rfl) rfl ?_
  refine R_iload (Dat dd_L_law_c7 45 rfl) rfl ?_
  refine R_iconst (Dat dd_L_law_c7 46 rfl) ?_
  obtain ⟨g1, T⟩ := T
  obtain ⟨g2, T⟩ := T
  exact R_call1 (Dat dd_L_law_c7 47 rfl) rfl g2 rfl rfl rfl g1 rfl T
theorem t_L_law_1475 {h : Hp} {P : Value → Hp → Prop} {a8 s0 : Int} {a0 a2 a3 a4 a5 a6 a7 a9 a10 a11 a12 a13 a14 a15 a16 a17 a18 a19 a20 a21 a22 a23 a24 a25 a26 a27 : Value} (T : (rng s0) ∧ ((s0 = (-2) → (okg 99 79 [a0, .ref 0, a2, a3, a4, a5, a6, a7, .int (I a8), a9, a10, a11, a12, a13, a14, a15, a16, a17, a18, a19, a20, a21, a22, a23, a24, a25, a26, a27] [] [.ref 0, .int (I 0), .int (I a8), .int (I 1)] = true) ∧ (tg h 0 = 12) ∧ R 79 0 [.ref 0, .int (I 0), .int (I a8), .int (I 1), .retAddr 0, .retAddr 0, .retAddr 0, .retAddr 0, .retAddr 0, .retAddr 0, .retAddr 0] [] h (fun v h2 => R 99 1488 [a0, .ref 0, a2, a3, a4, a5, a6, a7, .int (I a8), a9, a10, a11, a12, a13, a14, a15, a16, a17, a18, a19, a20, a21, a22, a23, a24, a25, a26, a27] (v :: []) h2 P)) ∧ (¬ s0 = (-2) → R 99 1497 [a0, .ref 0, a2, a3, a4, a5, a6, a7, .int (I a8), a9, a10, a11, a12, a13, a14, a15, a16, a17, a18, a19, a20, a21, a22, a23, a24, a25, a26, a27] [.int (I 0)] h P))) : R 99 1475 [a0, .ref 0, a2, a3, a4, a5, a6, a7, .int (I a8), a9, a10, a11, a12, a13, a14, a15, a16, a17, a18, a19, a20, a21, a22, a23, a24, a25, a26, a27] [.int (I s0)] h P := by
  refine R_bipush (Dat dd_L_law_c13 19 rfl) (a := (-2)) rfl ?_
  obtain ⟨g1, T⟩ := T
  refine R_ic_ne (Dat dd_L_law_c13 20 rfl) rfl g1 (by decide) (fun c => ?_) (fun c => ?_)
  · replace T := T.1 c
    refine R_aload_n (Dat dd_L_law_c13 21 rfl) rfl rfl ?_
    refine R_iconst (Dat dd_L_law_c13 22 rfl) ?_
    refine R_iload (Dat dd_L_law_c13 23 rfl) rfl ?_
    refine R_iconst (Dat dd_L_law_c13 24 rfl) ?_
    obtain ⟨g2, T⟩ := T
    obtain ⟨g3, T⟩ := T
    exact R_call1 (Dat dd_L_law_c13 25 rfl) rfl g3 rfl rfl rfl g2 rfl T
  · replace T := T.2 c
    refine R_iconst (Dat dd_L_law_c13 30 rfl) ?_
    exact T
theorem t_L_law_846 {h : Hp} {P : Value → Hp → Prop} {a4 a8 a10 a11 a12 a14 a15 a17 s0 : Int} {a0 a2 a5 a6 a9 a16 : Nat} {a3 a7 a13 a18 a19 a20 a21 a22 a23 a24 a25 a26 a27 : Value} (T : (rng a17) ∧ ((a17 < 0 → P (.int (I 0)) h) ∧ (¬ a17 < 0 → (rng s0) ∧ ((s0 < 1 → P (.int (I 0)) h) ∧ (¬ s0 < 1 → (rng (a17 + s0)) ∧ (rng a8) ∧ ((a8 < (a17 + s0) → P (.int (I 0)) h) ∧ (¬ a8 < (a17 + s0) → R 96 0 [.ref a2, .int (I a15), .ref a16, .retAddr 0, .retAddr 0, .retAddr 0, .retAddr 0, .retAddr 0] [] h (fun _ h2 => R 99 879 [.ref a0, .ref 0, .ref a2, a3, .int (I a4), .ref a5, .ref a6, a7, .int (I a8), .ref a9, .int (I a10), .int (I a11), .int (I a12), a13, .int (I a14), .int (I a15), .ref a16, .int (I a17), .int (I s0), a19, a20, a21, a22, a23, a24, a25, a26, a27] [] h2 P)))))))) : R 99 846 [.ref a0, .ref 0, .ref a2, a3, .int (I a4), .ref a5, .ref a6, a7, .int (I a8), .ref a9, .int (I a10), .int (I a11), .int (I a12), a13, .int (I a14), .int (I a15), .ref a16, .int (I a17), a18, a19, a20, a21, a22, a23, a24, a25, a26, a27] [.int (I s0)] h P := by
  refine R_istore (Dat dd_L_law_c7 48 rfl) rfl rfl ?_
  refine R_iload (Dat dd_L_law_c7 49 rfl) rfl ?_
  obtain ⟨g1, T⟩ := T
  refine R_if_lt (Dat dd_L_law_c7 50 rfl) rfl g1  (fun c => ?_) (fun c => ?_)
  · replace T := T.1 c
    refine R_iconst (Dat dd_L_law_c7 59 rfl) ?_
    exact R_ireturn (Dat dd_L_law_c8 0 rfl) rfl T
  · replace T := T.2 c
    refine R_iload (Dat dd_L_law_c7 51 rfl) rfl ?_
    refine R_iconst (Dat dd_L_law_c7 52 rfl) ?_
    obtain ⟨g2, T⟩ := T
    refine R_ic_lt (Dat dd_L_law_c7 53 rfl) rfl g2 (by decide) (fun c => ?_) (fun c => ?_)
    · replace T := T.1 c
      refine R_iconst (Dat dd_L_law_c7 59 rfl) ?_
      exact R_ireturn (Dat dd_L_law_c8 0 rfl) rfl T
    · replace T := T.2 c
      refine R_iload (Dat dd_L_law_c7 54 rfl) rfl ?_
      refine R_iload (Dat dd_L_law_c7 55 rfl) rfl ?_
      refine R_iadd (Dat dd_L_law_c7 56 rfl) ?_
      refine R_iload (Dat dd_L_law_c7 57 rfl) rfl ?_
      obtain ⟨g3, T⟩ := T
      obtain ⟨g4, T⟩ := T
      refine R_ic_le (Dat dd_L_law_c7 58 rfl) rfl g3 g4 (fun c => ?_) (fun c => ?_)
      · replace T := T.1 c
        refine R_iconst (Dat dd_L_law_c7 59 rfl) ?_
        exact R_ireturn (Dat dd_L_law_c8 0 rfl) rfl T
      · replace T := T.2 c
        refine R_aload_n (Dat dd_L_law_c8 1 rfl) rfl rfl ?_
        refine R_iload (Dat dd_L_law_c8 2 rfl) rfl ?_
        refine R_aload (Dat dd_L_law_c8 3 rfl) rfl rfl ?_
        exact R_call0 (Dat dd_L_law_c8 4 rfl) rfl rfl rfl rfl rfl rfl T
theorem t_L_law_1488 {h : Hp} {P : Value → Hp → Prop} {s0 : Int} {a0 a1 a2 a3 a4 a5 a6 a7 a8 a9 a10 a11 a12 a13 a14 a15 a16 a17 a18 a19 a20 a21 a22 a23 a24 a25 a26 a27 : Value} (T : (rng s0) ∧ ((s0 = (-1) → R 99 1497 [a0, a1, a2, a3, a4, a5, a6, a7, a8, a9, a10, a11, a12, a13, a14, a15, a16, a17, a18, a19, a20, a21, a22, a23, a24, a25, a26, a27] [.int (I 1)] h P) ∧ (¬ s0 = (-1) → R 99 1497 [a0, a1, a2, a3, a4, a5, a6, a7, a8, a9, a10, a11, a12, a13, a14, a15, a16, a17, a18, a19, a20, a21, a22, a23, a24, a25, a26, a27] [.int (I 0)] h P))) : R 99 1488 [a0, a1, a2, a3, a4, a5, a6, a7, a8, a9, a10, a11, a12, a13, a14, a15, a16, a17, a18, a19, a20, a21, a22, a23, a24, a25, a26, a27] [.int (I s0)] h P := by
  refine R_iconst (Dat dd_L_law_c13 26 rfl) ?_
  obtain ⟨g1, T⟩ := T
  refine R_ic_ne (Dat dd_L_law_c13 27 rfl) rfl g1 (by decide) (fun c => ?_) (fun c => ?_)
  · replace T := T.1 c
    refine R_iconst (Dat dd_L_law_c13 28 rfl) ?_
    refine R_goto (Dat dd_L_law_c13 29 rfl) rfl ?_
    exact T
  · replace T := T.2 c
    refine R_iconst (Dat dd_L_law_c13 30 rfl) ?_
    exact T
theorem t_L_law_879 {h : Hp} {P : Value → Hp → Prop} {a4 a8 a10 a11 a12 a14 a15 a17 a18 : Int} {a0 a2 a5 a6 a9 a16 : Nat} {a3 a7 a13 a19 a20 a21 a22 a23 a24 a25 a26 a27 : Value} (T : R 99 888 [.ref a0, .ref 0, .ref a2, a3, .int (I a4), .ref a5, .ref a6, a7, .int (I a8), .ref a9, .int (I a10), .int (I a11), .int (I a12), a13, .int (I a14), .int (I a15), .ref a16, .int (I a17), .int (I a18), .int (I (-1)), .int (I (-1)), .int (I 0), a22, a23, a24, a25, a26, a27] [] h P) : R 99 879 [.ref a0, .ref 0, .ref a2, a3, .int (I a4), .ref a5, .ref a6, a7, .int (I a8), .ref a9, .int (I a10), .int (I a11), .int (I a12), a13, .int (I a14), .int (I a15), .ref a16, .int (I a17), .int (I a18), a19, a20, a21, a22, a23, a24, a25, a26, a27] [] h P := by
  refine R_iconst (Dat dd_L_law_c8 5 rfl) ?_
  refine R_istore (Dat dd_L_law_c8 6 rfl) rfl rfl ?_
  refine R_iconst (Dat dd_L_law_c8 7 rfl) ?_
  refine R_istore (Dat dd_L_law_c8 8 rfl) rfl rfl ?_
  refine R_iconst (Dat dd_L_law_c8 9 rfl) ?_
  refine R_istore (Dat dd_L_law_c8 10 rfl) rfl rfl ?_
  exact T
theorem t_L_law_888 {h : Hp} {P : Value → Hp → Prop} {a4 a8 a10 a11 a12 a14 a15 a17 a18 a19 a20 a21 : Int} {a0 a2 a5 a6 a9 a16 : Nat} {a3 a7 a13 a22 a23 a24 a25 a26 a27 : Value} (T : (rng a21) ∧ (rng (a17 + a18)) ∧ (((a17 + a18) < a21 → R 88 0 [.int (I (shr a12 15)), .int (I a4)] [] h (fun v h2 => R 99 1051 [.ref a0, .ref 0, .ref a2, a3, .int (I a4), .ref a5, .ref a6, a7, .int (I a8), .ref a9, .int (I a10), .int (I a11), .int (I a12), a13, .int (I a14), .int (I a15), .ref a16, .int (I a17), .int (I a18), .int (I a19), .int (I a20), .int (I a21), a22, a23, a24, a25, a26, a27] (v :: []) h2 P)) ∧ (¬ (a17 + a18) < a21 → R 95 0 [.ref a2, .ref a16, .retAddr 0, .retAddr 0, .retAddr 0, .retAddr 0, .retAddr 0] [] h (fun v h2 => R 99 904 [.ref a0, .ref 0, .ref a2, a3, .int (I a4), .ref a5, .ref a6, a7, .int (I a8), .ref a9, .int (I a10), .int (I a11), .int (I a12), a13, .int (I a14), .int (I a15), .ref a16, .int (I a17), .int (I a18), .int (I a19), .int (I a20), .int (I a21), a22, a23, a24, a25, a26, a27] (v :: []) h2 P)))) : R 99 888 [.ref a0, .ref 0, .ref a2, a3, .int (I a4), .ref a5, .ref a6, a7, .int (I a8), .ref a9, .int (I a10), .int (I a11), .int (I a12), a13, .int (I a14), .int (I a15), .ref a16, .int (I a17), .int (I a18), .int (I a19), .int (I a20), .int (I a21), a22, a23, a24, a25, a26, a27] [] h P := by
  refine R_iload (Dat dd_L_law_c8 11 rfl) rfl ?_
  refine R_iload (Dat dd_L_law_c8 12 rfl) rfl ?_
  refine R_iload (Dat dd_L_law_c8 13 rfl) rfl ?_
  refine R_iadd (Dat dd_L_law_c8 14 rfl) ?_
  obtain ⟨g1, T⟩ := T
  obtain ⟨g2, T⟩ := T
  refine R_ic_gt (Dat dd_L_law_c8 15 rfl) rfl g1 g2 (fun c => ?_) (fun c => ?_)
  · replace T := T.1 c
    refine R_iload (Dat dd_L_law_c9 27 rfl) rfl ?_
    refine R_bipush (Dat dd_L_law_c9 28 rfl) (a := 15) rfl ?_
    refine R_ishr (Dat dd_L_law_c9 29 rfl) ?_
    refine R_iload (Dat dd_L_law_c9 30 rfl) rfl ?_
    exact R_call0 (Dat dd_L_law_c9 31 rfl) rfl rfl rfl rfl rfl rfl T
  · replace T := T.2 c
    refine R_aload_n (Dat dd_L_law_c8 16 rfl) rfl rfl ?_
    refine R_aload (Dat dd_L_law_c8 17 rfl) rfl rfl ?_
    exact R_call0 (Dat dd_L_law_c8 18 rfl) rfl rfl rfl rfl rfl rfl T
theorem t_L_law_1051 {h : Hp} {P : Value → Hp → Prop} {a4 a8 a10 a11 a12 a14 a15 s0 : Int} {a0 a2 a5 a6 a9 : Nat} {a3 a7 a13 a16 a17 a18 a19 a20 a21 a22 a23 a24 a25 a26 a27 : Value} (T : (okg 99 97 [.ref a0, .ref 0, .ref a2, a3, .int (I a4), .ref a5, .ref a6, a7, .int (I a8), .ref a9, .int (I a10), .int (I a11), .int (I a12), a13, .int (I a14), .int (I a15), a16, a17, a18, a19, a20, .int (I s0), a22, a23, a24, a25, a26, a27] [] [.ref a2, .ref a5, .int (I (-9)), .int (I s0), .int (I a15), .int (I a14)] = true) ∧ R 97 0 [.ref a2, .ref a5, .int (I (-9)), .int (I s0), .int (I a15), .int (I a14), .retAddr 0, .retAddr 0, .retAddr 0] [] h (fun v h2 => R 99 1067 [.ref a0, .ref 0, .ref a2, a3, .int (I a4), .ref a5, .ref a6, a7, .int (I a8), .ref a9, .int (I a10), .int (I a11), .int (I a12), a13, .int (I a14), .int (I a15), a16, a17, a18, a19, a20, .int (I s0), a22, a23, a24, a25, a26, a27] (v :: []) h2 P)) : R 99 1051 [.ref a0, .ref 0, .ref a2, a3, .int (I a4), .ref a5, .ref a6, a7, .int (I a8), .ref a9, .int (I a10), .int (I a11), .int (I a12), a13, .int (I a14), .int (I a15), a16, a17, a18, a19, a20, a21, a22, a23, a24, a25, a26, a27] [.int (I s0)] h P := by
  refine R_istore (Dat dd_L_law_c9 32 rfl) rfl rfl ?_
  refine R_aload_n (Dat dd_L_law_c9 33 rfl) rfl rfl ?_
  refine R_aload (Dat dd_L_law_c9 34 rfl) rfl rfl ?_
  refine R_bipush (Dat dd_L_law_c9 35 rfl) (a := (-9)) rfl ?_
  refine R_iload (Dat dd_L_law_c9 36 rfl) rfl ?_
  refine R_iload (Dat dd_L_law_c9 37 rfl) rfl ?_
  refine R_iload (Dat dd_L_law_c9 38 rfl) rfl ?_
  obtain ⟨g1, T⟩ := T
  exact R_call0 (Dat dd_L_law_c9 39 rfl) rfl rfl rfl rfl g1 rfl T
theorem t_L_law_904 {h : Hp} {P : Value → Hp → Prop} {a4 a8 a10 a11 a12 a14 a15 a17 a18 a19 a20 a21 s0 : Int} {a0 a2 a5 a6 a9 a16 : Nat} {a3 a7 a13 a22 a23 a24 a25 a26 a27 : Value} (T : (rng a21) ∧ (rng a17) ∧ ((a21 = a17 → R 99 917 [.ref a0, .ref 0, .ref a2, a3, .int (I a4), .ref a5, .ref a6, a7, .int (I a8), .ref a9, .int (I a10), .int (I a11), .int (I a12), a13, .int (I a14), .int (I a15), .ref a16, .int (I a17), .int (I a18), .int (I s0), .int (I a20), .int (I a21), .int (I s0), a23, a24, a25, a26, a27] [] h P) ∧ (¬ a21 = a17 → R 99 917 [.ref a0, .ref 0, .ref a2, a3, .int (I a4), .ref a5, .ref a6, a7, .int (I a8), .ref a9, .int (I a10), .int (I a11), .int (I a12), a13, .int (I a14), .int (I a15), .ref a16, .int (I a17), .int (I a18), .int (I a19), .int (I a20), .int (I a21), .int (I s0), a23, a24, a25, a26, a27] [] h P))) : R 99 904 [.ref a0, .ref 0, .ref a2, a3, .int (I a4), .ref a5, .ref a6, a7, .int (I a8), .ref a9, .int (I a10), .int (I a11), .int (I a12), a13, .int (I a14), .int (I a15), .ref a16, .int (I a17), .int (I a18), .int (I a19), .int (I a20), .int (I a21), a22, a23, a24, a25, a26, a27] [.int (I s0)] h P := by
  refine R_istore (Dat dd_L_law_c8 19 rfl) rfl rfl ?_
  refine R_iload (Dat dd_L_law_c8 20 rfl) rfl ?_
  refine R_iload (Dat dd_L_law_c8 21 rfl) rfl ?_
  obtain ⟨g1, T⟩ := T
  obtain ⟨g2, T⟩ := T
  refine R_ic_ne (Dat dd_L_law_c8 22 rfl) rfl g1 g2 (fun c => ?_) (fun c => ?_)
  · replace T := T.1 c
    refine R_iload (Dat dd_L_law_c8 23 rfl) rfl ?_
    refine R_istore (Dat dd_L_law_c8 24 rfl) rfl rfl ?_
    exact T
  · replace T := T.2 c
    exact T
theorem t_L_law_1067 {h : Hp} {P : Value → Hp → Prop} {a4 a8 a10 a11 a12 a14 a15 a21 s0 : Int} {a0 a2 a5 a6 a9 : Nat} {a3 a7 a13 a16 a17 a18 a19 a20 a22 a23 a24 a25 a26 a27 : Value} (T : (okg 99 76 [.ref a0, .ref 0, .ref a2, a3, .int (I a4), .ref a5, .ref a6, a7, .int (I a8), .ref a9, .int (I a10), .int (I a11), .int (I a12), a13, .int (I a14), .int (I a15), a16, a17, a18, a19, a20, .int (I a21), .int (I s0), a23, a24, a25, a26, a27] [] [.ref 0, .int (I a21), .int (I a15), .int (I a14)] = true) ∧ (tg h 0 = 12) ∧ R 76 0 [.ref 0, .int (I a21), .int (I a15), .int (I a14), .retAddr 0] [] h (fun v h2 => R 99 1079 [.ref a0, .ref 0, .ref a2, a3, .int (I a4), .ref a5, .ref a6, a7, .int (I a8), .ref a9, .int (I a10), .int (I a11), .int (I a12), a13, .int (I a14), .int (I a15), a16, a17, a18, a19, a20, .int (I a21), .int (I s0), a23, a24, a25, a26, a27] (v :: []) h2 P)) : R 99 1067 [.ref a0, .ref 0, .ref a2, a3, .int (I a4), .ref a5, .ref a6, a7, .int (I a8), .ref a9, .int (I a10), .int (I a11), .int (I a12), a13, .int (I a14), .int (I a15), a16, a17, a18, a19, a20, .int (I a21), a22, a23, a24, a25, a26, a27] [.int (I s0)] h P := by
  refine R_istore (Dat dd_L_law_c9 40 rfl) rfl rfl ?_
  refine R_aload_n (Dat dd_L_law_c9 41 rfl) rfl rfl ?_
  refine R_iload (Dat dd_L_law_c9 42 rfl) rfl ?_
  refine R_iload (Dat dd_L_law_c9 43 rfl) rfl ?_
  refine R_iload (Dat dd_L_law_c9 44 rfl) rfl ?_
  obtain ⟨g1, T⟩ := T
  obtain ⟨g2, T⟩ := T
  exact R_call1 (Dat dd_L_law_c9 45 rfl) rfl g2 rfl rfl rfl g1 rfl T
theorem t_L_law_917 {h : Hp} {P : Value → Hp → Prop} {a4 a8 a10 a11 a12 a14 a15 a17 a18 a19 a20 a21 a22 : Int} {a0 a2 a5 a6 a9 a16 : Nat} {a3 a7 a13 a23 a24 a25 a26 a27 : Value} (T : (rng a21) ∧ (rng (a17 - 1)) ∧ ((a21 = (a17 - 1) → R 99 930 [.ref a0, .ref 0, .ref a2, a3, .int (I a4), .ref a5, .ref a6, a7, .int (I a8), .ref a9, .int (I a10), .int (I a11), .int (I a12), a13, .int (I a14), .int (I a15), .ref a16, .int (I a17), .int (I a18), .int (I a19), .int (I a22), .int (I a21), .int (I a22), a23, a24, a25, a26, a27] [] h P) ∧ (¬ a21 = (a17 - 1) → R 99 930 [.ref a0, .ref 0, .ref a2, a3, .int (I a4), .ref a5, .ref a6, a7, .int (I a8), .ref a9, .int (I a10), .int (I a11), .int (I a12), a13, .int (I a14), .int (I a15), .ref a16, .int (I a17), .int (I a18), .int (I a19), .int (I a20), .int (I a21), .int (I a22), a23, a24, a25, a26, a27] [] h P))) : R 99 917 [.ref a0, .ref 0, .ref a2, a3, .int (I a4), .ref a5, .ref a6, a7, .int (I a8), .ref a9, .int (I a10), .int (I a11), .int (I a12), a13, .int (I a14), .int (I a15), .ref a16, .int (I a17), .int (I a18), .int (I a19), .int (I a20), .int (I a21), .int (I a22), a23, a24, a25, a26, a27] [] h P := by
  refine R_iload (Dat dd_L_law_c8 25 rfl) rfl ?_
  refine R_iload (Dat dd_L_law_c8 26 rfl) rfl ?_
  refine R_iconst (Dat dd_L_law_c8 27 rfl) ?_
  refine R_isub (Dat dd_L_law_c8 28 rfl) ?_
  obtain ⟨g1, T⟩ := T
  obtain ⟨g2, T⟩ := T
  refine R_ic_ne (Dat dd_L_law_c8 29 rfl) rfl g1 g2 (fun c => ?_) (fun c => ?_)
  · replace T := T.1 c
    refine R_iload (Dat dd_L_law_c8 30 rfl) rfl ?_
    refine R_istore (Dat dd_L_law_c8 31 rfl) rfl rfl ?_
    exact T
  · replace T := T.2 c
    exact T
theorem t_L_law_1079 {h : Hp} {P : Value → Hp → Prop} {a4 a8 a10 a11 a12 a14 a15 a21 a22 s0 : Int} {a0 a2 a5 a6 a9 : Nat} {a3 a7 a13 a16 a17 a18 a19 a20 a23 a24 a25 a26 a27 : Value} (T : (rng a22) ∧ ((a22 = 9999 → R 99 1094 [.ref a0, .ref 0, .ref a2, a3, .int (I a4), .ref a5, .ref a6, a7, .int (I a8), .ref a9, .int (I a10), .int (I a11), .int (I a12), a13, .int (I a14), .int (I a15), a16, a17, a18, a19, a20, .int (I a21), .int (I a22), a23, a24, a25, a26, a27] [.int (I (-9)), .int (I s0)] h P) ∧ (¬ a22 = 9999 → R 99 1094 [.ref a0, .ref 0, .ref a2, a3, .int (I a4), .ref a5, .ref a6, a7, .int (I a8), .ref a9, .int (I a10), .int (I a11), .int (I a12), a13, .int (I a14), .int (I a15), a16, a17, a18, a19, a20, .int (I a21), .int (I a22), a23, a24, a25, a26, a27] [.int (I a22), .int (I s0)] h P))) : R 99 1079 [.ref a0, .ref 0, .ref a2, a3, .int (I a4), .ref a5, .ref a6, a7, .int (I a8), .ref a9, .int (I a10), .int (I a11), .int (I a12), a13, .int (I a14), .int (I a15), a16, a17, a18, a19, a20, .int (I a21), .int (I a22), a23, a24, a25, a26, a27] [.int (I s0)] h P := by
  refine R_iload (Dat dd_L_law_c9 46 rfl) rfl ?_
  refine R_sipush (Dat dd_L_law_c9 47 rfl) (a := 9999) rfl ?_
  obtain ⟨g1, T⟩ := T
  refine R_ic_ne (Dat dd_L_law_c9 48 rfl) rfl g1 (by decide) (fun c => ?_) (fun c => ?_)
  · replace T := T.1 c
    refine R_bipush (Dat dd_L_law_c9 49 rfl) (a := (-9)) rfl ?_
    refine R_goto (Dat dd_L_law_c9 50 rfl) rfl ?_
    exact T
  · replace T := T.2 c
    refine R_iload (Dat dd_L_law_c9 51 rfl) rfl ?_
    exact T
theorem t_L_law_930 {h : Hp} {P : Value → Hp → Prop} {a4 a8 a10 a11 a12 a14 a15 a17 a18 a19 a20 a21 a22 : Int} {a0 a2 a5 a6 a9 a16 : Nat} {a3 a7 a13 a23 a24 a25 a26 a27 : Value} (T : (rng a21) ∧ (rng a17) ∧ ((a17 < a21 → (rng a22) ∧ (rng a19) ∧ ((a22 = a19 → R 99 949 [.ref a0, .ref 0, .ref a2, a3, .int (I a4), .ref a5, .ref a6, a7, .int (I a8), .ref a9, .int (I a10), .int (I a11), .int (I a12), a13, .int (I a14), .int (I a15), .ref a16, .int (I a17), .int (I a18), .int (I a19), .int (I a20), .int (I a21), .int (I a22), a23, a24, a25, a26, a27] [.int (I 1)] h P) ∧ (¬ a22 = a19 → R 99 949 [.ref a0, .ref 0, .ref a2, a3, .int (I a4), .ref a5, .ref a6, a7, .int (I a8), .ref a9, .int (I a10), .int (I a11), .int (I a12), a13, .int (I a14), .int (I a15), .ref a16, .int (I a17), .int (I a18), .int (I a19), .int (I a20), .int (I a21), .int (I a22), a23, a24, a25, a26, a27] [.int (I 0)] h P))) ∧ (¬ a17 < a21 → R 99 967 [.ref a0, .ref 0, .ref a2, a3, .int (I a4), .ref a5, .ref a6, a7, .int (I a8), .ref a9, .int (I a10), .int (I a11), .int (I a12), a13, .int (I a14), .int (I a15), .ref a16, .int (I a17), .int (I a18), .int (I a19), .int (I a20), .int (I a21), .int (I a22), a23, a24, a25, a26, a27] [] h P))) : R 99 930 [.ref a0, .ref 0, .ref a2, a3, .int (I a4), .ref a5, .ref a6, a7, .int (I a8), .ref a9, .int (I a10), .int (I a11), .int (I a12), a13, .int (I a14), .int (I a15), .ref a16, .int (I a17), .int (I a18), .int (I a19), .int (I a20), .int (I a21), .int (I a22), a23, a24, a25, a26, a27] [] h P := by
  refine R_iload (Dat dd_L_law_c8 32 rfl) rfl ?_
  refine R_iload (Dat dd_L_law_c8 33 rfl) rfl ?_
  obtain ⟨g1, T⟩ := T
  obtain ⟨g2, T⟩ := T
  refine R_ic_le (Dat dd_L_law_c8 34 rfl) rfl g1 g2 (fun c => ?_) (fun c => ?_)
  · replace T := T.1 c
    refine R_iload (Dat dd_L_law_c8 35 rfl) rfl ?_
    refine R_iload (Dat dd_L_law_c8 36 rfl) rfl ?_
    obtain ⟨g3, T⟩ := T
    obtain ⟨g4, T⟩ := T
    refine R_ic_ne (Dat dd_L_law_c8 37 rfl) rfl g3 g4 (fun c => ?_) (fun c => ?_)
    · replace T := T.1 c
      refine R_iconst (Dat dd_L_law_c8 38 rfl) ?_
      refine R_goto (Dat dd_L_law_c8 39 rfl) rfl ?_
      exact T
    · replace T := T.2 c
      refine R_iconst (Dat dd_L_law_c8 40 rfl) ?_
      exact T
  · replace T := T.2 c
    exact T
theorem t_L_law_1094 {h : Hp} {P : Value → Hp → Prop} {a4 a8 a10 a11 a12 a14 a15 a21 a22 s0 s1 : Int} {a0 a2 a5 a6 a9 : Nat} {a3 a7 a13 a16 a17 a18 a19 a20 a23 a24 a25 a26 a27 : Value} (T : (rng s1) ∧ (rng s0) ∧ ((s1 = s0 → R 99 1109 [.ref a0, .ref 0, .ref a2, a3, .int (I a4), .ref a5, .ref a6, a7, .int (I a8), .ref a9, .int (I a10), .int (I a11), .int (I a12), a13, .int (I a14), .int (I a15), a16, a17, a18, a19, a20, .int (I a21), .int (I a22), .int (I (-9)), .int (I 0), .int (I 0), a26, a27] [] h P) ∧ (¬ s1 = s0 → P (.int (I 0)) h))) : R 99 1094 [.ref a0, .ref 0, .ref a2, a3, .int (I a4), .ref a5, .ref a6, a7, .int (I a8), .ref a9, .int (I a10), .int (I a11), .int (I a12), a13, .int (I a14), .int (I a15), a16, a17, a18, a19, a20, .int (I a21), .int (I a22), a23, a24, a25, a26, a27] [.int (I s0), .int (I s1)] h P := by
  obtain ⟨g1, T⟩ := T
  obtain ⟨g2, T⟩ := T
  refine R_ic_eq (Dat dd_L_law_c9 52 rfl) rfl g1 g2 (fun c => ?_) (fun c => ?_)
  · replace T := T.1 c
    refine R_bipush (Dat dd_L_law_c9 55 rfl) (a := (-9)) rfl ?_
    refine R_istore (Dat dd_L_law_c9 56 rfl) rfl rfl ?_
    refine R_iconst (Dat dd_L_law_c9 57 rfl) ?_
    refine R_istore (Dat dd_L_law_c9 58 rfl) rfl rfl ?_
    refine R_iconst (Dat dd_L_law_c9 59 rfl) ?_
    refine R_istore (Dat dd_L_law_c10 0 rfl) rfl rfl ?_
    exact T
  · replace T := T.2 c
    refine R_iconst (Dat dd_L_law_c9 53 rfl) ?_
    exact R_ireturn (Dat dd_L_law_c9 54 rfl) rfl T
theorem t_L_law_949 {h : Hp} {P : Value → Hp → Prop} {a4 a8 a10 a11 a12 a14 a15 a17 a18 a19 a20 a21 a22 s0 : Int} {a0 a2 a5 a6 a9 a16 : Nat} {a3 a7 a13 a23 a24 a25 a26 a27 : Value} (T : (rng a21) ∧ (rng (a17 + a18)) ∧ ((a21 = (a17 + a18) → R 99 964 [.ref a0, .ref 0, .ref a2, a3, .int (I a4), .ref a5, .ref a6, a7, .int (I a8), .ref a9, .int (I a10), .int (I a11), .int (I a12), a13, .int (I a14), .int (I a15), .ref a16, .int (I a17), .int (I a18), .int (I a19), .int (I a20), .int (I a21), .int (I a22), a23, a24, a25, a26, a27] [.int (I 1), .int (I s0)] h P) ∧ (¬ a21 = (a17 + a18) → R 99 964 [.ref a0, .ref 0, .ref a2, a3, .int (I a4), .ref a5, .ref a6, a7, .int (I a8), .ref a9, .int (I a10), .int (I a11), .int (I a12), a13, .int (I a14), .int (I a15), .ref a16, .int (I a17), .int (I a18), .int (I a19), .int (I a20), .int (I a21), .int (I a22), a23, a24, a25, a26, a27] [.int (I 0), .int (I s0)] h P))) : R 99 949 [.ref a0, .ref 0, .ref a2, a3, .int (I a4), .ref a5, .ref a6, a7, .int (I a8), .ref a9, .int (I a10), .int (I a11), .int (I a12), a13, .int (I a14), .int (I a15), .ref a16, .int (I a17), .int (I a18), .int (I a19), .int (I a20), .int (I a21), .int (I a22), a23, a24, a25, a26, a27] [.int (I s0)] h P := by
  refine R_iload (Dat dd_L_law_c8 41 rfl) rfl ?_
  refine R_iload (Dat dd_L_law_c8 42 rfl) rfl ?_
  refine R_iload (Dat dd_L_law_c8 43 rfl) rfl ?_
  refine R_iadd (Dat dd_L_law_c8 44 rfl) ?_
  obtain ⟨g1, T⟩ := T
  obtain ⟨g2, T⟩ := T
  refine R_ic_ne (Dat dd_L_law_c8 45 rfl) rfl g1 g2 (fun c => ?_) (fun c => ?_)
  · replace T := T.1 c
    refine R_iconst (Dat dd_L_law_c8 46 rfl) ?_
    refine R_goto (Dat dd_L_law_c8 47 rfl) rfl ?_
    exact T
  · replace T := T.2 c
    refine R_iconst (Dat dd_L_law_c8 48 rfl) ?_
    exact T
theorem t_L_law_967 {h : Hp} {P : Value → Hp → Prop} {a4 a8 a10 a11 a12 a14 a15 a17 a18 a19 a20 a21 a22 : Int} {a0 a2 a5 a6 a9 a16 : Nat} {a3 a7 a13 a23 a24 a25 a26 a27 : Value} (T : (rng a21) ∧ (rng (a17 + a18)) ∧ ((a21 = (a17 + a18) → (rng a17) ∧ (((0 : Int) < a17 → (rng a22) ∧ (rng a20) ∧ ((a22 = a20 → P (.int (I 0)) h) ∧ (¬ a22 = a20 → R 99 991 [.ref a0, .ref 0, .ref a2, a3, .int (I a4), .ref a5, .ref a6, a7, .int (I a8), .ref a9, .int (I a10), .int (I a11), .int (I a12), a13, .int (I a14), .int (I a15), .ref a16, .int (I a17), .int (I a18), .int (I a19), .int (I a20), .int (I a21), .int (I a22), a23, a24, a25, a26, a27] [] h P))) ∧ (¬ (0 : Int) < a17 → R 99 991 [.ref a0, .ref 0, .ref a2, a3, .int (I a4), .ref a5, .ref a6, a7, .int (I a8), .ref a9, .int (I a10), .int (I a11), .int (I a12), a13, .int (I a14), .int (I a15), .ref a16, .int (I a17), .int (I a18), .int (I a19), .int (I a20), .int (I a21), .int (I a22), a23, a24, a25, a26, a27] [] h P))) ∧ (¬ a21 = (a17 + a18) → R 99 991 [.ref a0, .ref 0, .ref a2, a3, .int (I a4), .ref a5, .ref a6, a7, .int (I a8), .ref a9, .int (I a10), .int (I a11), .int (I a12), a13, .int (I a14), .int (I a15), .ref a16, .int (I a17), .int (I a18), .int (I a19), .int (I a20), .int (I a21), .int (I a22), a23, a24, a25, a26, a27] [] h P))) : R 99 967 [.ref a0, .ref 0, .ref a2, a3, .int (I a4), .ref a5, .ref a6, a7, .int (I a8), .ref a9, .int (I a10), .int (I a11), .int (I a12), a13, .int (I a14), .int (I a15), .ref a16, .int (I a17), .int (I a18), .int (I a19), .int (I a20), .int (I a21), .int (I a22), a23, a24, a25, a26, a27] [] h P := by
  refine R_iload (Dat dd_L_law_c8 50 rfl) rfl ?_
  refine R_iload (Dat dd_L_law_c8 51 rfl) rfl ?_
  refine R_iload (Dat dd_L_law_c8 52 rfl) rfl ?_
  refine R_iadd (Dat dd_L_law_c8 53 rfl) ?_
  obtain ⟨g1, T⟩ := T
  obtain ⟨g2, T⟩ := T
  refine R_ic_ne (Dat dd_L_law_c8 54 rfl) rfl g1 g2 (fun c => ?_) (fun c => ?_)
  · replace T := T.1 c
    refine R_iload (Dat dd_L_law_c8 55 rfl) rfl ?_
    obtain ⟨g3, T⟩ := T
    refine R_if_le (Dat dd_L_law_c8 56 rfl) rfl g3  (fun c => ?_) (fun c => ?_)
    · replace T := T.1 c
      refine R_iload (Dat dd_L_law_c8 57 rfl) rfl ?_
      refine R_iload (Dat dd_L_law_c8 58 rfl) rfl ?_
      obtain ⟨g4, T⟩ := T
      obtain ⟨g5, T⟩ := T
      refine R_ic_ne (Dat dd_L_law_c8 59 rfl) rfl g4 g5 (fun c => ?_) (fun c => ?_)
      · replace T := T.1 c
        refine R_iconst (Dat dd_L_law_c9 0 rfl) ?_
        exact R_ireturn (Dat dd_L_law_c9 1 rfl) rfl T
      · replace T := T.2 c
        exact T
    · replace T := T.2 c
      exact T
  · replace T := T.2 c
    exact T
theorem t_L_law_1109 {h : Hp} {P : Value → Hp → Prop} {a4 a8 a10 a11 a12 a14 a15 a21 a22 a23 a24 a25 : Int} {a0 a2 a5 a6 a9 : Nat} {a3 a7 a13 a16 a17 a18 a19 a20 a26 a27 : Value} (T : (tg h a5 = 20 ∨ tg h a5 = 30) ∧ ((ln h a5 : Int) ≤ 2147483648) ∧ ((0 : Int) < ln h a5) ∧ (rng a25) ∧ (rng (iv h a5 0)) ∧ ((a25 < (iv h a5 0) → (okg 99 97 [.ref a0, .ref 0, .ref a2, a3, .int (I a4), .ref a5, .ref a6, a7, .int (I a8), .ref a9, .int (I a10), .int (I a11), .int (I a12), a13, .int (I a14), .int (I a15), a16, a17, a18, a19, a20, .int (I a21), .int (I a22), .int (I a23), .int (I a24), .int (I a25), a26, a27] [] [.ref a2, .ref a5, .int (I a25), .int (I a21), .int (I a15), .int (I a14)] = true) ∧ R 97 0 [.ref a2, .ref a5, .int (I a25), .int (I a21), .int (I a15), .int (I a14), .retAddr 0, .retAddr 0, .retAddr 0] [] h (fun v h2 => R 99 1132 [.ref a0, .ref 0, .ref a2, a3, .int (I a4), .ref a5, .ref a6, a7, .int (I a8), .ref a9, .int (I a10), .int (I a11), .int (I a12), a13, .int (I a14), .int (I a15), a16, a17, a18, a19, a20, .int (I a21), .int (I a22), .int (I a23), .int (I a24), .int (I a25), a26, a27] (v :: []) h2 P)) ∧ (¬ a25 < (iv h a5 0) → (okg 99 79 [.ref a0, .ref 0, .ref a2, a3, .int (I a4), .ref a5, .ref a6, a7, .int (I a8), .ref a9, .int (I a10), .int (I a11), .int (I a12), a13, .int (I a14), .int (I a15), a16, a17, a18, a19, a20, .int (I a21), .int (I a22), .int (I a23), .int (I a24), .int (I a25), a26, a27] [] [.ref 0, .int (I a21), .int (I a15), .int (I a14)] = true) ∧ (tg h 0 = 12) ∧ R 79 0 [.ref 0, .int (I a21), .int (I a15), .int (I a14), .retAddr 0, .retAddr 0, .retAddr 0, .retAddr 0, .retAddr 0, .retAddr 0, .retAddr 0] [] h (fun v h2 => R 99 1190 [.ref a0, .ref 0, .ref a2, a3, .int (I a4), .ref a5, .ref a6, a7, .int (I a8), .ref a9, .int (I a10), .int (I a11), .int (I a12), a13, .int (I a14), .int (I a15), a16, a17, a18, a19, a20, .int (I a21), .int (I a22), .int (I a23), .int (I a24), .int (I a25), a26, a27] (v :: []) h2 P)))) : R 99 1109 [.ref a0, .ref 0, .ref a2, a3, .int (I a4), .ref a5, .ref a6, a7, .int (I a8), .ref a9, .int (I a10), .int (I a11), .int (I a12), a13, .int (I a14), .int (I a15), a16, a17, a18, a19, a20, .int (I a21), .int (I a22), .int (I a23), .int (I a24), .int (I a25), a26, a27] [] h P := by
  refine R_iload (Dat dd_L_law_c10 1 rfl) rfl ?_
  refine R_aload (Dat dd_L_law_c10 2 rfl) rfl rfl ?_
  refine R_iconst (Dat dd_L_law_c10 3 rfl) ?_
  obtain ⟨g1, T⟩ := T
  obtain ⟨g2, T⟩ := T
  obtain ⟨g3, T⟩ := T
  refine R_iaload (Dat dd_L_law_c10 4 rfl) g1 g2 (by decide) g3 ?_
  obtain ⟨g4, T⟩ := T
  obtain ⟨g5, T⟩ := T
  refine R_ic_ge (Dat dd_L_law_c10 5 rfl) rfl g4 g5 (fun c => ?_) (fun c => ?_)
  · replace T := T.1 c
    refine R_aload_n (Dat dd_L_law_c10 6 rfl) rfl rfl ?_
    refine R_aload (Dat dd_L_law_c10 7 rfl) rfl rfl ?_
    refine R_iload (Dat dd_L_law_c10 8 rfl) rfl ?_
    refine R_iload (Dat dd_L_law_c10 9 rfl) rfl ?_
    refine R_iload (Dat dd_L_law_c10 10 rfl) rfl ?_
    refine R_iload (Dat dd_L_law_c10 11 rfl) rfl ?_
    obtain ⟨g6, T⟩ := T
    exact R_call0 (Dat dd_L_law_c10 12 rfl) rfl rfl rfl rfl g6 rfl T
  · replace T := T.2 c
    refine R_aload_n (Dat dd_L_law_c10 35 rfl) rfl rfl ?_
    refine R_iload (Dat dd_L_law_c10 36 rfl) rfl ?_
    refine R_iload (Dat dd_L_law_c10 37 rfl) rfl ?_
    refine R_iload (Dat dd_L_law_c10 38 rfl) rfl ?_
    obtain ⟨g7, T⟩ := T
    obtain ⟨g8, T⟩ := T
    exact R_call1 (Dat dd_L_law_c10 39 rfl) rfl g8 rfl rfl rfl g7 rfl T
theorem t_L_law_964 {h : Hp} {P : Value → Hp → Prop} {a4 a8 a10 a11 a12 a14 a15 a17 a18 a19 a20 a21 a22 s0 s1 : Int} {a0 a2 a5 a6 a9 a16 : Nat} {a3 a7 a13 a23 a24 a25 a26 a27 : Value} (T : (rng s1) ∧ (rng s0) ∧ ((s1 = s0 → R 99 967 [.ref a0, .ref 0, .ref a2, a3, .int (I a4), .ref a5, .ref a6, a7, .int (I a8), .ref a9, .int (I a10), .int (I a11), .int (I a12), a13, .int (I a14), .int (I a15), .ref a16, .int (I a17), .int (I a18), .int (I a19), .int (I a20), .int (I a21), .int (I a22), a23, a24, a25, a26, a27] [] h P) ∧ (¬ s1 = s0 → P (.int (I 0)) h))) : R 99 964 [.ref a0, .ref 0, .ref a2, a3, .int (I a4), .ref a5, .ref a6, a7, .int (I a8), .ref a9, .int (I a10), .int (I a11), .int (I a12), a13, .int (I a14), .int (I a15), .ref a16, .int (I a17), .int (I a18), .int (I a19), .int (I a20), .int (I a21), .int (I a22), a23, a24, a25, a26, a27] [.int (I s0), .int (I s1)] h P := by
  obtain ⟨g1, T⟩ := T
  obtain ⟨g2, T⟩ := T
  refine R_ic_ne (Dat dd_L_law_c8 49 rfl) rfl g1 g2 (fun c => ?_) (fun c => ?_)
  · replace T := T.1 c
    exact T
  · replace T := T.2 c
    refine R_iconst (Dat dd_L_law_c9 0 rfl) ?_
    exact R_ireturn (Dat dd_L_law_c9 1 rfl) rfl T
theorem t_L_law_991 {h : Hp} {P : Value → Hp → Prop} {a4 a8 a10 a11 a12 a14 a15 a17 a18 a19 a20 a21 a22 : Int} {a0 a2 a5 a6 a9 a16 : Nat} {a3 a7 a13 a23 a24 a25 a26 a27 : Value} (T : (rng a21) ∧ (rng ((a17 + a18) - 1)) ∧ ((a21 = ((a17 + a18) - 1) → (rng a17) ∧ (((0 : Int) < a17 → (rng a20) ∧ ((a20 < 0 → R 99 1022 [.ref a0, .ref 0, .ref a2, a3, .int (I a4), .ref a5, .ref a6, a7, .int (I a8), .ref a9, .int (I a10), .int (I a11), .int (I a12), a13, .int (I a14), .int (I a15), .ref a16, .int (I a17), .int (I a18), .int (I a19), .int (I a20), .int (I a21), .int (I a22), a23, a24, a25, a26, a27] [] h P) ∧ (¬ a20 < 0 → (rng a22) ∧ (rng a20) ∧ ((a22 = a20 → P (.int (I 0)) h) ∧ (¬ a22 = a20 → R 99 1022 [.ref a0, .ref 0, .ref a2, a3, .int (I a4), .ref a5, .ref a6, a7, .int (I a8), .ref a9, .int (I a10), .int (I a11), .int (I a12), a13, .int (I a14), .int (I a15), .ref a16, .int (I a17), .int (I a18), .int (I a19), .int (I a20), .int (I a21), .int (I a22), a23, a24, a25, a26, a27] [] h P))))) ∧ (¬ (0 : Int) < a17 → R 99 1022 [.ref a0, .ref 0, .ref a2, a3, .int (I a4), .ref a5, .ref a6, a7, .int (I a8), .ref a9, .int (I a10), .int (I a11), .int (I a12), a13, .int (I a14), .int (I a15), .ref a16, .int (I a17), .int (I a18), .int (I a19), .int (I a20), .int (I a21), .int (I a22), a23, a24, a25, a26, a27] [] h P))) ∧ (¬ a21 = ((a17 + a18) - 1) → R 99 1022 [.ref a0, .ref 0, .ref a2, a3, .int (I a4), .ref a5, .ref a6, a7, .int (I a8), .ref a9, .int (I a10), .int (I a11), .int (I a12), a13, .int (I a14), .int (I a15), .ref a16, .int (I a17), .int (I a18), .int (I a19), .int (I a20), .int (I a21), .int (I a22), a23, a24, a25, a26, a27] [] h P))) : R 99 991 [.ref a0, .ref 0, .ref a2, a3, .int (I a4), .ref a5, .ref a6, a7, .int (I a8), .ref a9, .int (I a10), .int (I a11), .int (I a12), a13, .int (I a14), .int (I a15), .ref a16, .int (I a17), .int (I a18), .int (I a19), .int (I a20), .int (I a21), .int (I a22), a23, a24, a25, a26, a27] [] h P := by
  refine R_iload (Dat dd_L_law_c9 2 rfl) rfl ?_
  refine R_iload (Dat dd_L_law_c9 3 rfl) rfl ?_
  refine R_iload (Dat dd_L_law_c9 4 rfl) rfl ?_
  refine R_iadd (Dat dd_L_law_c9 5 rfl) ?_
  refine R_iconst (Dat dd_L_law_c9 6 rfl) ?_
  refine R_isub (Dat dd_L_law_c9 7 rfl) ?_
  obtain ⟨g1, T⟩ := T
  obtain ⟨g2, T⟩ := T
  refine R_ic_ne (Dat dd_L_law_c9 8 rfl) rfl g1 g2 (fun c => ?_) (fun c => ?_)
  · replace T := T.1 c
    refine R_iload (Dat dd_L_law_c9 9 rfl) rfl ?_
    obtain ⟨g3, T⟩ := T
    refine R_if_le (Dat dd_L_law_c9 10 rfl) rfl g3  (fun c => ?_) (fun c => ?_)
    · replace T := T.1 c
      refine R_iload (Dat dd_L_law_c9 11 rfl) rfl ?_
      obtain ⟨g4, T⟩ := T
      refine R_if_lt (Dat dd_L_law_c9 12 rfl) rfl g4  (fun c => ?_) (fun c => ?_)
      · replace T := T.1 c
        exact T
      · replace T := T.2 c
        refine R_iload (Dat dd_L_law_c9 13 rfl) rfl ?_
        refine R_iload (Dat dd_L_law_c9 14 rfl) rfl ?_
        obtain ⟨g5, T⟩ := T
        obtain ⟨g6, T⟩ := T
        refine R_ic_ne (Dat dd_L_law_c9 15 rfl) rfl g5 g6 (fun c => ?_) (fun c => ?_)
        · replace T := T.1 c
          refine R_iconst (Dat dd_L_law_c9 16 rfl) ?_
          exact R_ireturn (Dat dd_L_law_c9 17 rfl) rfl T
        · replace T := T.2 c
          exact T
    · replace T := T.2 c
      exact T
  · replace T := T.2 c
    exact T
theorem t_L_law_1132 {h : Hp} {P : Value → Hp → Prop} {a4 a8 a10 a11 a12 a14 a15 a21 a22 a23 a24 a25 s0 : Int} {a0 a2 a5 a6 a9 : Nat} {a3 a7 a13 a16 a17 a18 a19 a20 a26 a27 : Value} (T : (rng s0) ∧ (rng a22) ∧ ((a22 < s0 → R 99 1154 [.ref a0, .ref 0, .ref a2, a3, .int (I a4), .ref a5, .ref a6, a7, .int (I a8), .ref a9, .int (I a10), .int (I a11), .int (I a12), a13, .int (I a14), .int (I a15), a16, a17, a18, a19, a20, .int (I a21), .int (I a22), .int (I a23), .int (I a24), .int (I a25), .int (I s0), a27] [.int (I (s0 - a22))] h P) ∧ (¬ a22 < s0 → R 99 1154 [.ref a0, .ref 0, .ref a2, a3, .int (I a4), .ref a5, .ref a6, a7, .int (I a8), .ref a9, .int (I a10), .int (I a11), .int (I a12), a13, .int (I a14), .int (I a15), a16, a17, a18, a19, a20, .int (I a21), .int (I a22), .int (I a23), .int (I a24), .int (I a25), .int (I s0), a27] [.int (I (a22 - s0))] h P))) : R 99 1132 [.ref a0, .ref 0, .ref a2, a3, .int (I a4), .ref a5, .ref a6, a7, .int (I a8), .ref a9, .int (I a10), .int (I a11), .int (I a12), a13, .int (I a14), .int (I a15), a16, a17, a18, a19, a20, .int (I a21), .int (I a22), .int (I a23), .int (I a24), .int (I a25), a26, a27] [.int (I s0)] h P := by
  refine R_istore (Dat dd_L_law_c10 13 rfl) rfl rfl ?_
  refine R_iload (Dat dd_L_law_c10 14 rfl) rfl ?_
  refine R_iload (Dat dd_L_law_c10 15 rfl) rfl ?_
  obtain ⟨g1, T⟩ := T
  obtain ⟨g2, T⟩ := T
  refine R_ic_le (Dat dd_L_law_c10 16 rfl) rfl g1 g2 (fun c => ?_) (fun c => ?_)
  · replace T := T.1 c
    refine R_iload (Dat dd_L_law_c10 17 rfl) rfl ?_
    refine R_iload (Dat dd_L_law_c10 18 rfl) rfl ?_
    refine R_isub (Dat dd_L_law_c10 19 rfl) ?_
    refine R_goto (Dat dd_L_law_c10 20 rfl) rfl ?_
    exact T
  · replace T := T.2 c
    refine R_iload (Dat dd_L_law_c10 21 rfl) rfl ?_
    refine R_iload (Dat dd_L_law_c10 22 rfl) rfl ?_
    refine R_isub (Dat dd_L_law_c10 23 rfl) ?_
    exact T
theorem t_L_law_1190 {h : Hp} {P : Value → Hp → Prop} {a4 a8 a10 a11 a12 a23 s0 : Int} {a0 a2 a5 a6 a9 : Nat} {a3 a7 a13 a14 a15 a16 a17 a18 a19 a20 a21 a22 a24 a25 a26 a27 : Value} (T : (rng s0) ∧ (rng a23) ∧ ((s0 = a23 → R 88 0 [.int (I (shr a12 18)), .int (I 5)] [] h (fun v h2 => R 99 1206 [.ref a0, .ref 0, .ref a2, a3, .int (I a4), .ref a5, .ref a6, a7, .int (I a8), .ref a9, .int (I a10), .int (I a11), .int (I a12), a13, a14, a15, a16, a17, a18, a19, a20, a21, a22, .int (I a23), a24, a25, a26, a27] (v :: []) h2 P)) ∧ (¬ s0 = a23 → P (.int (I 0)) h))) : R 99 1190 [.ref a0, .ref 0, .ref a2, a3, .int (I a4), .ref a5, .ref a6, a7, .int (I a8), .ref a9, .int (I a10), .int (I a11), .int (I a12), a13, a14, a15, a16, a17, a18, a19, a20, a21, a22, .int (I a23), a24, a25, a26, a27] [.int (I s0)] h P := by
  refine R_iload (Dat dd_L_law_c10 40 rfl) rfl ?_
  obtain ⟨g1, T⟩ := T
  obtain ⟨g2, T⟩ := T
  refine R_ic_eq (Dat dd_L_law_c10 41 rfl) rfl g1 g2 (fun c => ?_) (fun c => ?_)
  · replace T := T.1 c
    refine R_iload (Dat dd_L_law_c10 44 rfl) rfl ?_
    refine R_bipush (Dat dd_L_law_c10 45 rfl) (a := 18) rfl ?_
    refine R_ishr (Dat dd_L_law_c10 46 rfl) ?_
    refine R_iconst (Dat dd_L_law_c10 47 rfl) ?_
    exact R_call0 (Dat dd_L_law_c10 48 rfl) rfl rfl rfl rfl rfl rfl T
  · replace T := T.2 c
    refine R_iconst (Dat dd_L_law_c10 42 rfl) ?_
    exact R_ireturn (Dat dd_L_law_c10 43 rfl) rfl T
theorem t_L_law_1022 {h : Hp} {P : Value → Hp → Prop} {a4 a8 a10 a11 a12 a14 a15 a17 a18 a19 a20 a21 : Int} {a0 a2 a5 a6 a9 a16 : Nat} {a3 a7 a13 a22 a23 a24 a25 a26 a27 : Value} (T : R 94 0 [.ref a2, .ref a5, .int (I (-9)), .ref a16, .int (I a14), .retAddr 0, .retAddr 0, .retAddr 0, .retAddr 0, .retAddr 0] [] h (fun v h2 => R 99 1034 [.ref a0, .ref 0, .ref a2, a3, .int (I a4), .ref a5, .ref a6, a7, .int (I a8), .ref a9, .int (I a10), .int (I a11), .int (I a12), a13, .int (I a14), .int (I a15), .ref a16, .int (I a17), .int (I a18), .int (I a19), .int (I a20), .int (I a21), a22, a23, a24, a25, a26, a27] (v :: []) h2 P)) : R 99 1022 [.ref a0, .ref 0, .ref a2, a3, .int (I a4), .ref a5, .ref a6, a7, .int (I a8), .ref a9, .int (I a10), .int (I a11), .int (I a12), a13, .int (I a14), .int (I a15), .ref a16, .int (I a17), .int (I a18), .int (I a19), .int (I a20), .int (I a21), a22, a23, a24, a25, a26, a27] [] h P := by
  refine R_aload_n (Dat dd_L_law_c9 18 rfl) rfl rfl ?_
  refine R_aload (Dat dd_L_law_c9 19 rfl) rfl rfl ?_
  refine R_bipush (Dat dd_L_law_c9 20 rfl) (a := (-9)) rfl ?_
  refine R_aload (Dat dd_L_law_c9 21 rfl) rfl rfl ?_
  refine R_iload (Dat dd_L_law_c9 22 rfl) rfl ?_
  exact R_call0 (Dat dd_L_law_c9 23 rfl) rfl rfl rfl rfl rfl rfl T
theorem t_L_law_1154 {h : Hp} {P : Value → Hp → Prop} {a4 a8 a10 a11 a12 a14 a15 a21 a22 a23 a24 a25 s0 : Int} {a0 a2 a5 a6 a9 : Nat} {a3 a7 a13 a16 a17 a18 a19 a20 a26 a27 : Value} (T : (rng s0) ∧ (rng a24) ∧ ((a24 < s0 → R 99 1174 [.ref a0, .ref 0, .ref a2, a3, .int (I a4), .ref a5, .ref a6, a7, .int (I a8), .ref a9, .int (I a10), .int (I a11), .int (I a12), a13, .int (I a14), .int (I a15), a16, a17, a18, a19, a20, .int (I a21), .int (I a22), .int (I a25), .int (I s0), .int (I a25), a26, .int (I s0)] [] h P) ∧ (¬ a24 < s0 → R 99 1174 [.ref a0, .ref 0, .ref a2, a3, .int (I a4), .ref a5, .ref a6, a7, .int (I a8), .ref a9, .int (I a10), .int (I a11), .int (I a12), a13, .int (I a14), .int (I a15), a16, a17, a18, a19, a20, .int (I a21), .int (I a22), .int (I a23), .int (I a24), .int (I a25), a26, .int (I s0)] [] h P))) : R 99 1154 [.ref a0, .ref 0, .ref a2, a3, .int (I a4), .ref a5, .ref a6, a7, .int (I a8), .ref a9, .int (I a10), .int (I a11), .int (I a12), a13, .int (I a14), .int (I a15), a16, a17, a18, a19, a20, .int (I a21), .int (I a22), .int (I a23), .int (I a24), .int (I a25), a26, a27] [.int (I s0)] h P := by
  refine R_istore (Dat dd_L_law_c10 24 rfl) rfl rfl ?_
  refine R_iload (Dat dd_L_law_c10 25 rfl) rfl ?_
  refine R_iload (Dat dd_L_law_c10 26 rfl) rfl ?_
  obtain ⟨g1, T⟩ := T
  obtain ⟨g2, T⟩ := T
  refine R_ic_gt (Dat dd_L_law_c10 27 rfl) rfl g1 g2 (fun c => ?_) (fun c => ?_)
  · replace T := T.1 c
    refine R_iload (Dat dd_L_law_c10 29 rfl) rfl ?_
    refine R_istore (Dat dd_L_law_c10 30 rfl) rfl rfl ?_
    refine R_iload (Dat dd_L_law_c10 31 rfl) rfl ?_
    refine R_istore (Dat dd_L_law_c10 32 rfl) rfl rfl ?_
    exact T
  · replace T := T.2 c
    refine R_goto (Dat dd_L_law_c10 28 rfl) rfl ?_
    exact T
theorem t_L_law_1206 {h : Hp} {P : Value → Hp → Prop} {a4 a8 a10 a11 s0 : Int} {a0 a2 a5 a6 a9 : Nat} {a3 a7 a12 a13 a14 a15 a16 a17 a18 a19 a20 a21 a22 a23 a24 a25 a26 a27 : Value} (T : (rng s0) ∧ (((0 : Int) < s0 → R 99 1286 [.ref a0, .ref 0, .ref a2, a3, .int (I a4), .ref a5, .ref a6, a7, .int (I a8), .ref a9, .int (I a10), .int (I a11), a12, a13, a14, a15, a16, a17, a18, a19, a20, a21, a22, a23, a24, a25, a26, a27] [] h P) ∧ (¬ (0 : Int) < s0 → (tg h 0 = 12) ∧ R 86 0 [.ref 0, .int (I 5)] [] h (fun v h2 => R 99 1217 [.ref a0, .ref 0, .ref a2, a3, .int (I a4), .ref a5, .ref a6, a7, .int (I a8), .ref a9, .int (I a10), .int (I a11), a12, a13, a14, a15, a16, a17, a18, a19, a20, a21, a22, a23, a24, a25, a26, a27] (v :: []) h2 P)))) : R 99 1206 [.ref a0, .ref 0, .ref a2, a3, .int (I a4), .ref a5, .ref a6, a7, .int (I a8), .ref a9, .int (I a10), .int (I a11), a12, a13, a14, a15, a16, a17, a18, a19, a20, a21, a22, a23, a24, a25, a26, a27] [.int (I s0)] h P := by
  obtain ⟨g1, T⟩ := T
  refine R_if_le (Dat dd_L_law_c10 49 rfl) rfl g1  (fun c => ?_) (fun c => ?_)
  · replace T := T.1 c
    refine R_goto (Dat dd_L_law_c10 50 rfl) rfl ?_
    exact T
  · replace T := T.2 c
    refine R_aload_n (Dat dd_L_law_c10 51 rfl) rfl rfl ?_
    refine R_iconst (Dat dd_L_law_c10 52 rfl) ?_
    obtain ⟨g2, T⟩ := T
    exact R_call1 (Dat dd_L_law_c10 53 rfl) rfl g2 rfl rfl rfl rfl rfl T
theorem t_L_law_1034 {h : Hp} {P : Value → Hp → Prop} {a4 a8 a10 a11 a12 a14 a15 a17 a18 a19 a20 a21 s0 : Int} {a0 a2 a5 a6 a9 a16 : Nat} {a3 a7 a13 a22 a23 a24 a25 a26 a27 : Value} (T : R 99 888 [.ref a0, .ref 0, .ref a2, a3, .int (I a4), .ref a5, .ref a6, a7, .int (I a8), .ref a9, .int (I a10), .int (I a11), .int (I a12), a13, .int (I a14), .int (I a15), .ref a16, .int (I a17), .int (I a18), .int (I a19), .int (I a20), .int (I (a21 + 1)), a22, a23, a24, a25, a26, a27] [] h P) : R 99 1034 [.ref a0, .ref 0, .ref a2, a3, .int (I a4), .ref a5, .ref a6, a7, .int (I a8), .ref a9, .int (I a10), .int (I a11), .int (I a12), a13, .int (I a14), .int (I a15), .ref a16, .int (I a17), .int (I a18), .int (I a19), .int (I a20), .int (I a21), a22, a23, a24, a25, a26, a27] [.int (I s0)] h P := by
  refine R_pop (Dat dd_L_law_c9 24 rfl) rfl ?_
  refine R_iinc (Dat dd_L_law_c9 25 rfl) rfl rfl rfl ?_
  refine R_goto (Dat dd_L_law_c9 26 rfl) rfl ?_
  exact T
theorem t_L_law_1174 {h : Hp} {P : Value → Hp → Prop} {a4 a8 a10 a11 a12 a14 a15 a21 a22 a23 a24 a25 : Int} {a0 a2 a5 a6 a9 : Nat} {a3 a7 a13 a16 a17 a18 a19 a20 a26 a27 : Value} (T : R 99 1109 [.ref a0, .ref 0, .ref a2, a3, .int (I a4), .ref a5, .ref a6, a7, .int (I a8), .ref a9, .int (I a10), .int (I a11), .int (I a12), a13, .int (I a14), .int (I a15), a16, a17, a18, a19, a20, .int (I a21), .int (I a22), .int (I a23), .int (I a24), .int (I (a25 + 1)), a26, a27] [] h P) : R 99 1174 [.ref a0, .ref 0, .ref a2, a3, .int (I a4), .ref a5, .ref a6, a7, .int (I a8), .ref a9, .int (I a10), .int (I a11), .int (I a12), a13, .int (I a14), .int (I a15), a16, a17, a18, a19, a20, .int (I a21), .int (I a22), .int (I a23), .int (I a24), .int (I a25), a26, a27] [] h P := by
  refine R_iinc (Dat dd_L_law_c10 33 rfl) rfl rfl rfl ?_
  refine R_goto (Dat dd_L_law_c10 34 rfl) rfl ?_
  exact T
theorem t_L_law_1286 {h : Hp} {P : Value → Hp → Prop} {a4 a8 a10 a11 : Int} {a0 a2 a5 a6 a9 : Nat} {a3 a7 a12 a13 a14 a15 a16 a17 a18 a19 a20 a21 a22 a23 a24 a25 a26 a27 : Value} (T : R 99 187 [.ref a0, .ref 0, .ref a2, a3, .int (I a4), .ref a5, .ref a6, a7, .int (I a8), .ref a9, .int (I a10), .int (I (a11 + 1)), a12, a13, a14, a15, a16, a17, a18, a19, a20, a21, a22, a23, a24, a25, a26, a27] [] h P) : R 99 1286 [.ref a0, .ref 0, .ref a2, a3, .int (I a4), .ref a5, .ref a6, a7, .int (I a8), .ref a9, .int (I a10), .int (I a11), a12, a13, a14, a15, a16, a17, a18, a19, a20, a21, a22, a23, a24, a25, a26, a27] [] h P := by
  refine R_iinc (Dat dd_L_law_c11 32 rfl) rfl rfl rfl ?_
  refine R_goto (Dat dd_L_law_c11 33 rfl) rfl ?_
  exact T
theorem t_L_law_1217 {h : Hp} {P : Value → Hp → Prop} {a4 a8 a10 a11 s0 : Int} {a0 a2 a5 a6 a9 : Nat} {a3 a7 a12 a13 a14 a15 a16 a17 a18 a19 a20 a21 a22 a23 a24 a25 a26 a27 : Value} (T : (tg h 0 = 12) ∧ R 47 0 [.ref 0, .int (I (1 - s0)), .retAddr 0] [] h (fun v h2 => R 99 1227 [.ref a0, .ref 0, .ref a2, a3, .int (I a4), .ref a5, .ref a6, a7, .int (I a8), .ref a9, .int (I a10), .int (I a11), a12, a13, a14, a15, a16, a17, a18, a19, a20, a21, a22, a23, a24, .int (I s0), a26, a27] (v :: []) h2 P)) : R 99 1217 [.ref a0, .ref 0, .ref a2, a3, .int (I a4), .ref a5, .ref a6, a7, .int (I a8), .ref a9, .int (I a10), .int (I a11), a12, a13, a14, a15, a16, a17, a18, a19, a20, a21, a22, a23, a24, a25, a26, a27] [.int (I s0)] h P := by
  refine R_istore (Dat dd_L_law_c10 54 rfl) rfl rfl ?_
  refine R_aload_n (Dat dd_L_law_c10 55 rfl) rfl rfl ?_
  refine R_iconst (Dat dd_L_law_c10 56 rfl) ?_
  refine R_iload (Dat dd_L_law_c10 57 rfl) rfl ?_
  refine R_isub (Dat dd_L_law_c10 58 rfl) ?_
  obtain ⟨g1, T⟩ := T
  exact R_call1 (Dat dd_L_law_c10 59 rfl) rfl g1 rfl rfl rfl rfl rfl T
theorem t_L_law_1227 {h : Hp} {P : Value → Hp → Prop} {a4 a8 a10 a11 a25 s0 : Int} {a0 a2 a5 a6 a9 : Nat} {a3 a7 a12 a13 a14 a15 a16 a17 a18 a19 a20 a21 a22 a23 a24 a26 a27 : Value} (T : (rng s0) ∧ (rng a25) ∧ ((s0 = a25 → (tg h 0 = 12) ∧ R 86 0 [.ref 0, .int (I 5)] [] h (fun v h2 => R 99 1237 [.ref a0, .ref 0, .ref a2, a3, .int (I a4), .ref a5, .ref a6, a7, .int (I a8), .ref a9, .int (I a10), .int (I a11), a12, a13, a14, a15, a16, a17, a18, a19, a20, a21, a22, a23, a24, .int (I a25), a26, a27] (v :: []) h2 P)) ∧ (¬ s0 = a25 → P (.int (I 0)) h))) : R 99 1227 [.ref a0, .ref 0, .ref a2, a3, .int (I a4), .ref a5, .ref a6, a7, .int (I a8), .ref a9, .int (I a10), .int (I a11), a12, a13, a14, a15, a16, a17, a18, a19, a20, a21, a22, a23, a24, .int (I a25), a26, a27] [.int (I s0)] h P := by
  refine R_iload (Dat dd_L_law_c11 0 rfl) rfl ?_
  obtain ⟨g1, T⟩ := T
  obtain ⟨g2, T⟩ := T
  refine R_ic_ne (Dat dd_L_law_c11 1 rfl) rfl g1 g2 (fun c => ?_) (fun c => ?_)
  · replace T := T.1 c
    refine R_aload_n (Dat dd_L_law_c11 2 rfl) rfl rfl ?_
    refine R_iconst (Dat dd_L_law_c11 3 rfl) ?_
    obtain ⟨g3, T⟩ := T
    exact R_call1 (Dat dd_L_law_c11 4 rfl) rfl g3 rfl rfl rfl rfl rfl T
  · replace T := T.2 c
    refine R_iconst (Dat dd_L_law_c11 9 rfl) ?_
    exact R_ireturn (Dat dd_L_law_c11 10 rfl) rfl T
theorem t_L_law_1237 {h : Hp} {P : Value → Hp → Prop} {a4 a8 a10 a11 a25 s0 : Int} {a0 a2 a5 a6 a9 : Nat} {a3 a7 a12 a13 a14 a15 a16 a17 a18 a19 a20 a21 a22 a23 a24 a26 a27 : Value} (T : (rng s0) ∧ (rng (1 - a25)) ∧ ((s0 = (1 - a25) → R 99 1249 [.ref a0, .ref 0, .ref a2, a3, .int (I a4), .ref a5, .ref a6, a7, .int (I a8), .ref a9, .int (I a10), .int (I a11), a12, a13, a14, a15, a16, a17, a18, a19, a20, a21, a22, a23, a24, .int (I a25), .int (I 0), a27] [] h P) ∧ (¬ s0 = (1 - a25) → P (.int (I 0)) h))) : R 99 1237 [.ref a0, .ref 0, .ref a2, a3, .int (I a4), .ref a5, .ref a6, a7, .int (I a8), .ref a9, .int (I a10), .int (I a11), a12, a13, a14, a15, a16, a17, a18, a19, a20, a21, a22, a23, a24, .int (I a25), a26, a27] [.int (I s0)] h P := by
  refine R_iconst (Dat dd_L_law_c11 5 rfl) ?_
  refine R_iload (Dat dd_L_law_c11 6 rfl) rfl ?_
  refine R_isub (Dat dd_L_law_c11 7 rfl) ?_
  obtain ⟨g1, T⟩ := T
  obtain ⟨g2, T⟩ := T
  refine R_ic_eq (Dat dd_L_law_c11 8 rfl) rfl g1 g2 (fun c => ?_) (fun c => ?_)
  · replace T := T.1 c
    refine R_iconst (Dat dd_L_law_c11 11 rfl) ?_
    refine R_istore (Dat dd_L_law_c11 12 rfl) rfl rfl ?_
    exact T
  · replace T := T.2 c
    refine R_iconst (Dat dd_L_law_c11 9 rfl) ?_
    exact R_ireturn (Dat dd_L_law_c11 10 rfl) rfl T
theorem t_L_law_1249 {h : Hp} {P : Value → Hp → Prop} {a4 a8 a10 a11 a26 : Int} {a0 a2 a5 a6 a9 : Nat} {a3 a7 a12 a13 a14 a15 a16 a17 a18 a19 a20 a21 a22 a23 a24 a25 a27 : Value} (T : (rng a26) ∧ ((a26 < 19 → (tg h a5 = 20 ∨ tg h a5 = 30) ∧ ((ln h a5 : Int) ≤ 2147483648) ∧ (0 ≤ a26) ∧ (a26 < ln h a5) ∧ (tg h a6 = 20 ∨ tg h a6 = 30) ∧ ((ln h a6 : Int) ≤ 2147483648) ∧ (0 ≤ a26) ∧ (a26 < ln h a6) ∧ (tg h a5 = 20) ∧ ((ln h a5 : Int) ≤ 2147483648) ∧ (0 ≤ a26) ∧ (a26 < ln h a5) ∧ (tg (setI h a5 a26 (wr (iv h a6 a26))) a6 = 20) ∧ ((ln (setI h a5 a26 (wr (iv h a6 a26))) a6 : Int) ≤ 2147483648) ∧ (0 ≤ a26) ∧ (a26 < ln (setI h a5 a26 (wr (iv h a6 a26))) a6) ∧ R 99 1249 [.ref a0, .ref 0, .ref a2, a3, .int (I a4), .ref a5, .ref a6, a7, .int (I a8), .ref a9, .int (I a10), .int (I a11), a12, a13, a14, a15, a16, a17, a18, a19, a20, a21, a22, a23, a24, a25, .int (I (a26 + 1)), .int (I (iv h a5 a26))] [] (setI (setI h a5 a26 (wr (iv h a6 a26))) a6 a26 (wr (iv h a5 a26))) P) ∧ (¬ a26 < 19 → R 99 1286 [.ref a0, .ref 0, .ref a2, a3, .int (I a4), .ref a5, .ref a6, a7, .int (I a8), .ref a9, .int (I a10), .int (I a11), a12, a13, a14, a15, a16, a17, a18, a19, a20, a21, a22, a23, a24, a25, .int (I a26), a27] [] h P))) : R 99 1249 [.ref a0, .ref 0, .ref a2, a3, .int (I a4), .ref a5, .ref a6, a7, .int (I a8), .ref a9, .int (I a10), .int (I a11), a12, a13, a14, a15, a16, a17, a18, a19, a20, a21, a22, a23, a24, a25, .int (I a26), a27] [] h P := by
  refine R_iload (Dat dd_L_law_c11 13 rfl) rfl ?_
  refine R_bipush (Dat dd_L_law_c11 14 rfl) (a := 19) rfl ?_
  obtain ⟨g1, T⟩ := T
  refine R_ic_ge (Dat dd_L_law_c11 15 rfl) rfl g1 (by decide) (fun c => ?_) (fun c => ?_)
  · replace T := T.1 c
    refine R_aload (Dat dd_L_law_c11 16 rfl) rfl rfl ?_
    refine R_iload (Dat dd_L_law_c11 17 rfl) rfl ?_
    obtain ⟨g2, T⟩ := T
    obtain ⟨g3, T⟩ := T
    obtain ⟨g4, T⟩ := T
    obtain ⟨g5, T⟩ := T
    refine R_iaload (Dat dd_L_law_c11 18 rfl) g2 g3 g4 g5 ?_
    refine R_istore (Dat dd_L_law_c11 19 rfl) rfl rfl ?_
    refine R_aload (Dat dd_L_law_c11 20 rfl) rfl rfl ?_
    refine R_iload (Dat dd_L_law_c11 21 rfl) rfl ?_
    refine R_aload (Dat dd_L_law_c11 22 rfl) rfl rfl ?_
    refine R_iload (Dat dd_L_law_c11 23 rfl) rfl ?_
    obtain ⟨g6, T⟩ := T
    obtain ⟨g7, T⟩ := T
    obtain ⟨g8, T⟩ := T
    obtain ⟨g9, T⟩ := T
    refine R_iaload (Dat dd_L_law_c11 24 rfl) g6 g7 g8 g9 ?_
    obtain ⟨g10, T⟩ := T
    obtain ⟨g11, T⟩ := T
    obtain ⟨g12, T⟩ := T
    obtain ⟨g13, T⟩ := T
    refine R_iastore (Dat dd_L_law_c11 25 rfl) g10 g11 g12 g13 (v := wr (iv h a6 a26)) rfl ?_
    refine R_aload (Dat dd_L_law_c11 26 rfl) rfl rfl ?_
    refine R_iload (Dat dd_L_law_c11 27 rfl) rfl ?_
    refine R_iload (Dat dd_L_law_c11 28 rfl) rfl ?_
    obtain ⟨g14, T⟩ := T
    obtain ⟨g15, T⟩ := T
    obtain ⟨g16, T⟩ := T
    obtain ⟨g17, T⟩ := T
    refine R_iastore (Dat dd_L_law_c11 29 rfl) g14 g15 g16 g17 (v := wr (iv h a5 a26)) rfl ?_
    refine R_iinc (Dat dd_L_law_c11 30 rfl) rfl rfl rfl ?_
    refine R_goto (Dat dd_L_law_c11 31 rfl) rfl ?_
    exact T
  · replace T := T.2 c
    exact T
end
section
theorem R_lsw {m pc : Nat} {ls st : List Value} {h : Hp} {P : Value → Hp → Prop} {d off : Int} {ps : Array (Int × Int)} {len t : Nat} {a : Int} (hd : Dd m pc (.lookupswitch d ps) len) (hs : ((ps.toList.zip (ps.toList.drop 1)).all (fun (a, next) => a.1 < next.1)) = true) (ha : rng a) (ho : Op.lookupswitch.offset ps.toList d a = off) (ht : (pc : Int) + off = (t : Int)) (k : R m t ls st h P) : R m pc ls (.int (I a) :: st) h P := R_go hd (fun go call => by
  simp only [stp, i1, I_toInt ha, ho, hs, gd_t]
  exact jmp_go ht) k
theorem lsw_def {d a : Int} : ∀ {ps : List (Int × Int)}, (∀ q ∈ ps, ¬ q.1 = a) → Op.lookupswitch.offset ps d a = d
  | [], _ => rfl
  | (x, o) :: l, h => by
    rw [Op.lookupswitch.offset_cons, if_neg (h _ List.mem_cons_self)]
    exact lsw_def (fun q hq => h q (List.mem_cons_of_mem _ hq))

def dl_Arrays_rangeCheck : List (Nat × Instr × Nat) := [(0, .iload_n 1, 1), (1, .iload_n 2, 1), (2, .if_icmp .le 44, 3), (46, .iload_n 1, 1), (47, .ifCond .ge 12, 3), (59, .iload_n 2, 1), (60, .iload_n 0, 1), (61, .if_icmp .le 12, 3), (73, .return_, 1)]
theorem dd_Arrays_rangeCheck : Dall 60 dl_Arrays_rangeCheck = true := by decide +kernel
theorem t_Arrays_rangeCheck {h : Hp} {P : Value → Hp → Prop} {p0 p1 p2 : Int} (T : (rng p1) ∧ (rng p2) ∧ ((p2 < p1 → False) ∧ (¬ p2 < p1 → (rng p1) ∧ ((p1 < 0 → False) ∧ (¬ p1 < 0 → (rng p2) ∧ (rng p0) ∧ ((p0 < p2 → False) ∧ (¬ p0 < p2 → P .null h))))))) : R 60 0 [.int (I p0), .int (I p1), .int (I p2)] [] h P := by
  refine R_iload_n (Dat dd_Arrays_rangeCheck 0 rfl) rfl ?_
  refine R_iload_n (Dat dd_Arrays_rangeCheck 1 rfl) rfl ?_
  obtain ⟨g1, T⟩ := T
  obtain ⟨g2, T⟩ := T
  refine R_ic_le (Dat dd_Arrays_rangeCheck 2 rfl) rfl g1 g2 (fun c => ?_) (fun c => ?_)
  · replace T := T.1 c
    exact T.elim
  · replace T := T.2 c
    refine R_iload_n (Dat dd_Arrays_rangeCheck 3 rfl) rfl ?_
    obtain ⟨g3, T⟩ := T
    refine R_if_ge (Dat dd_Arrays_rangeCheck 4 rfl) rfl g3  (fun c => ?_) (fun c => ?_)
    · replace T := T.1 c
      exact T.elim
    · replace T := T.2 c
      refine R_iload_n (Dat dd_Arrays_rangeCheck 5 rfl) rfl ?_
      refine R_iload_n (Dat dd_Arrays_rangeCheck 6 rfl) rfl ?_
      obtain ⟨g4, T⟩ := T
      obtain ⟨g5, T⟩ := T
      refine R_ic_le (Dat dd_Arrays_rangeCheck 7 rfl) rfl g4 g5 (fun c => ?_) (fun c => ?_)
      · replace T := T.1 c
        exact T.elim
      · replace T := T.2 c
        exact R_return (Dat dd_Arrays_rangeCheck 8 rfl) rfl T
end
