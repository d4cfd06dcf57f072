section
-- ===== PART A: goes FIRST, ahead of the names: the tables' words, and 'selects' of the private methods out of them =====
/-- a private method of a class that the tables say can be made, by its rows of tables_1 -/
def lw_okq (q : MethodName × Nat) : Prop := (q.1.cls ≠ "java/lang/invoke/MethodHandle" ∧ q.1.cls ≠ "java/lang/invoke/VarHandle") ∧ Cond.instantiable q.1.cls q.2 ∈ tables_1 ∧ Cond.privateMethod q.1 ∈ tables_1 ∧ Cond.instanceMethod q.1 ∈ tables_1
theorem lw_p0 : lw_okq (⟨"NutsUp", "refusalOfCells", "(IIII)I"⟩, 17) := ⟨⟨by decide +kernel, by decide +kernel⟩, List.mem_of_getElem? (i := 19) (by decide +kernel), List.mem_of_getElem? (i := 191) (by decide +kernel), List.mem_of_getElem? (i := 192) (by decide +kernel)⟩
theorem lw_p1 : lw_okq (⟨"NutsUp", "faulted", "(I)I"⟩, 17) := ⟨⟨by decide +kernel, by decide +kernel⟩, List.mem_of_getElem? (i := 19) (by decide +kernel), List.mem_of_getElem? (i := 201) (by decide +kernel), List.mem_of_getElem? (i := 202) (by decide +kernel)⟩
theorem lw_p2 : lw_okq (⟨"NutsUp", "widenRows", "()V"⟩, 17) := ⟨⟨by decide +kernel, by decide +kernel⟩, List.mem_of_getElem? (i := 19) (by decide +kernel), List.mem_of_getElem? (i := 297) (by decide +kernel), List.mem_of_getElem? (i := 298) (by decide +kernel)⟩
theorem lw_p3 : lw_okq (⟨"NutsUp", "noGrain", "(I)Z"⟩, 17) := ⟨⟨by decide +kernel, by decide +kernel⟩, List.mem_of_getElem? (i := 19) (by decide +kernel), List.mem_of_getElem? (i := 311) (by decide +kernel), List.mem_of_getElem? (i := 312) (by decide +kernel)⟩
theorem lw_p4 : lw_okq (⟨"NutsUp$Box", "madeRow", "(I)I"⟩, 5) := ⟨⟨by decide +kernel, by decide +kernel⟩, List.mem_of_getElem? (i := 27) (by decide +kernel), List.mem_of_getElem? (i := 319) (by decide +kernel), List.mem_of_getElem? (i := 320) (by decide +kernel)⟩
theorem lw_p5 : lw_okq (⟨"NutsUp", "noPlace", "(I)Z"⟩, 17) := ⟨⟨by decide +kernel, by decide +kernel⟩, List.mem_of_getElem? (i := 19) (by decide +kernel), List.mem_of_getElem? (i := 335) (by decide +kernel), List.mem_of_getElem? (i := 336) (by decide +kernel)⟩
theorem lw_p6 : lw_okq (⟨"NutsUp", "noBox", "()Z"⟩, 17) := ⟨⟨by decide +kernel, by decide +kernel⟩, List.mem_of_getElem? (i := 19) (by decide +kernel), List.mem_of_getElem? (i := 344) (by decide +kernel), List.mem_of_getElem? (i := 345) (by decide +kernel)⟩
theorem lw_p7 : lw_okq (⟨"NutsUp", "noLie", "(I)Z"⟩, 17) := ⟨⟨by decide +kernel, by decide +kernel⟩, List.mem_of_getElem? (i := 19) (by decide +kernel), List.mem_of_getElem? (i := 352) (by decide +kernel), List.mem_of_getElem? (i := 353) (by decide +kernel)⟩
theorem lw_p8 : lw_okq (⟨"NutsUp", "lawInForce", "()LNutsUp$Law;"⟩, 17) := ⟨⟨by decide +kernel, by decide +kernel⟩, List.mem_of_getElem? (i := 19) (by decide +kernel), List.mem_of_getElem? (i := 446) (by decide +kernel), List.mem_of_getElem? (i := 447) (by decide +kernel)⟩
theorem lw_p9 : lw_okq (⟨"NutsUp", "shakeOnce", "(LNutsUp$Law;I)I"⟩, 17) := ⟨⟨by decide +kernel, by decide +kernel⟩, List.mem_of_getElem? (i := 19) (by decide +kernel), List.mem_of_getElem? (i := 462) (by decide +kernel), List.mem_of_getElem? (i := 463) (by decide +kernel)⟩
theorem lw_p10 : lw_okq (⟨"NutsUp", "motionOf", "(LNutsUp$Law;I)LNutsUp$Motion;"⟩, 17) := ⟨⟨by decide +kernel, by decide +kernel⟩, List.mem_of_getElem? (i := 19) (by decide +kernel), List.mem_of_getElem? (i := 466) (by decide +kernel), List.mem_of_getElem? (i := 467) (by decide +kernel)⟩
theorem lw_p11 : lw_okq (⟨"NutsUp$Rule", "pairsShaken", "(III)I"⟩, 2) := ⟨⟨by decide +kernel, by decide +kernel⟩, List.mem_of_getElem? (i := 74) (by decide +kernel), List.mem_of_getElem? (i := 494) (by decide +kernel), List.mem_of_getElem? (i := 495) (by decide +kernel)⟩
theorem lw_p12 : lw_okq (⟨"NutsUp", "turned", "(I)I"⟩, 17) := ⟨⟨by decide +kernel, by decide +kernel⟩, List.mem_of_getElem? (i := 19) (by decide +kernel), List.mem_of_getElem? (i := 520) (by decide +kernel), List.mem_of_getElem? (i := 521) (by decide +kernel)⟩
theorem lw_p13 : lw_okq (⟨"NutsUp", "spooned", "(I)I"⟩, 17) := ⟨⟨by decide +kernel, by decide +kernel⟩, List.mem_of_getElem? (i := 19) (by decide +kernel), List.mem_of_getElem? (i := 532) (by decide +kernel), List.mem_of_getElem? (i := 533) (by decide +kernel)⟩
theorem lw_p14 : lw_okq (⟨"NutsUp", "soonBy", "(LNutsUp$Rule;II)I"⟩, 17) := ⟨⟨by decide +kernel, by decide +kernel⟩, List.mem_of_getElem? (i := 19) (by decide +kernel), List.mem_of_getElem? (i := 560) (by decide +kernel), List.mem_of_getElem? (i := 561) (by decide +kernel)⟩
theorem lw_p15 : lw_okq (⟨"NutsUp", "measured", "(II)I"⟩, 17) := ⟨⟨by decide +kernel, by decide +kernel⟩, List.mem_of_getElem? (i := 19) (by decide +kernel), List.mem_of_getElem? (i := 582) (by decide +kernel), List.mem_of_getElem? (i := 583) (by decide +kernel)⟩
def lw_privs_1 : List (MethodName × Nat) := [(⟨"NutsUp", "refusalOfCells", "(IIII)I"⟩, 17), (⟨"NutsUp", "faulted", "(I)I"⟩, 17), (⟨"NutsUp", "widenRows", "()V"⟩, 17), (⟨"NutsUp", "noGrain", "(I)Z"⟩, 17), (⟨"NutsUp$Box", "madeRow", "(I)I"⟩, 5), (⟨"NutsUp", "noPlace", "(I)Z"⟩, 17), (⟨"NutsUp", "noBox", "()Z"⟩, 17), (⟨"NutsUp", "noLie", "(I)Z"⟩, 17), (⟨"NutsUp", "lawInForce", "()LNutsUp$Law;"⟩, 17), (⟨"NutsUp", "shakeOnce", "(LNutsUp$Law;I)I"⟩, 17), (⟨"NutsUp", "motionOf", "(LNutsUp$Law;I)LNutsUp$Motion;"⟩, 17), (⟨"NutsUp$Rule", "pairsShaken", "(III)I"⟩, 2), (⟨"NutsUp", "turned", "(I)I"⟩, 17), (⟨"NutsUp", "spooned", "(I)I"⟩, 17), (⟨"NutsUp", "soonBy", "(LNutsUp$Rule;II)I"⟩, 17), (⟨"NutsUp", "measured", "(II)I"⟩, 17)]
theorem lw_r1 : ∀ q ∈ lw_privs_1, lw_okq q := List.forall_mem_cons.mpr ⟨lw_p0, List.forall_mem_cons.mpr ⟨lw_p1, List.forall_mem_cons.mpr ⟨lw_p2, List.forall_mem_cons.mpr ⟨lw_p3, List.forall_mem_cons.mpr ⟨lw_p4, List.forall_mem_cons.mpr ⟨lw_p5, List.forall_mem_cons.mpr ⟨lw_p6, List.forall_mem_cons.mpr ⟨lw_p7, List.forall_mem_cons.mpr ⟨lw_p8, List.forall_mem_cons.mpr ⟨lw_p9, List.forall_mem_cons.mpr ⟨lw_p10, List.forall_mem_cons.mpr ⟨lw_p11, List.forall_mem_cons.mpr ⟨lw_p12, List.forall_mem_cons.mpr ⟨lw_p13, List.forall_mem_cons.mpr ⟨lw_p14, List.forall_mem_cons.mpr ⟨lw_p15, fun _ h => absurd h List.not_mem_nil⟩⟩⟩⟩⟩⟩⟩⟩⟩⟩⟩⟩⟩⟩⟩⟩
theorem lw_p16 : lw_okq (⟨"NutsUp$Box", "sizeIn", "(II)I"⟩, 5) := ⟨⟨by decide +kernel, by decide +kernel⟩, List.mem_of_getElem? (i := 27) (by decide +kernel), List.mem_of_getElem? (i := 590) (by decide +kernel), List.mem_of_getElem? (i := 591) (by decide +kernel)⟩
theorem lw_p17 : lw_okq (⟨"NutsUp", "spread", "(LNutsUp$Law;IIII)V"⟩, 17) := ⟨⟨by decide +kernel, by decide +kernel⟩, List.mem_of_getElem? (i := 19) (by decide +kernel), List.mem_of_getElem? (i := 603) (by decide +kernel), List.mem_of_getElem? (i := 604) (by decide +kernel)⟩
theorem lw_p18 : lw_okq (⟨"NutsUp", "moved", "(LNutsUp$Law;II)I"⟩, 17) := ⟨⟨by decide +kernel, by decide +kernel⟩, List.mem_of_getElem? (i := 19) (by decide +kernel), List.mem_of_getElem? (i := 612) (by decide +kernel), List.mem_of_getElem? (i := 613) (by decide +kernel)⟩
theorem lw_p19 : lw_okq (⟨"NutsUp", "lookFar", "(LNutsUp$Motion;I)V"⟩, 17) := ⟨⟨by decide +kernel, by decide +kernel⟩, List.mem_of_getElem? (i := 19) (by decide +kernel), List.mem_of_getElem? (i := 632) (by decide +kernel), List.mem_of_getElem? (i := 633) (by decide +kernel)⟩
theorem lw_p20 : lw_okq (⟨"NutsUp", "isAsRead", "(I)Z"⟩, 17) := ⟨⟨by decide +kernel, by decide +kernel⟩, List.mem_of_getElem? (i := 19) (by decide +kernel), List.mem_of_getElem? (i := 663) (by decide +kernel), List.mem_of_getElem? (i := 664) (by decide +kernel)⟩
theorem lw_p21 : lw_okq (⟨"NutsUpModel", "against", "(IIII)I"⟩, 37) := ⟨⟨by decide +kernel, by decide +kernel⟩, List.mem_of_getElem? (i := 766) (by decide +kernel), List.mem_of_getElem? (i := 897) (by decide +kernel), List.mem_of_getElem? (i := 898) (by decide +kernel)⟩
theorem lw_p22 : lw_okq (⟨"NutsUpModel", "fails", "(I)I"⟩, 37) := ⟨⟨by decide +kernel, by decide +kernel⟩, List.mem_of_getElem? (i := 766) (by decide +kernel), List.mem_of_getElem? (i := 901) (by decide +kernel), List.mem_of_getElem? (i := 902) (by decide +kernel)⟩
theorem lw_p23 : lw_okq (⟨"NutsUpModel", "readBox", "(I)Z"⟩, 37) := ⟨⟨by decide +kernel, by decide +kernel⟩, List.mem_of_getElem? (i := 766) (by decide +kernel), List.mem_of_getElem? (i := 905) (by decide +kernel), List.mem_of_getElem? (i := 906) (by decide +kernel)⟩
theorem lw_p24 : lw_okq (⟨"NutsUpModel", "isCode", "(II)Z"⟩, 37) := ⟨⟨by decide +kernel, by decide +kernel⟩, List.mem_of_getElem? (i := 766) (by decide +kernel), List.mem_of_getElem? (i := 909) (by decide +kernel), List.mem_of_getElem? (i := 910) (by decide +kernel)⟩
theorem lw_p25 : lw_okq (⟨"NutsUpModel", "digitAt", "(II)I"⟩, 37) := ⟨⟨by decide +kernel, by decide +kernel⟩, List.mem_of_getElem? (i := 766) (by decide +kernel), List.mem_of_getElem? (i := 913) (by decide +kernel), List.mem_of_getElem? (i := 914) (by decide +kernel)⟩
theorem lw_p26 : lw_okq (⟨"NutsUpModel", "isGrain", "(I)Z"⟩, 37) := ⟨⟨by decide +kernel, by decide +kernel⟩, List.mem_of_getElem? (i := 766) (by decide +kernel), List.mem_of_getElem? (i := 921) (by decide +kernel), List.mem_of_getElem? (i := 922) (by decide +kernel)⟩
theorem lw_p27 : lw_okq (⟨"NutsUpModel", "bulk", "(I)I"⟩, 37) := ⟨⟨by decide +kernel, by decide +kernel⟩, List.mem_of_getElem? (i := 766) (by decide +kernel), List.mem_of_getElem? (i := 925) (by decide +kernel), List.mem_of_getElem? (i := 926) (by decide +kernel)⟩
theorem lw_p28 : lw_okq (⟨"NutsUpModel", "heft", "(I)I"⟩, 37) := ⟨⟨by decide +kernel, by decide +kernel⟩, List.mem_of_getElem? (i := 766) (by decide +kernel), List.mem_of_getElem? (i := 929) (by decide +kernel), List.mem_of_getElem? (i := 930) (by decide +kernel)⟩
theorem lw_p29 : lw_okq (⟨"NutsUpModel", "placeOf", "(II)I"⟩, 37) := ⟨⟨by decide +kernel, by decide +kernel⟩, List.mem_of_getElem? (i := 766) (by decide +kernel), List.mem_of_getElem? (i := 933) (by decide +kernel), List.mem_of_getElem? (i := 934) (by decide +kernel)⟩
theorem lw_p30 : lw_okq (⟨"NutsUpModel", "open", "(I)V"⟩, 37) := ⟨⟨by decide +kernel, by decide +kernel⟩, List.mem_of_getElem? (i := 766) (by decide +kernel), List.mem_of_getElem? (i := 937) (by decide +kernel), List.mem_of_getElem? (i := 938) (by decide +kernel)⟩
theorem lw_p31 : lw_okq (⟨"NutsUpModel", "isLie", "(I)Z"⟩, 37) := ⟨⟨by decide +kernel, by decide +kernel⟩, List.mem_of_getElem? (i := 766) (by decide +kernel), List.mem_of_getElem? (i := 956) (by decide +kernel), List.mem_of_getElem? (i := 957) (by decide +kernel)⟩
def lw_privs_2 : List (MethodName × Nat) := [(⟨"NutsUp$Box", "sizeIn", "(II)I"⟩, 5), (⟨"NutsUp", "spread", "(LNutsUp$Law;IIII)V"⟩, 17), (⟨"NutsUp", "moved", "(LNutsUp$Law;II)I"⟩, 17), (⟨"NutsUp", "lookFar", "(LNutsUp$Motion;I)V"⟩, 17), (⟨"NutsUp", "isAsRead", "(I)Z"⟩, 17), (⟨"NutsUpModel", "against", "(IIII)I"⟩, 37), (⟨"NutsUpModel", "fails", "(I)I"⟩, 37), (⟨"NutsUpModel", "readBox", "(I)Z"⟩, 37), (⟨"NutsUpModel", "isCode", "(II)Z"⟩, 37), (⟨"NutsUpModel", "digitAt", "(II)I"⟩, 37), (⟨"NutsUpModel", "isGrain", "(I)Z"⟩, 37), (⟨"NutsUpModel", "bulk", "(I)I"⟩, 37), (⟨"NutsUpModel", "heft", "(I)I"⟩, 37), (⟨"NutsUpModel", "placeOf", "(II)I"⟩, 37), (⟨"NutsUpModel", "open", "(I)V"⟩, 37), (⟨"NutsUpModel", "isLie", "(I)Z"⟩, 37)]
theorem lw_r2 : ∀ q ∈ lw_privs_2, lw_okq q := List.forall_mem_cons.mpr ⟨lw_p16, List.forall_mem_cons.mpr ⟨lw_p17, List.forall_mem_cons.mpr ⟨lw_p18, List.forall_mem_cons.mpr ⟨lw_p19, List.forall_mem_cons.mpr ⟨lw_p20, List.forall_mem_cons.mpr ⟨lw_p21, List.forall_mem_cons.mpr ⟨lw_p22, List.forall_mem_cons.mpr ⟨lw_p23, List.forall_mem_cons.mpr ⟨lw_p24, List.forall_mem_cons.mpr ⟨lw_p25, List.forall_mem_cons.mpr ⟨lw_p26, List.forall_mem_cons.mpr ⟨lw_p27, List.forall_mem_cons.mpr ⟨lw_p28, List.forall_mem_cons.mpr ⟨lw_p29, List.forall_mem_cons.mpr ⟨lw_p30, List.forall_mem_cons.mpr ⟨lw_p31, fun _ h => absurd h List.not_mem_nil⟩⟩⟩⟩⟩⟩⟩⟩⟩⟩⟩⟩⟩⟩⟩⟩
theorem lw_p32 : lw_okq (⟨"NutsUpModel", "readLaw", "(I)Z"⟩, 37) := ⟨⟨by decide +kernel, by decide +kernel⟩, List.mem_of_getElem? (i := 766) (by decide +kernel), List.mem_of_getElem? (i := 968) (by decide +kernel), List.mem_of_getElem? (i := 969) (by decide +kernel)⟩
theorem lw_p33 : lw_okq (⟨"NutsUpModel", "isLaw", "(I)Z"⟩, 37) := ⟨⟨by decide +kernel, by decide +kernel⟩, List.mem_of_getElem? (i := 766) (by decide +kernel), List.mem_of_getElem? (i := 979) (by decide +kernel), List.mem_of_getElem? (i := 980) (by decide +kernel)⟩
theorem lw_p34 : lw_okq (⟨"NutsUpModel", "ruling", "(IIIII)I"⟩, 37) := ⟨⟨by decide +kernel, by decide +kernel⟩, List.mem_of_getElem? (i := 766) (by decide +kernel), List.mem_of_getElem? (i := 994) (by decide +kernel), List.mem_of_getElem? (i := 995) (by decide +kernel)⟩
theorem lw_p35 : lw_okq (⟨"NutsUpModel", "isSo", "(IIIII)Z"⟩, 37) := ⟨⟨by decide +kernel, by decide +kernel⟩, List.mem_of_getElem? (i := 766) (by decide +kernel), List.mem_of_getElem? (i := 998) (by decide +kernel), List.mem_of_getElem? (i := 999) (by decide +kernel)⟩
theorem lw_p36 : lw_okq (⟨"NutsUpModel", "shaken", "(II)V"⟩, 37) := ⟨⟨by decide +kernel, by decide +kernel⟩, List.mem_of_getElem? (i := 766) (by decide +kernel), List.mem_of_getElem? (i := 1006) (by decide +kernel), List.mem_of_getElem? (i := 1007) (by decide +kernel)⟩
theorem lw_p37 : lw_okq (⟨"NutsUpModel", "pair", "(III)V"⟩, 37) := ⟨⟨by decide +kernel, by decide +kernel⟩, List.mem_of_getElem? (i := 766) (by decide +kernel), List.mem_of_getElem? (i := 1010) (by decide +kernel), List.mem_of_getElem? (i := 1011) (by decide +kernel)⟩
theorem lw_p38 : lw_okq (⟨"NutsUpModel", "closed", "()I"⟩, 37) := ⟨⟨by decide +kernel, by decide +kernel⟩, List.mem_of_getElem? (i := 766) (by decide +kernel), List.mem_of_getElem? (i := 1014) (by decide +kernel), List.mem_of_getElem? (i := 1015) (by decide +kernel)⟩
theorem lw_p39 : lw_okq (⟨"NutsUpModel", "areHard", "(II)Z"⟩, 37) := ⟨⟨by decide +kernel, by decide +kernel⟩, List.mem_of_getElem? (i := 766) (by decide +kernel), List.mem_of_getElem? (i := 1022) (by decide +kernel), List.mem_of_getElem? (i := 1023) (by decide +kernel)⟩
theorem lw_p40 : lw_okq (⟨"NutsUpModel", "turned", "(I)I"⟩, 37) := ⟨⟨by decide +kernel, by decide +kernel⟩, List.mem_of_getElem? (i := 766) (by decide +kernel), List.mem_of_getElem? (i := 1030) (by decide +kernel), List.mem_of_getElem? (i := 1031) (by decide +kernel)⟩
theorem lw_p41 : lw_okq (⟨"NutsUpModel", "spooned", "(I)I"⟩, 37) := ⟨⟨by decide +kernel, by decide +kernel⟩, List.mem_of_getElem? (i := 766) (by decide +kernel), List.mem_of_getElem? (i := 1038) (by decide +kernel), List.mem_of_getElem? (i := 1039) (by decide +kernel)⟩
theorem lw_p42 : lw_okq (⟨"NutsUpModel", "nextOf", "(III)I"⟩, 37) := ⟨⟨by decide +kernel, by decide +kernel⟩, List.mem_of_getElem? (i := 766) (by decide +kernel), List.mem_of_getElem? (i := 1046) (by decide +kernel), List.mem_of_getElem? (i := 1047) (by decide +kernel)⟩
theorem lw_p43 : lw_okq (⟨"NutsUpModel", "clearMet", "()V"⟩, 37) := ⟨⟨by decide +kernel, by decide +kernel⟩, List.mem_of_getElem? (i := 766) (by decide +kernel), List.mem_of_getElem? (i := 1054) (by decide +kernel), List.mem_of_getElem? (i := 1055) (by decide +kernel)⟩
theorem lw_p44 : lw_okq (⟨"NutsUpModel", "whySoon", "(III)I"⟩, 37) := ⟨⟨by decide +kernel, by decide +kernel⟩, List.mem_of_getElem? (i := 766) (by decide +kernel), List.mem_of_getElem? (i := 1062) (by decide +kernel), List.mem_of_getElem? (i := 1063) (by decide +kernel)⟩
theorem lw_p45 : lw_okq (⟨"NutsUpModel", "soonOf", "(III)I"⟩, 37) := ⟨⟨by decide +kernel, by decide +kernel⟩, List.mem_of_getElem? (i := 766) (by decide +kernel), List.mem_of_getElem? (i := 1066) (by decide +kernel), List.mem_of_getElem? (i := 1067) (by decide +kernel)⟩
theorem lw_p46 : lw_okq (⟨"NutsUpModel", "isOnTop", "(II)Z"⟩, 37) := ⟨⟨by decide +kernel, by decide +kernel⟩, List.mem_of_getElem? (i := 766) (by decide +kernel), List.mem_of_getElem? (i := 1070) (by decide +kernel), List.mem_of_getElem? (i := 1071) (by decide +kernel)⟩
theorem lw_p47 : lw_okq (⟨"NutsUpModel", "valueOf", "(II)I"⟩, 37) := ⟨⟨by decide +kernel, by decide +kernel⟩, List.mem_of_getElem? (i := 766) (by decide +kernel), List.mem_of_getElem? (i := 1082) (by decide +kernel), List.mem_of_getElem? (i := 1083) (by decide +kernel)⟩
def lw_privs_3 : List (MethodName × Nat) := [(⟨"NutsUpModel", "readLaw", "(I)Z"⟩, 37), (⟨"NutsUpModel", "isLaw", "(I)Z"⟩, 37), (⟨"NutsUpModel", "ruling", "(IIIII)I"⟩, 37), (⟨"NutsUpModel", "isSo", "(IIIII)Z"⟩, 37), (⟨"NutsUpModel", "shaken", "(II)V"⟩, 37), (⟨"NutsUpModel", "pair", "(III)V"⟩, 37), (⟨"NutsUpModel", "closed", "()I"⟩, 37), (⟨"NutsUpModel", "areHard", "(II)Z"⟩, 37), (⟨"NutsUpModel", "turned", "(I)I"⟩, 37), (⟨"NutsUpModel", "spooned", "(I)I"⟩, 37), (⟨"NutsUpModel", "nextOf", "(III)I"⟩, 37), (⟨"NutsUpModel", "clearMet", "()V"⟩, 37), (⟨"NutsUpModel", "whySoon", "(III)I"⟩, 37), (⟨"NutsUpModel", "soonOf", "(III)I"⟩, 37), (⟨"NutsUpModel", "isOnTop", "(II)Z"⟩, 37), (⟨"NutsUpModel", "valueOf", "(II)I"⟩, 37)]
theorem lw_r3 : ∀ q ∈ lw_privs_3, lw_okq q := List.forall_mem_cons.mpr ⟨lw_p32, List.forall_mem_cons.mpr ⟨lw_p33, List.forall_mem_cons.mpr ⟨lw_p34, List.forall_mem_cons.mpr ⟨lw_p35, List.forall_mem_cons.mpr ⟨lw_p36, List.forall_mem_cons.mpr ⟨lw_p37, List.forall_mem_cons.mpr ⟨lw_p38, List.forall_mem_cons.mpr ⟨lw_p39, List.forall_mem_cons.mpr ⟨lw_p40, List.forall_mem_cons.mpr ⟨lw_p41, List.forall_mem_cons.mpr ⟨lw_p42, List.forall_mem_cons.mpr ⟨lw_p43, List.forall_mem_cons.mpr ⟨lw_p44, List.forall_mem_cons.mpr ⟨lw_p45, List.forall_mem_cons.mpr ⟨lw_p46, List.forall_mem_cons.mpr ⟨lw_p47, fun _ h => absurd h List.not_mem_nil⟩⟩⟩⟩⟩⟩⟩⟩⟩⟩⟩⟩⟩⟩⟩⟩
theorem lw_p48 : lw_okq (⟨"NutsUpModel", "search", "(III)V"⟩, 37) := ⟨⟨by decide +kernel, by decide +kernel⟩, List.mem_of_getElem? (i := 766) (by decide +kernel), List.mem_of_getElem? (i := 1090) (by decide +kernel), List.mem_of_getElem? (i := 1091) (by decide +kernel)⟩
theorem lw_p49 : lw_okq (⟨"NutsUpModel", "comes", "(III)V"⟩, 37) := ⟨⟨by decide +kernel, by decide +kernel⟩, List.mem_of_getElem? (i := 766) (by decide +kernel), List.mem_of_getElem? (i := 1094) (by decide +kernel), List.mem_of_getElem? (i := 1095) (by decide +kernel)⟩
theorem lw_p50 : lw_okq (⟨"NutsUpModel", "actOf", "(II)I"⟩, 37) := ⟨⟨by decide +kernel, by decide +kernel⟩, List.mem_of_getElem? (i := 766) (by decide +kernel), List.mem_of_getElem? (i := 1098) (by decide +kernel), List.mem_of_getElem? (i := 1099) (by decide +kernel)⟩
theorem lw_p51 : lw_okq (⟨"NutsUpModel", "layGoes", "(II)V"⟩, 37) := ⟨⟨by decide +kernel, by decide +kernel⟩, List.mem_of_getElem? (i := 766) (by decide +kernel), List.mem_of_getElem? (i := 1110) (by decide +kernel), List.mem_of_getElem? (i := 1111) (by decide +kernel)⟩
theorem lw_p52 : lw_okq (⟨"NutsUpModel", "isRead", "()Z"⟩, 37) := ⟨⟨by decide +kernel, by decide +kernel⟩, List.mem_of_getElem? (i := 766) (by decide +kernel), List.mem_of_getElem? (i := 1138) (by decide +kernel), List.mem_of_getElem? (i := 1139) (by decide +kernel)⟩
theorem lw_p53 : lw_okq (⟨"NutsUpModel", "lost", "(I)J"⟩, 37) := ⟨⟨by decide +kernel, by decide +kernel⟩, List.mem_of_getElem? (i := 766) (by decide +kernel), List.mem_of_getElem? (i := 1166) (by decide +kernel), List.mem_of_getElem? (i := 1167) (by decide +kernel)⟩
theorem lw_p54 : lw_okq (⟨"NutsUpModel", "begins", "(I)V"⟩, 37) := ⟨⟨by decide +kernel, by decide +kernel⟩, List.mem_of_getElem? (i := 766) (by decide +kernel), List.mem_of_getElem? (i := 1178) (by decide +kernel), List.mem_of_getElem? (i := 1179) (by decide +kernel)⟩
def lw_privs_4 : List (MethodName × Nat) := [(⟨"NutsUpModel", "search", "(III)V"⟩, 37), (⟨"NutsUpModel", "comes", "(III)V"⟩, 37), (⟨"NutsUpModel", "actOf", "(II)I"⟩, 37), (⟨"NutsUpModel", "layGoes", "(II)V"⟩, 37), (⟨"NutsUpModel", "isRead", "()Z"⟩, 37), (⟨"NutsUpModel", "lost", "(I)J"⟩, 37), (⟨"NutsUpModel", "begins", "(I)V"⟩, 37)]
theorem lw_r4 : ∀ q ∈ lw_privs_4, lw_okq q := List.forall_mem_cons.mpr ⟨lw_p48, List.forall_mem_cons.mpr ⟨lw_p49, List.forall_mem_cons.mpr ⟨lw_p50, List.forall_mem_cons.mpr ⟨lw_p51, List.forall_mem_cons.mpr ⟨lw_p52, List.forall_mem_cons.mpr ⟨lw_p53, List.forall_mem_cons.mpr ⟨lw_p54, fun _ h => absurd h List.not_mem_nil⟩⟩⟩⟩⟩⟩⟩
def lw_privs : List (MethodName × Nat) := lw_privs_1 ++ (lw_privs_2 ++ (lw_privs_3 ++ (lw_privs_4)))
def lw_tbl : List Cond := k2_sels lw_privs ++ tables_1
theorem lw_privs_ok : ∀ q ∈ lw_privs, lw_okq q := by
  show ∀ q ∈ lw_privs_1 ++ (lw_privs_2 ++ (lw_privs_3 ++ (lw_privs_4))), lw_okq q
  exact List.forall_mem_append.mpr ⟨lw_r1, List.forall_mem_append.mpr ⟨lw_r2, List.forall_mem_append.mpr ⟨lw_r3, lw_r4⟩⟩⟩
-- ===== end of PART A; what follows is written by wip/whole/mk01.py
/-- classes: name, fields (declaring one, name, descriptor, final), types, which are references -/
def clsL : List (String × List (String × String × String × Bool) × List FieldType × List Bool) := [
  ("NutsUp$Box", [("NutsUp$Box", "grains", "[LNutsUp$Grain;", true), ("NutsUp$Box", "count", "I", false), ("NutsUp$Box", "lies", "I", false), ("NutsUp$Box", "number", "I", false), ("NutsUp$Box", "rows", "[I", false)], [(.array (.object "NutsUp$Grain")), .int, .int, .int, (.array .int)], [true, false, false, false, true]),
  ("NutsUp$Cause", [("NutsUp$Cause", "letter", "I", true), ("NutsUp$Cause", "digit", "I", true), ("NutsUp$Cause", "hard", "I", true)], [.int, .int, .int], [false, false, false]),
  ("NutsUp$Grain", [("NutsUp$Grain", "number", "I", true), ("NutsUp$Grain", "kind", "I", true), ("NutsUp$Grain", "size", "I", true), ("NutsUp$Grain", "weight", "I", true), ("NutsUp$Grain", "bulk", "I", true), ("NutsUp$Grain", "heft", "I", true)], [.int, .int, .int, .int, .int, .int], [false, false, false, false, false, false]),
  ("NutsUp$Law", [("NutsUp$Law", "causes", "[LNutsUp$Cause;", true), ("NutsUp$Law", "motions", "[LNutsUp$Motion;", true)], [(.array (.object "NutsUp$Cause")), (.array (.object "NutsUp$Motion"))], [true, true]),
  ("NutsUp$LongGrain", [("NutsUp$Grain", "number", "I", true), ("NutsUp$Grain", "kind", "I", true), ("NutsUp$Grain", "size", "I", true), ("NutsUp$Grain", "weight", "I", true), ("NutsUp$Grain", "bulk", "I", true), ("NutsUp$Grain", "heft", "I", true)], [.int, .int, .int, .int, .int, .int], [false, false, false, false, false, false]),
  ("NutsUp$Motion", [("NutsUp$Motion", "rule", "LNutsUp$Rule;", true), ("NutsUp$Motion", "nexts", "[I", false), ("NutsUp$Motion", "boxNumber", "I", false)], [(.object "NutsUp$Rule"), (.array .int), .int], [true, true, false]),
  ("NutsUp$OilyGrain", [("NutsUp$Grain", "number", "I", true), ("NutsUp$Grain", "kind", "I", true), ("NutsUp$Grain", "size", "I", true), ("NutsUp$Grain", "weight", "I", true), ("NutsUp$Grain", "bulk", "I", true), ("NutsUp$Grain", "heft", "I", true)], [.int, .int, .int, .int, .int, .int], [false, false, false, false, false, false]),
  ("NutsUp$Rule", [("NutsUp$Rule", "changing", "[I", true), ("NutsUp$Rule", "changes", "I", false)], [(.array .int), .int], [true, false]),
  ("NutsUp$Search", [("NutsUp$Search", "queue", "[I", false), ("NutsUp$Search", "depth", "[I", false), ("NutsUp$Search", "cameFrom", "[I", false), ("NutsUp$Search", "cameBy", "[I", false), ("NutsUp$Search", "found", "I", false)], [(.array .int), (.array .int), (.array .int), (.array .int), .int], [true, true, true, true, false]),
  ("NutsUp$Sheet", [("NutsUp$Sheet", "cells", "[I", true), ("NutsUp$Sheet", "held", "Z", false), ("NutsUp$Sheet", "sort", "I", false), ("NutsUp$Sheet", "length", "I", false)], [(.array .int), .boolean, .int, .int], [true, false, false, false]),
  ("NutsUp$Trail", [("NutsUp$Trail", "sum", "I", false)], [.int], [false]),
  ("NutsUp", [("NutsUp", "box", "LNutsUp$Box;", true), ("NutsUp", "laws", "[LNutsUp$Law;", true), ("NutsUp", "lawCount", "I", false), ("NutsUp", "inForce", "I", false), ("NutsUp", "lieNow", "I", false), ("NutsUp", "shakes", "I", false), ("NutsUp", "readGrains", "[I", true), ("NutsUp", "readPlaces", "[I", true), ("NutsUp", "readings", "I", false), ("NutsUp", "sheets", "[LNutsUp$Sheet;", true), ("NutsUp", "trail", "LNutsUp$Trail;", true), ("NutsUp", "latestFault", "I", false), ("NutsUp", "spareRule", "LNutsUp$Rule;", true), ("NutsUp", "search", "LNutsUp$Search;", true), ("NutsUp", "far", "[I", false), ("NutsUp", "leap", "[I", false), ("NutsUp", "marks", "[I", false)], [(.object "NutsUp$Box"), (.array (.object "NutsUp$Law")), .int, .int, .int, .int, (.array .int), (.array .int), .int, (.array (.object "NutsUp$Sheet")), (.object "NutsUp$Trail"), .int, (.object "NutsUp$Rule"), (.object "NutsUp$Search"), (.array .int), (.array .int), (.array .int)], [true, true, false, false, false, false, true, true, false, true, true, false, true, true, true, true, true]),
  ("NutsUpModel", [("NutsUpModel", "fault", "I", false), ("NutsUpModel", "trace", "I", false), ("NutsUpModel", "sorts", "[I", true), ("NutsUpModel", "sheetLong", "[I", true), ("NutsUpModel", "cells", "[I", true), ("NutsUpModel", "grains", "I", false), ("NutsUpModel", "lies", "I", false), ("NutsUpModel", "lieNow", "I", false), ("NutsUpModel", "shakes", "I", false), ("NutsUpModel", "size", "[I", true), ("NutsUpModel", "weight", "[I", true), ("NutsUpModel", "kind", "[I", true), ("NutsUpModel", "at", "I", false), ("NutsUpModel", "readMany", "I", false), ("NutsUpModel", "readA", "[I", true), ("NutsUpModel", "readB", "[I", true), ("NutsUpModel", "readC", "[I", true), ("NutsUpModel", "row", "[I", true), ("NutsUpModel", "laws", "I", false), ("NutsUpModel", "inForce", "I", false), ("NutsUpModel", "lawMany", "[I", true), ("NutsUpModel", "lawLetter", "[I", true), ("NutsUpModel", "lawNumber", "[I", true), ("NutsUpModel", "lawHard", "[I", true), ("NutsUpModel", "leftOut", "I", false), ("NutsUpModel", "readCauses", "[I", true), ("NutsUpModel", "changes", "I", false), ("NutsUpModel", "met", "[I", true), ("NutsUpModel", "queue", "[I", true), ("NutsUpModel", "from", "[I", true), ("NutsUpModel", "by", "[I", true), ("NutsUpModel", "queued", "I", false), ("NutsUpModel", "goes", "[I", true), ("NutsUpModel", "is", "[I", true), ("NutsUpModel", "readings", "I", false), ("NutsUpModel", "readGrain", "[I", true), ("NutsUpModel", "readPlace", "[I", true)], [.int, .int, (.array .int), (.array .int), (.array .int), .int, .int, .int, .int, (.array .int), (.array .int), (.array .int), .int, .int, (.array .int), (.array .int), (.array .int), (.array .int), .int, .int, (.array .int), (.array .int), (.array .int), (.array .int), .int, (.array .int), .int, (.array .int), (.array .int), (.array .int), (.array .int), .int, (.array .int), (.array .int), .int, (.array .int), (.array .int)], [false, false, true, true, true, false, false, false, false, true, true, true, false, false, true, true, true, true, false, false, true, true, true, true, false, true, false, true, true, true, true, false, true, true, false, true, true])]
def cR (ci : Nat) : String × List (String × String × String × Bool) × List FieldType × List Bool := (clsL[ci]?).getD ("", [], [], [])
def cn (ci : Nat) : String := (cR ci).1
def cT (ci : Nat) : u_T := fun k => ((cR ci).2.1[k]?).getD ("", "", "", false)
def cSz (ci : Nat) : Nat := (cR ci).2.1.length
def cTy (ci k : Nat) : FieldType := ((cR ci).2.2.1[k]?).getD .int
def rfs (ci k : Nat) : Bool := ((cR ci).2.2.2[k]?).getD false
abbrev classes : List vw_C := (List.range 13).map (fun ci => (cn ci, cT ci, cSz ci))
def onL : List String := ["NutsUp$Box", "NutsUp$Cause", "NutsUp$Grain", "NutsUp$Law", "NutsUp$LongGrain", "NutsUp$Motion", "NutsUp$OilyGrain", "NutsUp$Rule", "NutsUp$Search", "NutsUp$Sheet", "NutsUp$Trail", "NutsUp", "NutsUpModel", "NutsUpLaw", "java/lang/Object", "java/lang/Integer", "java/lang/Math", "java/lang/System", "java/util/Arrays"]
def on (o : Nat) : String := (onL[o]?).getD ""
def mtab0 : List (Nat × String × String × ByteArray × Nat × Option FieldType × Nat × Nat × Nat × Nat × Bool) := [
  (11, "<init>", "()V", prog_1_method_1_code, 2, none, 0, 2, 40, 77, true),
  (14, "<init>", "()V", object_method_1_code, 1, none, 0, 0, 0, 80, false),
  (0, "<init>", "()V", prog_2_method_1_code, 1, none, 0, 1, 20, 85, true),
  (10, "<init>", "()V", prog_12_method_1_code, 1, none, 0, 1, 20, 121, false),
  (7, "<init>", "()V", prog_9_method_1_code, 1, none, 0, 1, 20, 132, true),
  (8, "<init>", "()V", prog_10_method_1_code, 1, none, 0, 1, 20, 146, true),
  (9, "<init>", "()V", prog_11_method_1_code, 1, none, 0, 1, 20, 170, true),
  (11, "box", "(IIII)I", prog_1_method_2_code, 8, some Jvm.ClassFile.FieldType.int, 4, 6, 143, 244, true),
  (11, "refusalOfCells", "(IIII)I", prog_1_method_49_code, 6, some Jvm.ClassFile.FieldType.int, 4, 1, 22, 248, false),
  (11, "noSheet", "(I)Z", prog_1_method_47_code, 1, some Jvm.ClassFile.FieldType.boolean, 1, 0, 0, 251, false),
  (11, "noSort", "(I)Z", prog_1_method_48_code, 1, some Jvm.ClassFile.FieldType.boolean, 1, 0, 0, 254, false),
  (11, "faulted", "(I)I", prog_1_method_50_code, 2, some Jvm.ClassFile.FieldType.int, 1, 0, 0, 258, false),
  (9, "hasNot", "(II)Z", prog_11_method_4_code, 3, some Jvm.ClassFile.FieldType.boolean, 2, 0, 0, 262, false),
  (0, "firstFault", "([III)I", prog_2_method_2_code, 6, some Jvm.ClassFile.FieldType.int, 3, 1, 22, 265, false),
  (0, "stateBehind", "(III)I", prog_2_method_3_code, 3, some Jvm.ClassFile.FieldType.int, 3, 0, 0, 268, false),
  (0, "fill", "([III)V", prog_2_method_4_code, 7, none, 3, 5, 117, 272, true),
  (0, "kindAt", "([III)I", prog_2_method_5_code, 3, some Jvm.ClassFile.FieldType.int, 3, 0, 0, 275, false),
  (0, "grainOf", "(IIII)LNutsUp$Grain;", prog_2_method_6_code, 4, some (Jvm.ClassFile.FieldType.object "NutsUp$Grain"), 4, 4, 94, 278, true),
  (2, "<init>", "(III)V", prog_4_method_1_code, 4, none, 3, 2, 46, 282, false),
  (2, "<init>", "(IIIIII)V", prog_4_method_2_code, 7, none, 6, 1, 20, 285, false),
  (4, "<init>", "(III)V", prog_6_method_1_code, 4, none, 3, 2, 46, 319, false),
  (6, "<init>", "(III)V", prog_8_method_1_code, 4, none, 3, 3, 71, 332, false),
  (4, "<init>", "(IIIII)V", prog_6_method_2_code, 6, none, 5, 2, 46, 335, false),
  (11, "wideEnough", "([II)[I", prog_1_method_54_code, 2, some (Jvm.ClassFile.FieldType.array Jvm.ClassFile.FieldType.int), 2, 0, 0, 347, true),
  (18, "fill", "([II)V", prog_18_method_103_code, 4, none, 2, 0, 0, 350, false),
  (11, "widenRows", "()V", prog_1_method_53_code, 1, none, 0, 2, 42, 354, true),
  (8, "widen", "(I)V", prog_10_method_2_code, 2, none, 1, 1, 21, 359, true),
  (11, "ofGrain", "(II)I", prog_1_method_3_code, 4, some Jvm.ClassFile.FieldType.int, 2, 2, 48, 364, false),
  (11, "noGrain", "(I)Z", prog_1_method_43_code, 2, some Jvm.ClassFile.FieldType.boolean, 1, 0, 0, 368, false),
  (0, "rowOf", "(I)I", prog_2_method_8_code, 2, some Jvm.ClassFile.FieldType.int, 1, 1, 27, 372, false),
  (0, "madeRow", "(I)I", prog_2_method_9_code, 8, some Jvm.ClassFile.FieldType.int, 1, 0, 0, 376, false),
  (0, "placeOf", "(II)I", prog_2_method_11_code, 4, some Jvm.ClassFile.FieldType.int, 2, 1, 21, 381, false),
  (0, "grainIn", "(II)I", prog_2_method_7_code, 2, some Jvm.ClassFile.FieldType.int, 2, 0, 0, 384, false),
  (11, "at", "(I)I", prog_1_method_4_code, 2, some Jvm.ClassFile.FieldType.int, 1, 2, 48, 388, false),
  (11, "noPlace", "(I)Z", prog_1_method_44_code, 2, some Jvm.ClassFile.FieldType.boolean, 1, 0, 0, 392, false),
  (11, "lie", "()I", prog_1_method_5_code, 1, some Jvm.ClassFile.FieldType.int, 0, 1, 20, 397, false),
  (11, "noBox", "()Z", prog_1_method_42_code, 1, some Jvm.ClassFile.FieldType.boolean, 0, 0, 0, 401, false),
  (11, "lay", "(I)I", prog_1_method_6_code, 3, some Jvm.ClassFile.FieldType.int, 1, 1, 21, 405, false),
  (11, "noLie", "(I)Z", prog_1_method_45_code, 2, some Jvm.ClassFile.FieldType.boolean, 1, 0, 0, 409, false),
  (11, "of", "(II)I", prog_1_method_7_code, 3, some Jvm.ClassFile.FieldType.int, 2, 2, 48, 413, false),
  (11, "law", "(IIII)I", prog_1_method_8_code, 8, some Jvm.ClassFile.FieldType.int, 4, 4, 85, 417, true),
  (3, "firstFault", "([III)I", prog_5_method_2_code, 4, some Jvm.ClassFile.FieldType.int, 3, 2, 42, 420, false),
  (3, "goesOn", "(II)Z", prog_5_method_3_code, 2, some Jvm.ClassFile.FieldType.boolean, 2, 1, 21, 423, false),
  (1, "letterOf", "(I)I", prog_3_method_2_code, 2, some Jvm.ClassFile.FieldType.int, 1, 0, 0, 426, false),
  (3, "<init>", "([III)V", prog_5_method_1_code, 6, none, 3, 3, 60, 432, true),
  (1, "<init>", "(III)V", prog_3_method_1_code, 4, none, 3, 1, 20, 441, false),
  (5, "<init>", "()V", prog_7_method_1_code, 1, none, 0, 2, 40, 460, true),
  (11, "ofCause", "(III)I", prog_1_method_9_code, 5, some Jvm.ClassFile.FieldType.int, 3, 0, 0, 488, false),
  (11, "use", "(I)I", prog_1_method_10_code, 3, some Jvm.ClassFile.FieldType.int, 1, 0, 0, 492, false),
  (11, "cause", "(IIII)I", prog_1_method_11_code, 6, some Jvm.ClassFile.FieldType.int, 4, 2, 49, 496, false),
  (11, "noHard", "(I)Z", prog_1_method_46_code, 1, some Jvm.ClassFile.FieldType.boolean, 1, 0, 0, 499, false),
  (11, "lawInForce", "()LNutsUp$Law;", prog_1_method_52_code, 1, some (Jvm.ClassFile.FieldType.object "NutsUp$Law"), 0, 0, 0, 503, false),
  (3, "ruling", "(LNutsUp$Grain;LNutsUp$Grain;III)I", prog_5_method_4_code, 7, some Jvm.ClassFile.FieldType.int, 5, 1, 23, 507, false),
  (1, "isSo", "(LNutsUp$Grain;LNutsUp$Grain;I)Z", prog_3_method_3_code, 4, some Jvm.ClassFile.FieldType.boolean, 3, 0, 0, 511, false),
  (11, "shake", "(II)I", prog_1_method_12_code, 6, some Jvm.ClassFile.FieldType.int, 2, 5, 123, 515, true),
  (11, "shakeOnce", "(LNutsUp$Law;I)I", prog_1_method_56_code, 4, some Jvm.ClassFile.FieldType.int, 2, 4, 100, 519, true),
  (11, "motionOf", "(LNutsUp$Law;I)LNutsUp$Motion;", prog_1_method_55_code, 4, some (Jvm.ClassFile.FieldType.object "NutsUp$Motion"), 2, 3, 77, 523, true),
  (7, "learn", "(LNutsUp$Box;LNutsUp$Law;II)V", prog_9_method_2_code, 9, none, 4, 2, 49, 527, false),
  (1, "makesChange", "()Z", prog_3_method_4_code, 1, some Jvm.ClassFile.FieldType.boolean, 0, 0, 0, 532, false),
  (5, "forget", "(I)V", prog_7_method_2_code, 2, none, 1, 2, 46, 536, true),
  (18, "fill", "([IIII)V", prog_18_method_104_code, 5, none, 4, 1, 22, 540, false),
  (18, "rangeCheck", "(III)V", prog_18_method_30_code, 3, none, 3, 0, 0, 543, false),
  (7, "shaken", "(II)I", prog_9_method_3_code, 3, some Jvm.ClassFile.FieldType.int, 2, 2, 48, 547, false),
  (7, "pairsShaken", "(III)I", prog_9_method_4_code, 8, some Jvm.ClassFile.FieldType.int, 3, 1, 21, 551, false),
  (0, "lieOf", "(I)I", prog_2_method_10_code, 6, some Jvm.ClassFile.FieldType.int, 1, 1, 21, 556, false),
  (15, "bitCount", "(I)I", prog_15_method_49_code, 1, some Jvm.ClassFile.FieldType.int, 1, 0, 0, 559, false),
  (11, "doing", "(IIII)I", prog_1_method_13_code, 10, some Jvm.ClassFile.FieldType.int, 4, 5, 123, 566, true),
  (11, "allHard", "([III)Z", prog_1_method_51_code, 4, some Jvm.ClassFile.FieldType.boolean, 3, 1, 20, 569, false),
  (11, "turn", "()I", prog_1_method_14_code, 1, some Jvm.ClassFile.FieldType.int, 0, 3, 69, 573, false),
  (11, "turned", "(I)I", prog_1_method_57_code, 2, some Jvm.ClassFile.FieldType.int, 1, 2, 48, 577, false)]
def mtab1 : List (Nat × String × String × ByteArray × Nat × Option FieldType × Nat × Nat × Nat × Nat × Bool) := [
  (0, "turnedRow", "(I)I", prog_2_method_12_code, 4, some Jvm.ClassFile.FieldType.int, 1, 1, 21, 581, false),
  (11, "spoon", "()I", prog_1_method_15_code, 2, some Jvm.ClassFile.FieldType.int, 0, 3, 69, 585, false),
  (11, "spooned", "(I)I", prog_1_method_58_code, 2, some Jvm.ClassFile.FieldType.int, 1, 2, 48, 589, false),
  (0, "spoonedRow", "(I)I", prog_2_method_13_code, 2, some Jvm.ClassFile.FieldType.int, 1, 1, 21, 593, false),
  (11, "next", "(II)I", prog_1_method_16_code, 4, some Jvm.ClassFile.FieldType.int, 2, 4, 100, 597, true),
  (5, "after", "(LNutsUp$Box;I)I", prog_7_method_3_code, 3, some Jvm.ClassFile.FieldType.int, 2, 3, 70, 601, false),
  (11, "still", "(III)I", prog_1_method_17_code, 8, some Jvm.ClassFile.FieldType.int, 3, 4, 100, 608, true),
  (11, "soon", "(III)I", prog_1_method_18_code, 5, some Jvm.ClassFile.FieldType.int, 3, 4, 100, 613, true),
  (11, "soonBy", "(LNutsUp$Rule;II)I", prog_1_method_60_code, 7, some Jvm.ClassFile.FieldType.int, 3, 3, 70, 617, false),
  (11, "isTimeToMark", "(I)Z", prog_1_method_61_code, 1, some Jvm.ClassFile.FieldType.boolean, 1, 0, 0, 620, false),
  (11, "boss", "(III)I", prog_1_method_19_code, 11, some Jvm.ClassFile.FieldType.int, 3, 5, 124, 624, true),
  (11, "counted", "(I)I", prog_1_method_62_code, 1, some Jvm.ClassFile.FieldType.int, 1, 0, 0, 628, false),
  (16, "abs", "(I)I", prog_16_method_59_code, 1, some Jvm.ClassFile.FieldType.int, 1, 0, 0, 631, false),
  (11, "mix", "(II)I", prog_1_method_20_code, 3, some Jvm.ClassFile.FieldType.int, 2, 4, 90, 635, false),
  (11, "measured", "(II)I", prog_1_method_59_code, 4, some Jvm.ClassFile.FieldType.int, 2, 3, 67, 639, false),
  (0, "mixOf", "(I)I", prog_2_method_15_code, 4, some Jvm.ClassFile.FieldType.int, 1, 2, 43, 643, false),
  (0, "sizeIn", "(II)I", prog_2_method_14_code, 3, some Jvm.ClassFile.FieldType.int, 2, 1, 21, 647, false),
  (0, "partsOf", "(I)I", prog_2_method_16_code, 5, some Jvm.ClassFile.FieldType.int, 1, 2, 43, 652, false),
  (11, "plan", "(III)I", prog_1_method_21_code, 9, some Jvm.ClassFile.FieldType.int, 3, 6, 151, 656, true),
  (11, "spread", "(LNutsUp$Law;IIII)V", prog_1_method_63_code, 9, none, 5, 5, 123, 660, true),
  (8, "begin", "(II)V", prog_10_method_3_code, 3, none, 2, 2, 46, 664, false),
  (11, "moved", "(LNutsUp$Law;II)I", prog_1_method_64_code, 4, some Jvm.ClassFile.FieldType.int, 3, 4, 100, 669, true),
  (8, "reach", "(III)V", prog_10_method_4_code, 4, none, 3, 0, 0, 673, false),
  (8, "stepTo", "(II)I", prog_10_method_5_code, 5, some Jvm.ClassFile.FieldType.int, 2, 0, 0, 677, false),
  (11, "way", "(III)I", prog_1_method_22_code, 5, some Jvm.ClassFile.FieldType.int, 3, 6, 151, 681, true),
  (11, "come", "(III)I", prog_1_method_23_code, 7, some Jvm.ClassFile.FieldType.int, 3, 5, 116, 685, true),
  (11, "lookFar", "(LNutsUp$Motion;I)V", prog_1_method_65_code, 5, none, 2, 4, 92, 689, false),
  (11, "bare", "(I)I", prog_1_method_24_code, 7, some Jvm.ClassFile.FieldType.int, 1, 4, 100, 696, true),
  (11, "odds", "(IIII)J", prog_1_method_25_code, 8, some Jvm.ClassFile.FieldType.long, 4, 5, 116, 700, true),
  (11, "commonDivisor", "(II)I", prog_1_method_66_code, 6, some Jvm.ClassFile.FieldType.int, 2, 0, 0, 704, false),
  (11, "reading", "(II)I", prog_1_method_26_code, 3, some Jvm.ClassFile.FieldType.int, 2, 1, 21, 708, false),
  (11, "back", "(I)I", prog_1_method_27_code, 2, some Jvm.ClassFile.FieldType.int, 1, 0, 0, 712, false),
  (11, "fits", "(II)I", prog_1_method_28_code, 8, some Jvm.ClassFile.FieldType.int, 2, 4, 100, 716, true),
  (11, "isAsRead", "(I)Z", prog_1_method_67_code, 3, some Jvm.ClassFile.FieldType.boolean, 1, 1, 21, 720, false),
  (11, "which", "(IIIIII)I", prog_1_method_29_code, 13, some Jvm.ClassFile.FieldType.int, 6, 4, 100, 724, true),
  (11, "bears", "(II)I", prog_1_method_30_code, 8, some Jvm.ClassFile.FieldType.int, 2, 4, 100, 728, true),
  (11, "sheet", "(III)I", prog_1_method_31_code, 4, some Jvm.ClassFile.FieldType.int, 3, 2, 45, 732, false),
  (9, "renew", "(II)V", prog_11_method_2_code, 3, none, 2, 1, 23, 736, false),
  (11, "lose", "(I)I", prog_1_method_32_code, 3, some Jvm.ClassFile.FieldType.int, 1, 1, 20, 741, false),
  (11, "put", "(III)I", prog_1_method_33_code, 5, some Jvm.ClassFile.FieldType.int, 3, 1, 21, 745, false),
  (9, "cut", "(I)I", prog_11_method_3_code, 2, some Jvm.ClassFile.FieldType.int, 1, 0, 0, 749, false),
  (11, "cell", "(III)J", prog_1_method_34_code, 4, some Jvm.ClassFile.FieldType.long, 3, 2, 47, 753, false),
  (11, "copy", "(IIIII)I", prog_1_method_35_code, 8, some Jvm.ClassFile.FieldType.int, 5, 1, 80, 757, false),
  (11, "tell", "(I)I", prog_1_method_36_code, 2, some Jvm.ClassFile.FieldType.int, 1, 4, 84, 761, false),
  (4, "told", "(LNutsUp$Trail;)I", prog_6_method_3_code, 2, some Jvm.ClassFile.FieldType.int, 1, 2, 42, 768, false),
  (10, "leave", "(I)V", prog_12_method_2_code, 2, none, 1, 0, 0, 772, false),
  (2, "toldPlainly", "(LNutsUp$Trail;)I", prog_4_method_4_code, 2, some Jvm.ClassFile.FieldType.int, 1, 1, 21, 779, false),
  (6, "told", "(LNutsUp$Trail;)I", prog_8_method_2_code, 2, some Jvm.ClassFile.FieldType.int, 1, 3, 63, 783, false),
  (2, "told", "(LNutsUp$Trail;)I", prog_4_method_3_code, 2, some Jvm.ClassFile.FieldType.int, 1, 2, 42, 789, false),
  (11, "sift", "(I)I", prog_1_method_37_code, 2, some Jvm.ClassFile.FieldType.int, 1, 2, 42, 794, false),
  (6, "sifted", "(LNutsUp$Trail;)I", prog_8_method_3_code, 2, some Jvm.ClassFile.FieldType.int, 1, 1, 21, 802, false),
  (2, "sifted", "(LNutsUp$Trail;)I", prog_4_method_5_code, 2, some Jvm.ClassFile.FieldType.int, 1, 1, 21, 803, false),
  (11, "as", "(II)I", prog_1_method_38_code, 3, some Jvm.ClassFile.FieldType.int, 2, 1, 21, 807, false),
  (11, "trace", "()I", prog_1_method_39_code, 1, some Jvm.ClassFile.FieldType.int, 0, 0, 0, 811, false),
  (11, "fault", "()I", prog_1_method_40_code, 1, some Jvm.ClassFile.FieldType.int, 0, 0, 0, 815, false),
  (11, "many", "(I)I", prog_1_method_41_code, 2, some Jvm.ClassFile.FieldType.int, 1, 0, 0, 819, false),
  (12, "<init>", "()V", prog_14_method_1_code, 1, none, 0, 1, 20, 824, true),
  (12, "box", "(IIII)I", prog_14_method_14_code, 8, some Jvm.ClassFile.FieldType.int, 4, 3, 65, 941, false),
  (12, "isSheet", "(I)Z", prog_14_method_7_code, 1, some Jvm.ClassFile.FieldType.boolean, 1, 1, 22, 944, false),
  (12, "within", "(III)Z", prog_14_method_5_code, 3, some Jvm.ClassFile.FieldType.boolean, 3, 0, 0, 947, false),
  (12, "isSort", "(I)Z", prog_14_method_8_code, 1, some Jvm.ClassFile.FieldType.boolean, 1, 1, 22, 950, false),
  (12, "against", "(IIII)I", prog_14_method_9_code, 5, some Jvm.ClassFile.FieldType.int, 4, 0, 0, 954, false),
  (12, "fails", "(I)I", prog_14_method_3_code, 2, some Jvm.ClassFile.FieldType.int, 1, 0, 0, 958, false),
  (12, "readBox", "(I)Z", prog_14_method_15_code, 2, some Jvm.ClassFile.FieldType.boolean, 1, 2, 44, 962, false),
  (12, "isCode", "(II)Z", prog_14_method_13_code, 3, some Jvm.ClassFile.FieldType.boolean, 2, 0, 0, 966, false),
  (12, "digitAt", "(II)I", prog_14_method_12_code, 3, some Jvm.ClassFile.FieldType.int, 2, 1, 22, 970, false),
  (12, "ofGrain", "(II)I", prog_14_method_20_code, 3, some Jvm.ClassFile.FieldType.int, 2, 3, 71, 974, false),
  (12, "isGrain", "(I)Z", prog_14_method_10_code, 2, some Jvm.ClassFile.FieldType.boolean, 1, 0, 0, 978, false),
  (12, "bulk", "(I)I", prog_14_method_16_code, 2, some Jvm.ClassFile.FieldType.int, 1, 0, 0, 982, false),
  (12, "heft", "(I)I", prog_14_method_17_code, 2, some Jvm.ClassFile.FieldType.int, 1, 0, 0, 986, false)]
def mtab2 : List (Nat × String × String × ByteArray × Nat × Option FieldType × Nat × Nat × Nat × Nat × Bool) := [
  (12, "placeOf", "(II)I", prog_14_method_21_code, 4, some Jvm.ClassFile.FieldType.int, 2, 2, 48, 990, false),
  (12, "open", "(I)V", prog_14_method_18_code, 8, none, 1, 1, 21, 994, false),
  (12, "has", "(II)Z", prog_14_method_6_code, 2, some Jvm.ClassFile.FieldType.boolean, 2, 0, 0, 997, false),
  (12, "at", "(I)I", prog_14_method_22_code, 2, some Jvm.ClassFile.FieldType.int, 1, 2, 48, 1001, false),
  (12, "lie", "()I", prog_14_method_23_code, 1, some Jvm.ClassFile.FieldType.int, 0, 0, 0, 1005, false),
  (12, "lay", "(I)I", prog_14_method_24_code, 3, some Jvm.ClassFile.FieldType.int, 1, 1, 21, 1009, false),
  (12, "isLie", "(I)Z", prog_14_method_11_code, 2, some Jvm.ClassFile.FieldType.boolean, 1, 0, 0, 1013, false),
  (12, "of", "(II)I", prog_14_method_25_code, 3, some Jvm.ClassFile.FieldType.int, 2, 2, 48, 1017, false),
  (12, "law", "(IIII)I", prog_14_method_29_code, 8, some Jvm.ClassFile.FieldType.int, 4, 3, 68, 1021, false),
  (12, "readLaw", "(I)Z", prog_14_method_28_code, 5, some Jvm.ClassFile.FieldType.boolean, 1, 2, 44, 1025, false),
  (12, "letterOf", "(I)I", prog_14_method_27_code, 1, some Jvm.ClassFile.FieldType.int, 1, 0, 0, 1028, false),
  (12, "ofCause", "(III)I", prog_14_method_30_code, 4, some Jvm.ClassFile.FieldType.int, 3, 1, 21, 1032, false),
  (12, "isLaw", "(I)Z", prog_14_method_26_code, 2, some Jvm.ClassFile.FieldType.boolean, 1, 0, 0, 1036, false),
  (12, "use", "(I)I", prog_14_method_31_code, 3, some Jvm.ClassFile.FieldType.int, 1, 1, 21, 1040, false),
  (12, "cause", "(IIII)I", prog_14_method_35_code, 5, some Jvm.ClassFile.FieldType.int, 4, 3, 74, 1044, false),
  (12, "isHard", "(I)Z", prog_14_method_34_code, 1, some Jvm.ClassFile.FieldType.boolean, 1, 1, 22, 1047, false),
  (12, "ruling", "(IIIII)I", prog_14_method_33_code, 8, some Jvm.ClassFile.FieldType.int, 5, 2, 47, 1051, false),
  (12, "isSo", "(IIIII)Z", prog_14_method_32_code, 7, some Jvm.ClassFile.FieldType.boolean, 5, 1, 21, 1055, false),
  (12, "shake", "(II)I", prog_14_method_39_code, 4, some Jvm.ClassFile.FieldType.int, 2, 5, 124, 1059, false),
  (12, "shaken", "(II)V", prog_14_method_37_code, 5, none, 2, 4, 100, 1063, false),
  (12, "pair", "(III)V", prog_14_method_36_code, 7, none, 3, 3, 74, 1067, false),
  (12, "closed", "()I", prog_14_method_19_code, 5, some Jvm.ClassFile.FieldType.int, 0, 0, 0, 1071, false),
  (12, "doing", "(IIII)I", prog_14_method_41_code, 8, some Jvm.ClassFile.FieldType.int, 4, 5, 124, 1075, false),
  (12, "areHard", "(II)Z", prog_14_method_40_code, 4, some Jvm.ClassFile.FieldType.boolean, 2, 2, 42, 1079, false),
  (12, "turn", "()I", prog_14_method_44_code, 1, some Jvm.ClassFile.FieldType.int, 0, 3, 71, 1083, false),
  (12, "turned", "(I)I", prog_14_method_42_code, 4, some Jvm.ClassFile.FieldType.int, 1, 2, 48, 1087, false),
  (12, "spoon", "()I", prog_14_method_45_code, 1, some Jvm.ClassFile.FieldType.int, 0, 3, 71, 1091, false),
  (12, "spooned", "(I)I", prog_14_method_43_code, 4, some Jvm.ClassFile.FieldType.int, 1, 2, 48, 1095, false),
  (12, "next", "(II)I", prog_14_method_47_code, 3, some Jvm.ClassFile.FieldType.int, 2, 6, 147, 1099, false),
  (12, "nextOf", "(III)I", prog_14_method_38_code, 4, some Jvm.ClassFile.FieldType.int, 3, 5, 124, 1103, false),
  (12, "still", "(III)I", prog_14_method_48_code, 6, some Jvm.ClassFile.FieldType.int, 3, 6, 147, 1107, false),
  (12, "clearMet", "()V", prog_14_method_46_code, 2, none, 0, 0, 0, 1111, false),
  (12, "soon", "(III)I", prog_14_method_52_code, 5, some Jvm.ClassFile.FieldType.int, 3, 7, 172, 1115, false),
  (12, "whySoon", "(III)I", prog_14_method_51_code, 4, some Jvm.ClassFile.FieldType.int, 3, 2, 42, 1119, false),
  (12, "soonOf", "(III)I", prog_14_method_50_code, 6, some Jvm.ClassFile.FieldType.int, 3, 6, 147, 1123, false),
  (12, "isOnTop", "(II)Z", prog_14_method_49_code, 3, some Jvm.ClassFile.FieldType.boolean, 2, 2, 48, 1127, false),
  (12, "boss", "(III)I", prog_14_method_53_code, 11, some Jvm.ClassFile.FieldType.int, 3, 7, 172, 1131, false),
  (12, "mix", "(II)I", prog_14_method_55_code, 3, some Jvm.ClassFile.FieldType.int, 2, 3, 74, 1135, false),
  (12, "valueOf", "(II)I", prog_14_method_54_code, 7, some Jvm.ClassFile.FieldType.int, 2, 2, 48, 1139, false),
  (12, "plan", "(III)I", prog_14_method_59_code, 8, some Jvm.ClassFile.FieldType.int, 3, 7, 173, 1143, false),
  (12, "search", "(III)V", prog_14_method_57_code, 7, none, 3, 6, 147, 1147, false),
  (12, "comes", "(III)V", prog_14_method_56_code, 4, none, 3, 0, 0, 1151, false),
  (12, "actOf", "(II)I", prog_14_method_58_code, 4, some Jvm.ClassFile.FieldType.int, 2, 0, 0, 1155, false),
  (12, "way", "(III)I", prog_14_method_60_code, 4, some Jvm.ClassFile.FieldType.int, 3, 7, 173, 1159, false),
  (12, "come", "(III)I", prog_14_method_62_code, 6, some Jvm.ClassFile.FieldType.int, 3, 7, 171, 1163, false),
  (12, "layGoes", "(II)V", prog_14_method_61_code, 5, none, 2, 6, 147, 1167, false),
  (12, "bare", "(I)I", prog_14_method_63_code, 4, some Jvm.ClassFile.FieldType.int, 1, 7, 171, 1171, false),
  (12, "odds", "(IIII)J", prog_14_method_65_code, 8, some Jvm.ClassFile.FieldType.long, 4, 7, 171, 1175, false),
  (12, "common", "(JJ)J", prog_14_method_64_code, 10, some Jvm.ClassFile.FieldType.long, 2, 0, 0, 1179, false),
  (12, "reading", "(II)I", prog_14_method_66_code, 3, some Jvm.ClassFile.FieldType.int, 2, 1, 21, 1183, false),
  (12, "back", "(I)I", prog_14_method_67_code, 2, some Jvm.ClassFile.FieldType.int, 1, 1, 22, 1187, false),
  (12, "fits", "(II)I", prog_14_method_69_code, 5, some Jvm.ClassFile.FieldType.int, 2, 5, 124, 1191, false),
  (12, "isRead", "()Z", prog_14_method_68_code, 2, some Jvm.ClassFile.FieldType.boolean, 0, 0, 0, 1195, false),
  (12, "which", "(IIIIII)I", prog_14_method_70_code, 12, some Jvm.ClassFile.FieldType.int, 6, 5, 124, 1199, false),
  (12, "bears", "(II)I", prog_14_method_71_code, 5, some Jvm.ClassFile.FieldType.int, 2, 6, 147, 1203, false),
  (12, "sheet", "(III)I", prog_14_method_72_code, 5, some Jvm.ClassFile.FieldType.int, 3, 2, 42, 1207, false),
  (12, "lose", "(I)I", prog_14_method_73_code, 3, some Jvm.ClassFile.FieldType.int, 1, 2, 42, 1211, false),
  (12, "put", "(III)I", prog_14_method_74_code, 4, some Jvm.ClassFile.FieldType.int, 3, 2, 42, 1215, false),
  (12, "cell", "(III)J", prog_14_method_75_code, 4, some Jvm.ClassFile.FieldType.long, 3, 2, 42, 1219, false),
  (12, "lost", "(I)J", prog_14_method_4_code, 2, some Jvm.ClassFile.FieldType.long, 1, 0, 0, 1223, false),
  (12, "copy", "(IIIII)I", prog_14_method_76_code, 10, some Jvm.ClassFile.FieldType.int, 5, 2, 42, 1227, false),
  (12, "tell", "(I)I", prog_14_method_78_code, 3, some Jvm.ClassFile.FieldType.int, 1, 1, 21, 1231, false),
  (12, "begins", "(I)V", prog_14_method_77_code, 2, none, 1, 0, 0, 1235, false),
  (12, "sift", "(I)I", prog_14_method_79_code, 2, some Jvm.ClassFile.FieldType.int, 1, 1, 21, 1239, false),
  (12, "as", "(II)I", prog_14_method_80_code, 3, some Jvm.ClassFile.FieldType.int, 2, 1, 22, 1243, false),
  (12, "trace", "()I", prog_14_method_81_code, 1, some Jvm.ClassFile.FieldType.int, 0, 0, 0, 1247, false),
  (12, "fault", "()I", prog_14_method_82_code, 1, some Jvm.ClassFile.FieldType.int, 0, 0, 0, 1251, false),
  (12, "many", "(I)I", prog_14_method_83_code, 2, some Jvm.ClassFile.FieldType.int, 1, 0, 0, 1255, false),
  (13, "law", "([I)Z", code, 4, some Jvm.ClassFile.FieldType.boolean, 1, 8, 202, 0, true)]
def mt (m : Nat) : Nat × String × String × ByteArray × Nat × Option FieldType × Nat × Nat × Nat × Nat × Bool := ((if m < 70 then mtab0[m]? else if m < 140 then mtab1[m - 70]? else mtab2[m - 140]?)).getD (0, "", "", ⟨#[]⟩, 0, none, 0, 0, 0, 0, false)
def mO (m : Nat) : Nat := (mt m).1
def mY (m : Nat) : MethodName := ⟨on (mt m).1, (mt m).2.1, (mt m).2.2.1⟩
def mB (m : Nat) : ByteArray := (mt m).2.2.2.1
def mL (m : Nat) : Nat := (mt m).2.2.2.2.1
def mR (m : Nat) : Option FieldType := (mt m).2.2.2.2.2.1
def mA (m : Nat) : Nat := (mt m).2.2.2.2.2.2.1
def mF (m : Nat) : Nat := (mt m).2.2.2.2.2.2.2.1
def mLc (m : Nat) : Nat := (mt m).2.2.2.2.2.2.2.2.1
def mW (m : Nat) : Nat := (mt m).2.2.2.2.2.2.2.2.2.1
def mv (m : Nat) : Bool := (mt m).2.2.2.2.2.2.2.2.2.2
/-- fields by owner and index: the holder, the place, the word -/
def fldTab : List (Nat × Nat × Nat × Nat × Nat) := [(0, 11, 0, 0, 89), (7, 21, 0, 0, 90), (11, 103, 0, 0, 91), (7, 15, 0, 1, 92), (11, 96, 0, 1, 93), (5, 38, 0, 1, 94), (0, 25, 0, 1, 95), (0, 40, 0, 2, 96), (11, 204, 0, 2, 97), (0, 43, 0, 3, 98), (11, 339, 0, 3, 99), (0, 17, 0, 4, 100), (10, 7, 10, 0, 123), (11, 321, 10, 0, 124), (7, 9, 7, 0, 134), (7, 49, 7, 1, 135), (11, 345, 7, 1, 136), (8, 9, 8, 0, 148), (11, 245, 8, 0, 149), (8, 15, 8, 1, 150), (11, 248, 8, 1, 151), (8, 18, 8, 2, 152), (8, 21, 8, 3, 153), (8, 34, 8, 4, 154), (11, 242, 8, 4, 155), (9, 9, 9, 0, 172), (11, 72, 9, 0, 173), (9, 15, 9, 1, 174), (11, 291, 9, 1, 175), (9, 19, 9, 2, 176), (11, 301, 9, 2, 177), (9, 23, 9, 3, 178), (11, 295, 9, 3, 179), (11, 12, 11, 0, 189), (11, 20, 11, 1, 190), (11, 146, 11, 2, 191), (11, 166, 11, 3, 192), (11, 86, 11, 4, 193), (11, 93, 11, 5, 194), (11, 24, 11, 6, 195), (11, 28, 11, 7, 196), (11, 90, 11, 8, 197), (11, 33, 11, 9, 198), (11, 40, 11, 10, 199), (11, 266, 11, 11, 200), (11, 47, 11, 12, 201), (11, 54, 11, 13, 202), (11, 58, 11, 14, 203), (11, 61, 11, 15, 204), (11, 64, 11, 16, 205), (2, 12, 2, 0, 287), (2, 16, 2, 1, 288), (11, 107, 2, 1, 289), (1, 33, 2, 1, 290), (2, 19, 2, 2, 291), (11, 112, 2, 2, 292), (0, 79, 2, 2, 293), (2, 22, 2, 3, 294), (11, 115, 2, 3, 295), (2, 25, 2, 4, 296), (1, 25, 2, 4, 297), (11, 118, 2, 4, 298), (2, 28, 2, 5, 299), (1, 30, 2, 5, 300), (11, 121, 2, 5, 301), (1, 9, 1, 0, 443), (11, 155, 1, 0, 444), (1, 15, 1, 1, 445), (11, 160, 1, 1, 446), (1, 18, 1, 2, 447), (3, 35, 1, 2, 448), (11, 163, 1, 2, 449), (5, 10, 5, 0, 464), (11, 212, 5, 0, 465), (5, 16, 5, 1, 466), (11, 336, 5, 2, 467), (3, 19, 3, 0, 475), (7, 31, 3, 0, 476), (11, 151, 3, 0, 477), (3, 11, 3, 1, 478), (11, 332, 3, 1, 479), (12, 83, 12, 0, 826), (12, 257, 12, 1, 827), (12, 9, 12, 2, 828), (12, 13, 12, 3, 829), (12, 16, 12, 4, 830), (12, 92, 12, 5, 831), (12, 95, 12, 6, 832), (12, 122, 12, 7, 833), (12, 125, 12, 8, 834), (12, 19, 12, 9, 835), (12, 22, 12, 10, 836), (12, 25, 12, 11, 837), (12, 98, 12, 12, 838), (12, 119, 12, 13, 839), (12, 28, 12, 14, 840), (12, 31, 12, 15, 841), (12, 34, 12, 16, 842), (12, 37, 12, 17, 843), (12, 161, 12, 18, 844), (12, 173, 12, 19, 845), (12, 40, 12, 20, 846), (12, 43, 12, 21, 847), (12, 46, 12, 22, 848), (12, 49, 12, 23, 849), (12, 52, 12, 24, 850), (12, 56, 12, 25, 851), (12, 187, 12, 26, 852), (12, 59, 12, 27, 853), (12, 62, 12, 28, 854), (12, 65, 12, 29, 855), (12, 68, 12, 30, 856), (12, 230, 12, 31, 857), (12, 71, 12, 32, 858), (12, 74, 12, 33, 859), (12, 128, 12, 34, 860), (12, 77, 12, 35, 861), (12, 80, 12, 36, 862)]
def fld (o i : Nat) : Option (Nat × Nat) := (fldTab.find? (fun q => q.1 == o && q.2.1 == i)).map (fun q => (q.2.2.1, q.2.2.2.1))
/-- constant rows: owner, index, role, name -/
def stfTab : List (Nat × Nat × Nat × String) := [(0, 37, 500, "FACTORIALS"), (1, 21, 501, "LETTERS")]
def stf (o i : Nat) : Option Nat := (stfTab.find? (fun q => q.1 == o && q.2.1 == i)).map (fun q => q.2.2.1)
/-- new: owner, index, class, words of link, making, readiness -/
def newTab : List (Nat × Nat × Nat × Nat × Nat × Nat) := [(13, 7, 11, 73, 74, 56), (11, 9, 0, 81, 82, 57), (0, 9, 2, 87, 279, 63), (11, 18, 3, 113, 429, 67), (11, 31, 9, 115, 167, 61), (11, 37, 10, 117, 118, 58), (11, 44, 7, 128, 129, 59), (11, 51, 8, 142, 143, 60), (0, 59, 4, 315, 316, 64), (0, 62, 6, 328, 329, 65), (3, 9, 5, 434, 457, 69), (3, 17, 1, 436, 438, 68), (5, 7, 7, 462, 129, 59), (13, 10, 12, 820, 821, 62)]
def newt (o i : Nat) : Option Nat := (newTab.find? (fun q => q.1 == o && q.2.1 == i)).map (fun q => q.2.2.1)
/-- arrays of references: owner, index, tag, words of link and of the array -/
def anwTab : List (Nat × Nat × Nat × Nat × Nat) := [(0, 9, 21, 87, 88), (11, 18, 22, 113, 114), (11, 31, 23, 115, 116), (3, 9, 25, 434, 435), (3, 17, 24, 436, 437)]
def anwt (o i : Nat) : Option Nat := (anwTab.find? (fun q => q.1 == o && q.2.1 == i)).map (fun q => q.2.2.1)
def aName (t : Nat) : String := if t = 21 then "NutsUp$Grain" else if t = 22 then "NutsUp$Law" else if t = 23 then "NutsUp$Sheet" else if t = 24 then "NutsUp$Cause" else if t = 25 then "NutsUp$Motion" else ""
def aCls (t : Nat) : Nat := if t = 21 then 2 else if t = 22 then 3 else if t = 23 then 9 else if t = 24 then 1 else if t = 25 then 5 else 0
def ldcTab : List (Nat × Nat × Int × Nat) := [(0, 69, 1754760, 377), (15, 265, 1431655765, 560), (15, 266, 858993459, 561), (15, 267, 252645135, 562)]
def ldct (o i : Nat) : Option Int32 := (ldcTab.find? (fun q => q.1 == o && q.2.1 == i)).map (fun q => Int32.ofInt q.2.2.1)
def ld2Tab : List (Nat × Nat × Int × Nat) := [(11, 258, (-9223372036854775808), 701), (12, 86, (-9223372036854775808), 1176)]
def ld2t (o i : Nat) : Option Int64 := (ld2Tab.find? (fun q => q.1 == o && q.2.1 == i)).map (fun q => Int64.ofInt q.2.2.1)
/-- calls: owner, index, kind (0 static, 1 on an object, 2 a making, 3 static of a nest mate, 4 a making of one, 5 by the kind of the object, 6 of the class above, 7 copying), method, word -/
def calTab : List (Nat × Nat × Nat × Nat × Nat) := [(0, 3, 8, 1, 86), (0, 21, 0, 14, 266), (0, 29, 0, 16, 273), (0, 33, 0, 17, 276), (0, 46, 3, 23, 345), (0, 50, 0, 24, 348), (0, 56, 2, 18, 280), (0, 61, 2, 20, 317), (0, 64, 2, 21, 330), (0, 65, 1, 30, 373), (0, 70, 0, 32, 382), (0, 74, 0, 65, 557), (0, 82, 1, 86, 644), (0, 85, 0, 82, 648), (1, 3, 8, 1, 442), (2, 1, 2, 19, 283), (2, 7, 8, 1, 286), (2, 31, 5, 116, 790), (2, 35, 1, 115, 780), (3, 3, 8, 1, 433), (3, 23, 0, 43, 424), (3, 27, 2, 45, 439), (3, 30, 4, 46, 458), (3, 31, 0, 42, 421), (3, 39, 1, 53, 508), (4, 1, 2, 19, 320), (4, 7, 1, 115, 769), (4, 13, 5, 116, 773), (5, 1, 8, 1, 461), (5, 9, 4, 4, 463), (5, 20, 3, 23, 537), (5, 26, 0, 60, 538), (5, 32, 1, 29, 602), (5, 42, 1, 62, 603), (5, 46, 1, 64, 604), (6, 1, 2, 22, 333), (6, 7, 1, 115, 784), (6, 13, 6, 114, 785), (6, 17, 5, 116, 786), (7, 3, 8, 1, 133), (7, 25, 1, 52, 528), (7, 35, 1, 58, 529), (7, 41, 1, 63, 548), (7, 45, 0, 32, 552), (8, 3, 8, 1, 147), (8, 24, 3, 23, 360), (8, 28, 0, 60, 665), (9, 3, 8, 1, 171), (9, 26, 0, 24, 737), (10, 1, 8, 1, 122), (11, 3, 8, 1, 78), (11, 11, 4, 2, 83), (11, 39, 4, 3, 119), (11, 46, 4, 4, 130), (11, 53, 4, 5, 144), (11, 67, 4, 6, 168), (11, 68, 1, 8, 245), (11, 75, 0, 13, 263), (11, 79, 1, 15, 269), (11, 83, 1, 25, 351), (11, 99, 1, 28, 365), (11, 124, 1, 29, 369), (11, 128, 1, 31, 378), (11, 132, 1, 34, 389), (11, 135, 0, 32, 393), (11, 138, 1, 36, 398), (11, 142, 1, 38, 406), (11, 145, 0, 41, 418), (11, 149, 2, 44, 430), (11, 169, 0, 50, 497), (11, 172, 1, 51, 500), (11, 176, 1, 52, 504), (11, 180, 1, 55, 516), (11, 184, 0, 67, 567), (11, 188, 1, 69, 574), (11, 191, 1, 72, 586), (11, 194, 1, 56, 520), (11, 198, 1, 75, 598), (11, 207, 0, 60, 609), (11, 215, 1, 78, 614), (11, 219, 1, 77, 625), (11, 223, 1, 57, 524), (11, 227, 0, 81, 626), (11, 230, 0, 82, 629), (11, 235, 1, 84, 636), (11, 238, 1, 89, 657), (11, 251, 1, 93, 674), (11, 254, 1, 96, 686), (11, 260, 0, 99, 702), (11, 263, 1, 103, 717), (11, 269, 1, 85, 640), (11, 272, 0, 79, 618), (11, 275, 1, 62, 544), (11, 278, 0, 9, 249), (11, 281, 0, 10, 252), (11, 284, 1, 11, 255), (11, 287, 1, 107, 733), (11, 298, 1, 110, 746), (11, 304, 1, 12, 259), (11, 308, 7, 0, 690), (11, 314, 5, 118, 762), (11, 318, 5, 121, 795), (11, 324, 0, 23, 355), (11, 328, 1, 26, 356), (11, 342, 1, 59, 533), (11, 348, 1, 64, 553), (11, 351, 1, 70, 578), (11, 354, 1, 73, 590), (11, 357, 1, 87, 649), (11, 360, 1, 90, 661), (11, 363, 1, 91, 666), (11, 367, 1, 92, 670), (12, 1, 8, 1, 825), (12, 88, 0, 129, 945), (12, 101, 0, 128, 942), (12, 105, 0, 130, 948), (12, 108, 1, 131, 951), (12, 112, 1, 132, 955), (12, 116, 1, 133, 959), (12, 131, 1, 134, 963), (12, 135, 1, 135, 967), (12, 139, 0, 142, 995), (12, 142, 1, 137, 975), (12, 145, 1, 138, 979), (12, 148, 1, 139, 983), (12, 151, 1, 140, 987), (12, 154, 1, 141, 991), (12, 158, 1, 146, 1010), (12, 164, 0, 150, 1026), (12, 167, 1, 149, 1022), (12, 170, 1, 152, 1033), (12, 176, 1, 157, 1052), (12, 180, 0, 155, 1045), (12, 183, 1, 156, 1048), (12, 190, 1, 160, 1064), (12, 194, 1, 159, 1060), (12, 198, 1, 161, 1068), (12, 202, 1, 163, 1076), (12, 205, 1, 165, 1084), (12, 208, 1, 167, 1092), (12, 211, 1, 169, 1100), (12, 215, 1, 171, 1108), (12, 218, 1, 175, 1124), (12, 221, 1, 173, 1116), (12, 224, 1, 174, 1120), (12, 227, 1, 178, 1136), (12, 233, 1, 181, 1148), (12, 236, 1, 180, 1144), (12, 239, 1, 182, 1152), (12, 242, 1, 185, 1164), (12, 245, 0, 188, 1177), (12, 249, 1, 192, 1192), (12, 253, 1, 199, 1220), (12, 260, 1, 202, 1232), (13, 9, 2, 0, 75), (13, 12, 2, 126, 822), (13, 13, 1, 7, 241), (13, 17, 1, 127, 938), (13, 18, 1, 27, 361), (13, 22, 1, 136, 971), (13, 23, 1, 33, 385), (13, 27, 1, 143, 998), (13, 28, 1, 35, 394), (13, 32, 1, 144, 1002), (13, 33, 1, 37, 402), (13, 36, 1, 145, 1006), (13, 37, 1, 39, 410), (13, 40, 1, 147, 1014), (13, 41, 1, 40, 414), (13, 44, 1, 148, 1018), (13, 45, 1, 47, 485), (13, 49, 1, 151, 1029), (13, 50, 1, 48, 489), (13, 53, 1, 153, 1037), (13, 54, 1, 49, 493), (13, 57, 1, 154, 1041), (13, 58, 1, 54, 512), (13, 61, 1, 158, 1056), (13, 62, 1, 66, 563), (13, 65, 1, 162, 1072), (13, 66, 1, 68, 570), (13, 69, 1, 164, 1080), (13, 70, 1, 71, 582), (13, 73, 1, 166, 1088), (13, 74, 1, 74, 594), (13, 77, 1, 168, 1096), (13, 78, 1, 76, 605), (13, 81, 1, 170, 1104), (13, 82, 1, 77, 610), (13, 85, 1, 172, 1112), (13, 86, 1, 80, 621), (13, 89, 1, 176, 1128), (13, 90, 1, 83, 632), (13, 93, 1, 177, 1132), (13, 94, 1, 88, 653), (13, 97, 1, 179, 1140), (13, 98, 1, 94, 678), (13, 101, 1, 183, 1156), (13, 102, 1, 95, 682), (13, 105, 1, 184, 1160), (13, 106, 1, 97, 693), (13, 109, 1, 186, 1168), (13, 110, 1, 98, 697), (13, 114, 1, 187, 1172), (13, 115, 1, 100, 705), (13, 118, 1, 189, 1180), (13, 119, 1, 101, 709), (13, 122, 1, 190, 1184), (13, 123, 1, 102, 713), (13, 126, 1, 191, 1188), (13, 127, 1, 104, 721), (13, 131, 1, 193, 1196), (13, 132, 1, 105, 725), (13, 135, 1, 194, 1200), (13, 136, 1, 106, 729), (13, 139, 1, 195, 1204), (13, 140, 1, 108, 738), (13, 143, 1, 196, 1208), (13, 144, 1, 109, 742), (13, 147, 1, 197, 1212), (13, 148, 1, 111, 750), (13, 152, 1, 198, 1216), (13, 153, 1, 112, 754), (13, 157, 1, 200, 1224), (13, 158, 1, 113, 758), (13, 161, 1, 201, 1228), (13, 162, 1, 119, 791), (13, 165, 1, 203, 1236), (13, 166, 1, 122, 804), (13, 169, 1, 204, 1240), (13, 170, 1, 123, 808), (13, 173, 1, 205, 1244), (13, 174, 1, 124, 812), (13, 177, 1, 206, 1248), (13, 178, 1, 125, 816), (13, 181, 1, 207, 1252), (18, 13, 0, 61, 541)]
def cal (o i : Nat) : Option (Nat × Nat) := (calTab.find? (fun q => q.1 == o && q.2.1 == i)).map (fun q => (q.2.2.1, q.2.2.2.1))
def virTab : List (Nat × Nat × Nat × Nat) := [(2, 31, 3, 116), (2, 31, 5, 116), (2, 31, 7, 116), (4, 13, 5, 116), (4, 13, 7, 116), (6, 17, 7, 116), (11, 314, 3, 118), (11, 314, 5, 114), (11, 314, 7, 117), (11, 318, 3, 121), (11, 318, 5, 121), (11, 318, 7, 120)]
def vir (o i t : Nat) : Option Nat := (virTab.find? (fun q => q.1 == o && q.2.1 == i && q.2.2.1 == t)).map (fun q => q.2.2.2)
end
section
/-! A smaller machine over roles: what the methods of the class, of the reference and of the law do, without the tables. -/
/-- tags, lengths, numbers, links, how many cells and slots were made -/
abbrev Hp : Type := (Nat → Nat) × (Nat → Nat) × (Nat → Int → Int) × (Nat → Nat → Bool) × Nat × Nat
abbrev Rs : Type := Option (Value × Hp)
def tg (h : Hp) (r : Nat) : Nat := h.1 r
def ln (h : Hp) (r : Nat) : Nat := h.2.1 r
def iv (h : Hp) (r : Nat) (k : Int) : Int := h.2.2.1 r k
def I (z : Int) : Int32 := Int32.ofInt z
def fl (h : Hp) (r k : Nat) : Bool := h.2.2.2.1 r k
def up1 {α : Type} (f : Nat → α) (r : Nat) (v : α) : Nat → α := fun q => if q = r then v else f q
def up2 {κ α : Type} [DecidableEq κ] (f : Nat → κ → α) (r : Nat) (k : κ) (v : α) : Nat → κ → α := fun q j => if q = r ∧ j = k then v else f q j
def setI (h : Hp) (r : Nat) (k v : Int) : Hp := (h.1, h.2.1, up2 h.2.2.1 r k v, h.2.2.2)
def setR (h : Hp) (r : Nat) (f : Int → Int) : Hp := (h.1, h.2.1, up1 h.2.2.1 r f, h.2.2.2)
def setF (h : Hp) (r k : Nat) : Hp := (h.1, h.2.1, h.2.2.1, up2 h.2.2.2.1 r k true, h.2.2.2.2)
/-- a new cell in the role q: its tag, its length, how many slots -/
def mk (h : Hp) (q t n u : Nat) : Hp := (up1 h.1 q t, up1 h.2.1 q n, up1 h.2.2.1 q (fun _ => 0), up1 h.2.2.2.1 q (fun _ => false), h.2.2.2.2.1 + 1, h.2.2.2.2.2 + u)
/-- what has the role q comes to the role c, the slot k of r holds it -/
def mov (h : Hp) (r k c q : Nat) : Hp := (up1 (up1 h.1 c (h.1 q)) q 0, up1 h.2.1 c (h.2.1 q), up1 h.2.2.1 c (h.2.2.1 q), up2 (up1 h.2.2.2.1 c (fun _ => false)) r k true, h.2.2.2.2)
/-- the role of what the slot k of the role r can hold -/
def child (r k : Nat) : Nat :=
  if r = 0 then (if k = 0 then 1 else if k = 1 then 4 else if k = 6 then 5 else if k = 7 then 6 else if k = 9 then 7 else if k = 10 then 16 else if k = 12 then 17 else if k = 13 then 19 else if k = 14 then 24 else if k = 15 then 25 else if k = 16 then 26 else 9999)
  else if r = 1 then (if k = 0 then 2 else if k = 4 then 3 else 9999)
  else if r = 2 then (if k < 7 then 30 + k else 9999)
  else if r = 4 then (if k < 4 then 64 * (k + 1) else 9999)
  else if r = 7 then (if k < 4 then 8 + k else 9999)
  else if 8 ≤ r ∧ r < 12 then (if k = 0 then r + 4 else 9999)
  else if r = 17 then (if k = 0 then 18 else 9999)
  else if r = 19 then (if k < 4 then 20 + k else 9999)
  else if r = 400 then (if k < 37 then 401 + k else 9999)
  else if 64 ≤ r ∧ r < 320 then
    (if r % 64 = 0 then (if k < 2 then r + 1 + k else 9999)
     else if r % 64 = 1 then (if k < 6 then r + 2 + k else 9999)
     else if r % 64 = 2 then (if k < 3 then r + 14 + 4 * k else 9999)
     else if r % 64 = 16 ∨ r % 64 = 20 ∨ r % 64 = 24 then (if k = 0 then r + 1 else if k = 1 then r + 3 else 9999)
     else if r % 64 = 17 ∨ r % 64 = 21 ∨ r % 64 = 25 then (if k = 0 then r + 1 else 9999)
     else 9999)
  else 9999
/-- roles whose cell can become another one -/
def gw (r : Nat) : Bool := r == 3 || (20 ≤ r && r ≤ 26) || (30 ≤ r && r ≤ 38) || (64 ≤ r && r < 320 && (r % 64 == 19 || r % 64 == 23 || r % 64 == 27))
def rfv : Value → Nat
  | .ref r => r
  | _ => 9999
def itv : Value → Nat
  | .int x => x.toInt.toNat
  | _ => 9999
def gt (ls : List Value) (k : Nat) : Value := (ls[k]?).getD (.retAddr 0)
/-- the role of what is made at a place of a method -/
def site (m pc : Nat) (ls : List Value) (h : Hp) : Nat :=
  if m = 0 then (match pc with | 5 => 1 | 17 => 4 | 26 => 5 | 34 => 6 | 41 => 7 | 48 => 16 | 59 => 17 | 70 => 19 | 82 => 24 | 89 => 25 | 96 => 26 | _ => 8 + itv (gt ls 1))
  else if m = 2 then (match pc with | 7 => 2 | _ => 3)
  else if m = 4 then rfv (gt ls 0) + 1
  else if m = 5 then (match pc with | 6 => 20 | 13 => 21 | 20 => 22 | _ => 23)
  else if m = 6 then rfv (gt ls 0) + 4
  else if m = 17 then 37
  else if m = 23 then 38
  else if m = 40 then 64 * ((iv h 0 2).toNat + 1)
  else if m = 44 then (match pc with | 6 => rfv (gt ls 0) + 2 | 18 => rfv (gt ls 0) + 1 | 51 => rfv (gt ls 0) + 3 + itv (gt ls 4) | _ => rfv (gt ls 0) + 16 + 4 * itv (gt ls 4))
  else if m = 46 then (match pc with | 5 => rfv (gt ls 0) + 1 | _ => rfv (gt ls 0) + 3)
  else if m = 208 then (match pc with | 0 => 0 | _ => 400)
  else (match pc with | 6 => 403 | 33 => 404 | 42 => 405 | 50 => 410 | 58 => 411 | 66 => 412 | 74 => 415 | 82 => 416 | 90 => 417 | 98 => 418 | 105 => 421 | 113 => 422 | 121 => 423 | 129 => 424 | 143 => 426 | 152 => 428 | 161 => 429 | 170 => 430 | 179 => 431 | 188 => 433 | 197 => 434 | 205 => 436 | 213 => 437 | _ => 9999)
def isI : Value → Bool
  | .int _ => true
  | _ => false
def isJ : Value → Bool
  | .long _ => true
  | _ => false
def isL (v : Value) : Bool := v.category == 2
def isR : Value → Bool
  | .ref _ => true
  | .null => true
  | _ => false
/-- no reference to a role whose cell can become another one -/
def ngv : Value → Bool
  | .ref r => !gw r
  | _ => true
def ng (l : List Value) : Bool := l.all ngv
/-- no longs stand in its locals; what is laid into a local takes one place; the one ahead holds no long -/
def nol (m : Nat) : Bool := !(m == 187 || m == 188)
def okst (m : Nat) (ls : List Value) (k : Nat) : Bool := decide (k < ls.length) && (nol m || k == 0 || !isL (gt ls (k - 1)))
def tagok (ci t : Nat) : Bool := t == ci + 1 || (ci == 2 && (t == 5 || t == 7))
def elok (t q : Nat) : Bool := (t == 21 && (q == 3 || q == 5 || q == 7)) || ((t == 22 || t == 23 || t == 24 || t == 25) && q == aCls t + 1)
/-- a field may be written in the method -/
def pok (m ci k : Nat) : Bool := !((cT ci k).2.2.2) || (decide ((mt m).2.1 = "<init>") && decide ((cT ci k).1 = on (mO m)))
def okc (m y : Nat) : Bool := decide (mF y + 1 ≤ mF m) && decide (8 + (mL y + 11) + mLc y ≤ mLc m) && decide (y < 208) && y != 1
def bz (x : Int32) : Bool := x == 0 || x == 1
def inr (i : Int32) (n : Nat) : Bool := decide (0 ≤ i.toInt) && decide (i.toInt < n)
def lay : List Value → List Value
  | [] => []
  | v :: l => if isL v then v :: .retAddr 0 :: lay l else v :: lay l
def ent (y : Nat) (a : List Value) : List Value := lay a ++ List.replicate (mL y - (lay a).length) (.retAddr 0)
def cpy (f g : Int → Int) (sp dp n : Int) : Int → Int := fun k => if dp ≤ k ∧ k < dp + n then f (sp + (k - dp)) else g k
abbrev Go : Type := Nat → List Value → List Value → Hp → Rs
def gd (b : Bool) (r : Rs) : Rs := if b = true then r else none
def i1 (st : List Value) (f : Int32 → List Value → Rs) : Rs := match st with
  | .int x :: s => f x s
  | _ => none
def i2 (st : List Value) (f : Int32 → Int32 → List Value → Rs) : Rs := match st with
  | .int y :: .int x :: s => f x y s
  | _ => none
def l1 (st : List Value) (f : Int64 → List Value → Rs) : Rs := match st with
  | .long x :: s => f x s
  | _ => none
def l2 (st : List Value) (f : Int64 → Int64 → List Value → Rs) : Rs := match st with
  | .long y :: .long x :: s => f x y s
  | _ => none
def r1 (st : List Value) (f : Nat → List Value → Rs) : Rs := match st with
  | .ref r :: s => f r s
  | _ => none
def ri (st : List Value) (f : Nat → Int32 → List Value → Rs) : Rs := match st with
  | .int i :: .ref r :: s => f r i s
  | _ => none
def rii (st : List Value) (f : Nat → Int32 → Int32 → List Value → Rs) : Rs := match st with
  | .int x :: .int i :: .ref r :: s => f r i x s
  | _ => none
def rir (st : List Value) (f : Nat → Int32 → Nat → List Value → Rs) : Rs := match st with
  | .ref q :: .int i :: .ref r :: s => f r i q s
  | _ => none
def v1 (st : List Value) (f : Value → List Value → Rs) : Rs := match st with
  | v :: s => f v s
  | _ => none
def jmp (pc : Nat) (off : Int) (go : Nat → Rs) : Rs := gd (decide (0 ≤ (pc : Int) + off)) (go ((pc : Int) + off).toNat)
def cnd (c : Jvm.ClassFile.Cond) (x y : Int32) : Prop := match c with
  | .eq => x = y
  | .ne => ¬ x = y
  | .lt => x < y
  | .ge => y ≤ x
  | .gt => y < x
  | .le => x ≤ y
def brn (c : Jvm.ClassFile.Cond) (x y : Int32) (a b : Rs) : Rs := match c with
  | .eq => if x = y then a else b
  | .ne => if x = y then b else a
  | .lt => if x < y then a else b
  | .ge => if x < y then b else a
  | .gt => if y < x then a else b
  | .le => if y < x then b else a
/-- the first n of a stack, as arguments -/
def takeA (n : Nat) (st : List Value) : List Value := (st.take n).reverse
def okT (h : Hp) : Value → Bool
  | .ref r => h.1 r != 0
  | _ => true
/-- behind a call -/
def back (y : Nat) (v : Value) (st : List Value) : List Value := if mR y = none then st else v :: st
def cll (m pc y : Nat) (ls st : List Value) (h : Hp) (go : Go) (call : Nat → List Value → Hp → Rs) (a : List Value) : Rs :=
  gd (okc m y && decide (st.length ≤ 4) && (!nol y || a.all (fun v => !isL v)) && decide ((lay a).length ≤ mL y) && (!mv y || (mv m && ng ls && ng st))) (match call y a h with
    | some (v, h') => go (pc + 3) ls (back y v st) h'
    | none => none)
def onobj (y : Nat) (st : List Value) (f : Nat → List Value → List Value → Rs) : Rs := r1 (st.drop (mA y)) (fun r s => gd (decide (mA y ≤ st.length)) (f r (takeA (mA y) st) s))
def stp (m pc len : Nat) (ls st : List Value) (h : Hp) (go : Go) (call : Nat → List Value → Hp → Rs) (i : Instr) : Rs :=
  match i with
  | .iconst n => go (pc + len) ls (.int (Int32.ofInt n) :: st) h
  | .bipush n => go (pc + len) ls (.int ((Int8.ofInt n).toInt32) :: st) h
  | .sipush n => go (pc + len) ls (.int ((Int16.ofInt n).toInt32) :: st) h
  | .lconst n => go (pc + len) ls (.long (Int64.ofNat (n : Nat)) :: st) h
  | .aconst_null => go (pc + len) ls (.null :: st) h
  | .ldc i => (match ldct (mO m) i with
    | some v => go (pc + len) ls (.int v :: st) h
    | none => none)
  | .ldc_w i => (match ldct (mO m) i with
    | some v => go (pc + len) ls (.int v :: st) h
    | none => none)
  | .ldc2_w i => (match ld2t (mO m) i with
    | some v => go (pc + len) ls (.long v :: st) h
    | none => none)
  | .iload k => gd (isI (gt ls k)) (go (pc + len) ls (gt ls k :: st) h)
  | .iload_n k => gd (isI (gt ls (k : Nat))) (go (pc + len) ls (gt ls (k : Nat) :: st) h)
  | .lload k => gd (isJ (gt ls k)) (go (pc + len) ls (gt ls k :: st) h)
  | .lload_n k => gd (isJ (gt ls (k : Nat))) (go (pc + len) ls (gt ls (k : Nat) :: st) h)
  | .aload k => gd (isR (gt ls k)) (go (pc + len) ls (gt ls k :: st) h)
  | .aload_n k => gd (isR (gt ls (k : Nat))) (go (pc + len) ls (gt ls (k : Nat) :: st) h)
  | .istore k => i1 st fun x s => gd (okst m ls k) (go (pc + len) (ls.set k (.int x)) s h)
  | .istore_n k => i1 st fun x s => gd (okst m ls k) (go (pc + len) (ls.set k (.int x)) s h)
  | .astore k => v1 st fun v s => gd (isR v && okst m ls k) (go (pc + len) (ls.set k v) s h)
  | .astore_n k => v1 st fun v s => gd (isR v && okst m ls k) (go (pc + len) (ls.set k v) s h)
  | .lstore k => l1 st fun x s => gd (!nol m && okst m ls k && decide (k + 1 < ls.length)) (go (pc + len) ((ls.set k (.long x)).set (k + 1) (.retAddr 0)) s h)
  | .lstore_n k => l1 st fun x s => gd (!nol m && okst m ls k && decide ((k : Nat) + 1 < ls.length)) (go (pc + len) ((ls.set k (.long x)).set (k + 1) (.retAddr 0)) s h)
  | .iinc k c => (match gt ls k with
    | .int x => gd (okst m ls k) (go (pc + len) (ls.set k (.int (x + Int32.ofInt c))) st h)
    | _ => none)
  | .iadd => i2 st fun x y s => go (pc + len) ls (.int (x + y) :: s) h
  | .isub => i2 st fun x y s => go (pc + len) ls (.int (x - y) :: s) h
  | .imul => i2 st fun x y s => go (pc + len) ls (.int (x * y) :: s) h
  | .idiv => i2 st fun x y s => gd (y != 0) (go (pc + len) ls (.int (x / y) :: s) h)
  | .irem => i2 st fun x y s => gd (y != 0) (go (pc + len) ls (.int (x % y) :: s) h)
  | .ineg => i1 st fun x s => go (pc + len) ls (.int (-x) :: s) h
  | .ishl => i2 st fun x y s => go (pc + len) ls (.int (x <<< (y &&& 31)) :: s) h
  | .ishr => i2 st fun x y s => go (pc + len) ls (.int (x >>> (y &&& 31)) :: s) h
  | .iushr => i2 st fun x y s => go (pc + len) ls (.int ((x.toUInt32 >>> (y.toUInt32 &&& Int32.toUInt32 31)).toInt32) :: s) h
  | .iand => i2 st fun x y s => go (pc + len) ls (.int (x &&& y) :: s) h
  | .ior => i2 st fun x y s => go (pc + len) ls (.int (x ||| y) :: s) h
  | .ixor => i2 st fun x y s => go (pc + len) ls (.int (x ^^^ y) :: s) h
  | .i2l => i1 st fun x s => go (pc + len) ls (.long x.toInt64 :: s) h
  | .i2b => i1 st fun x s => go (pc + len) ls (.int x.toInt8.toInt32 :: s) h
  | .i2s => i1 st fun x s => go (pc + len) ls (.int x.toInt16.toInt32 :: s) h
  | .ldiv => l2 st fun x y s => gd (y != 0) (go (pc + len) ls (.long (x / y) :: s) h)
  | .lrem => l2 st fun x y s => gd (y != 0) (go (pc + len) ls (.long (x % y) :: s) h)
  | .lcmp => l2 st fun x y s => go (pc + len) ls (.int (lg_cmp x y) :: s) h
  | .dup => v1 st fun v s => gd (!isL v && (isI v || isR v)) (go (pc + len) ls (v :: v :: s) h)
  | .dup2 => v1 st fun v s => v1 s fun w s => gd (!isL v && (isI v || isR v) && (!isL w && (isI w || isR w))) (go (pc + len) ls (v :: w :: v :: w :: s) h)
  | .goto off => jmp pc off fun t => go t ls st h
  | .ifCond c off => i1 st fun x s => gd (decide (0 ≤ (pc : Int) + off)) (brn c x 0 (go ((pc : Int) + off).toNat ls s h) (go (pc + len) ls s h))
  | .if_icmp c off => i2 st fun x y s => gd (decide (0 ≤ (pc : Int) + off)) (brn c x y (go ((pc : Int) + off).toNat ls s h) (go (pc + len) ls s h))
  | .ifnull off => (match st with
    | .null :: s => jmp pc off fun t => go t ls s h
    | .ref _ :: s => go (pc + len) ls s h
    | _ => none)
  | .ifnonnull off => (match st with
    | .null :: s => go (pc + len) ls s h
    | .ref _ :: s => jmp pc off fun t => go t ls s h
    | _ => none)
  | .tableswitch d lo hi offs => i1 st fun x s => if x.toInt < lo ∨ hi < x.toInt then jmp pc d fun t => go t ls s h else (match offs[(x.toInt - lo).toNat]? with
    | some off => jmp pc off fun t => go t ls s h
    | none => none)
  | .lookupswitch d ps => i1 st fun x s => gd ((ps.toList.zip (ps.toList.drop 1)).all (fun (a, next) => a.1 < next.1)) (jmp pc (Op.lookupswitch.offset ps.toList d x.toInt) fun t => go t ls s h)
  | .getfield j => (match fld (mO m) j with
    | some (ci, k) => r1 st fun r s => gd (tagok ci (tg h r)) (if rfs ci k = true then gd (fl h r k && tg h (child r k) != 0) (go (pc + len) ls (.ref (child r k) :: s) h) else go (pc + len) ls (.int (I (iv h r (k : Nat))) :: s) h)
    | none => none)
  | .putfield j => (match fld (mO m) j with
    | some (ci, k) => gd (pok m ci k) (match st with
      | .int x :: .ref r :: s => gd (tagok ci (tg h r) && !rfs ci k && (cTy ci k == .int || bz x)) (go (pc + len) ls s (setI h r (k : Nat) x.toInt))
      | .ref q :: .ref r :: s => gd (tagok ci (tg h r) && rfs ci k) (if q = child r k then go (pc + len) ls s (setF h r k) else gd (mv m && q == 38 && gw (child r k) && !gw r && decide (child r k < 37 ∨ 38 < child r k) && tg h 38 == 20 && ng ls && ng s) (go (pc + len) ls s (mov h r k (child r k) q)))
      | _ => none)
    | none => none)
  | .getstatic j => (match stf (mO m) j with
    | some r => gd (tg h r == 30) (go (pc + len) ls (.ref r :: st) h)
    | none => none)
  | .iaload => ri st fun r i s => gd ((tg h r == 20 || tg h r == 30) && inr i (ln h r)) (go (pc + len) ls (.int (I (iv h r i.toInt)) :: s) h)
  | .iastore => rii st fun r i x s => gd (tg h r == 20 && inr i (ln h r)) (go (pc + len) ls s (setI h r i.toInt x.toInt))
  | .aaload => ri st fun r i s => gd (decide (21 ≤ tg h r) && decide (tg h r ≤ 25) && inr i (ln h r) && fl h r i.toInt.toNat && tg h (child r i.toInt.toNat) != 0) (go (pc + len) ls (.ref (child r i.toInt.toNat) :: s) h)
  | .aastore => rir st fun r i q s => gd (elok (tg h r) (tg h q) && inr i (ln h r)) (if q = child r i.toInt.toNat then go (pc + len) ls s (setF h r i.toInt.toNat) else gd (tg h r == 21 && mv m && q == 37 && gw (child r i.toInt.toNat) && !gw r && decide (child r i.toInt.toNat < 37) && ng ls && ng s) (go (pc + len) ls s (mov h r i.toInt.toNat (child r i.toInt.toNat) q)))
  | .arraylength => r1 st fun r s => gd (decide (20 ≤ tg h r) && decide (tg h r ≤ 25) || tg h r == 30) (go (pc + len) ls (.int (Int32.ofNat (ln h r)) :: s) h)
  | .new j => (match newt (mO m) j with
    | some ci => gd (mv m && tg h (site m pc ls h) == 0 && decide (site m pc ls h < 500)) (go (pc + len) ls (.ref (site m pc ls h) :: st) (mk h (site m pc ls h) (ci + 1) 0 (cSz ci)))
    | none => none)
  | .newarray t => i1 st fun x s => gd (mv m && t == .int && decide (0 ≤ x.toInt) && decide (x.toInt < 1000000) && tg h (site m pc ls h) == 0 && decide (site m pc ls h < 500)) (go (pc + len) ls (.ref (site m pc ls h) :: s) (mk h (site m pc ls h) 20 x.toInt.toNat x.toInt.toNat))
  | .anewarray j => (match anwt (mO m) j with
    | some t => i1 st fun x s => gd (mv m && decide (0 ≤ x.toInt) && decide (x.toInt < 1000000) && tg h (site m pc ls h) == 0 && decide (site m pc ls h < 500)) (go (pc + len) ls (.ref (site m pc ls h) :: s) (mk h (site m pc ls h) t x.toInt.toNat x.toInt.toNat))
    | none => none)
  | .invokestatic j => (match cal (mO m) j with
    | some (0, y) => gd (decide (mA y ≤ st.length)) (cll m pc y ls (st.drop (mA y)) h go call (takeA (mA y) st))
    | some (3, y) => gd (decide (mA y ≤ st.length)) (cll m pc y ls (st.drop (mA y)) h go call (takeA (mA y) st))
    | some (7, _) => (match st with
      | .int n :: .int dp :: .ref d :: .int sp :: .ref r :: s => gd (tg h r == 20 && tg h d == 20 && decide (0 ≤ n.toInt) && decide (0 ≤ sp.toInt) && decide (0 ≤ dp.toInt) && decide (sp.toInt.toNat + n.toInt.toNat ≤ ln h r) && decide (dp.toInt.toNat + n.toInt.toNat ≤ ln h d) && decide (s.length ≤ 4) && decide (1 ≤ mF m) && decide (80 ≤ mLc m))
          (go (pc + 3) ls s (setR h d (cpy (iv h r) (iv h d) sp.toInt dp.toInt n.toInt)))
      | _ => none)
    | _ => none)
  | .invokespecial j => (match cal (mO m) j with
    | some (8, _) => r1 st fun _ s => gd (decide (1 ≤ mF m) && decide (20 ≤ mLc m) && decide (s.length ≤ 4)) (go (pc + 3) ls s h)
    | some (2, y) => onobj y st fun r a s => cll m pc y ls s h go call (.ref r :: a)
    | some (4, y) => onobj y st fun r a s => cll m pc y ls s h go call (.ref r :: a)
    | some (6, y) => onobj y st fun r a s => gd (tg h r == mO m + 1) (cll m pc y ls s h go call (.ref r :: a))
    | _ => none)
  | .invokevirtual j => (match cal (mO m) j with
    | some (1, y) => onobj y st fun r a s => gd (tg h r == mO y + 1) (cll m pc y ls s h go call (.ref r :: a))
    | some (5, y) => onobj y st fun r a s => (match vir (mO m) j (tg h r) with
      | some z => cll m pc z ls s h go call (.ref r :: a)
      | none => none)
    | _ => none)
  | .ireturn => (match st with
    | [.int x] => gd (mR m == some .int || (mR m == some .boolean && bz x)) (some (.int x, h))
    | _ => none)
  | .lreturn => (match st with
    | [.long x] => gd (mR m == some .long) (some (.long x, h))
    | _ => none)
  | .areturn => (match st with
    | [v] => gd (isR v && (match mR m with
      | some (.object _) => true
      | some (.array _) => true
      | _ => false)) (some (v, h))
    | _ => none)
  | .return_ => (match st with
    | [] => gd (mR m == none) (some (.null, h))
    | _ => none)
  | _ => none
def okl (i : Instr) (len : Nat) : Bool := match i with
  | .tableswitch .. => true
  | .lookupswitch .. => true
  | .bipush _ => len == 2
  | .ldc _ => len == 2
  | .iload _ => len == 2
  | .lload _ => len == 2
  | .aload _ => len == 2
  | .istore _ => len == 2
  | .lstore _ => len == 2
  | .astore _ => len == 2
  | .newarray _ => len == 2
  | .sipush _ => len == 3
  | .ldc_w _ => len == 3
  | .ldc2_w _ => len == 3
  | .iinc _ _ => len == 3
  | .ifCond _ _ => len == 3
  | .if_icmp _ _ => len == 3
  | .goto _ => len == 3
  | .ifnull _ => len == 3
  | .ifnonnull _ => len == 3
  | .getfield _ => len == 3
  | .putfield _ => len == 3
  | .getstatic _ => len == 3
  | .new _ => len == 3
  | .anewarray _ => len == 3
  | .invokestatic _ => len == 3
  | .invokespecial _ => len == 3
  | .invokevirtual _ => len == 3
  | _ => len == 1
def exec : Nat → Nat → Nat → List Value → List Value → Hp → Rs
  | 0, _, _, _, _, _ => none
  | n + 1, m, pc, ls, st, h => match decode (mB m) pc with
    | .ok (i, len) => gd (okl i len) (stp m pc len ls st h (exec n m) (fun y a h' => exec n y 0 (ent y a) [] h') i)
    | .error _ => none
end
section
/-! The tables of part 01 stand in the words of the claim. -/
def layTab : List (List Nat) := [[101, 103, 105, 107, 109], [450, 452, 454], [302, 304, 306, 308, 310, 312], [480, 482], [321, 322, 323, 324, 325, 326], [468, 470, 472], [336, 337, 338, 339, 340, 341], [137, 139], [156, 158, 160, 162, 164], [180, 182, 184, 186], [125], [206, 208, 210, 212, 214, 216, 218, 220, 222, 224, 226, 228, 230, 232, 234, 236, 238], [863, 865, 867, 869, 871, 873, 875, 877, 879, 881, 883, 885, 887, 889, 891, 893, 895, 897, 899, 901, 903, 905, 907, 909, 911, 913, 915, 917, 919, 921, 923, 925, 927, 929, 931, 933, 935]]
/-- of each method the word that says whether it is static -/
def staTab : List Nat := [76, 79, 84, 120, 131, 145, 169, 242, 247, 250, 253, 257, 260, 264, 267, 270, 274, 277, 281, 284, 318, 331, 334, 346, 349, 353, 357, 362, 367, 370, 375, 379, 383, 386, 391, 395, 400, 403, 408, 411, 415, 419, 422, 425, 431, 440, 459, 486, 490, 494, 498, 502, 505, 509, 513, 518, 522, 525, 530, 534, 539, 542, 545, 550, 554, 558, 564, 568, 571, 576, 579, 583, 588, 591, 595, 599, 606, 611, 616, 619, 622, 627, 630, 633, 638, 641, 646, 650, 654, 659, 662, 668, 671, 675, 679, 683, 688, 694, 698, 703, 706, 710, 714, 719, 722, 726, 730, 734, 739, 743, 747, 751, 755, 759, 767, 770, 778, 782, 763, 792, 801, 796, 805, 809, 813, 817, 823, 939, 943, 946, 949, 953, 957, 961, 965, 969, 972, 977, 981, 985, 989, 993, 996, 999, 1003, 1007, 1012, 1015, 1019, 1024, 1027, 1030, 1035, 1038, 1042, 1046, 1050, 1054, 1057, 1062, 1066, 1070, 1073, 1078, 1081, 1086, 1089, 1094, 1097, 1102, 1105, 1110, 1113, 1118, 1122, 1126, 1129, 1133, 1138, 1141, 1146, 1150, 1154, 1157, 1161, 1166, 1169, 1173, 1178, 1181, 1185, 1189, 1194, 1197, 1201, 1205, 1209, 1213, 1217, 1222, 1225, 1229, 1234, 1237, 1241, 1245, 1249, 1253]
def selTab : List Nat := [999999, 999999, 999999, 999999, 999999, 999999, 999999, 243, 0, 999999, 999999, 1, 261, 999999, 999999, 271, 999999, 999999, 999999, 999999, 999999, 999999, 999999, 999999, 999999, 2, 358, 363, 3, 371, 4, 380, 999999, 387, 5, 396, 6, 404, 7, 412, 416, 999999, 999999, 999999, 999999, 999999, 999999, 487, 491, 495, 999999, 8, 506, 510, 514, 9, 10, 526, 531, 535, 999999, 999999, 546, 11, 555, 999999, 565, 999999, 572, 12, 580, 584, 13, 592, 596, 600, 607, 612, 14, 999999, 623, 999999, 999999, 634, 15, 642, 16, 651, 655, 17, 663, 18, 672, 676, 680, 684, 19, 695, 699, 999999, 707, 711, 715, 20, 723, 727, 731, 735, 740, 744, 748, 752, 756, 760, 999999, 771, 1258, 999999, 764, 793, 999999, 797, 806, 810, 814, 818, 999999, 940, 999999, 999999, 999999, 21, 22, 23, 24, 25, 973, 26, 27, 28, 29, 30, 999999, 1000, 1004, 1008, 31, 1016, 1020, 32, 999999, 1031, 33, 1039, 1043, 999999, 34, 35, 1058, 36, 37, 38, 1074, 39, 1082, 40, 1090, 41, 1098, 42, 1106, 43, 1114, 44, 45, 46, 1130, 1134, 47, 1142, 48, 49, 50, 1158, 1162, 51, 1170, 1174, 999999, 1182, 1186, 1190, 52, 1198, 1202, 1206, 1210, 1214, 1218, 53, 1226, 1230, 54, 1238, 1242, 1246, 1250, 1254]
def iniTab : List Nat := [57, 68, 63, 67, 64, 69, 65, 59, 60, 61, 58, 56, 62, 55, 999999, 70, 71, 72, 66]
/-- by the kind of the object: owner, index, tag, what is run, what is named first, the class that is named, its word, the word of the choice -/
def virX : List (Nat × Nat × Nat × Nat × Nat × Nat × Nat × Nat × Nat) := [(2, 31, 3, 116, 116, 2, 1257, 1258, 790), (2, 31, 5, 116, 116, 2, 1257, 1259, 790), (2, 31, 7, 116, 116, 2, 1257, 1260, 790), (4, 13, 5, 116, 116, 4, 774, 776, 773), (4, 13, 7, 116, 116, 4, 774, 777, 773), (6, 17, 7, 116, 116, 6, 787, 788, 786), (11, 314, 3, 118, 118, 2, 765, 764, 762), (11, 314, 5, 114, 118, 2, 765, 766, 762), (11, 314, 7, 117, 118, 2, 765, 781, 762), (11, 318, 3, 121, 121, 2, 798, 797, 795), (11, 318, 5, 121, 121, 2, 798, 799, 795), (11, 318, 7, 120, 121, 2, 798, 800, 795)]
def supX : List (Nat × Nat × Nat × Nat × Nat) := [(6, 13, 114, 1256, 342)]
def goodWs : List Jvm.Cond := lw_tbl.filter goodWord
def nestW : Jvm.Cond → Bool
  | .methodLinkNest .. => true
  | .fieldLinkNest .. => true
  | .castable .. => true
  | .arrayOver (.object _) => true
  | _ => false
def nestWs : List Jvm.Cond := lw_tbl.filter nestW
theorem good_at {i : Nat} {w : Jvm.Cond} (h : lw_tbl[i]? = some w) (hg : goodWord w = true) : w ∈ goodWs := List.mem_filter.mpr ⟨List.mem_of_getElem? h, hg⟩
theorem nest_at {i : Nat} {w : Jvm.Cond} (h : lw_tbl[i]? = some w) (hg : nestW w = true) : w ∈ nestWs := List.mem_filter.mpr ⟨List.mem_of_getElem? h, hg⟩
def wAt (i : Nat) (w : Jvm.Cond) : Bool := decide (lw_tbl[i]? = some w)
theorem wAt_eq {i : Nat} {w : Jvm.Cond} (h : wAt i w = true) : lw_tbl[i]? = some w := of_decide_eq_true h
def at0 (l : List Nat) (i : Nat) : Nat := (l[i]?).getD 999999
def okLay (ci k : Nat) : Bool := wAt (at0 ((layTab[ci]?).getD []) k) (u_lay (cn ci) (cT ci) k)
theorem okLay_all : (List.range 13).all (fun ci => (List.range (cSz ci)).all (fun k => okLay ci k)) = true := by decide +kernel
def okFld (q : Nat × Nat × Nat × Nat × Nat) : Bool := wAt q.2.2.2.2 (.fieldLink (on q.1) q.2.1 (cT q.2.2.1 q.2.2.2.1).1 (cT q.2.2.1 q.2.2.2.1).2.1 (cT q.2.2.1 q.2.2.2.1).2.2.1) && decide (q.2.2.1 < 13) && decide (q.2.2.2.1 < cSz q.2.2.1)
theorem okFld_all : fldTab.all okFld = true := by decide +kernel
def okCode (y : Nat) : Bool := wAt (at0 iniTab (mO y)) (.initialized (mY y).cls) && decide ((mY y).cls ≠ "java/lang/invoke/MethodHandle" ∧ (mY y).cls ≠ "java/lang/invoke/VarHandle") && decide ((parseMethodDescriptor (mY y).desc).map (fun d => d.parameters.length) = some (mA y)) && plainFor (mY y)
theorem okCode_all : (List.range 208).all (fun y => y == 1 || okCode y) = true := by decide +kernel
theorem okCode_t2 : (List.range 208).filter (fun y => !plainFor (mY y)) = [1] := by decide +kernel
set_option maxRecDepth 100000 in
theorem cod_0 : lw_tbl[77]? = some (Jvm.Cond.code (mY 0) (mB 0) (mL 0) (mR 0)) := rfl
set_option maxRecDepth 100000 in
theorem cod_1 : lw_tbl[80]? = some (Jvm.Cond.code (mY 1) (mB 1) (mL 1) (mR 1)) := rfl
set_option maxRecDepth 100000 in
theorem cod_2 : lw_tbl[85]? = some (Jvm.Cond.code (mY 2) (mB 2) (mL 2) (mR 2)) := rfl
set_option maxRecDepth 100000 in
theorem cod_3 : lw_tbl[121]? = some (Jvm.Cond.code (mY 3) (mB 3) (mL 3) (mR 3)) := rfl
set_option maxRecDepth 100000 in
theorem cod_4 : lw_tbl[132]? = some (Jvm.Cond.code (mY 4) (mB 4) (mL 4) (mR 4)) := rfl
set_option maxRecDepth 100000 in
theorem cod_5 : lw_tbl[146]? = some (Jvm.Cond.code (mY 5) (mB 5) (mL 5) (mR 5)) := rfl
set_option maxRecDepth 100000 in
theorem cod_6 : lw_tbl[170]? = some (Jvm.Cond.code (mY 6) (mB 6) (mL 6) (mR 6)) := rfl
set_option maxRecDepth 100000 in
theorem cod_7 : lw_tbl[244]? = some (Jvm.Cond.code (mY 7) (mB 7) (mL 7) (mR 7)) := rfl
set_option maxRecDepth 100000 in
theorem cod_8 : lw_tbl[248]? = some (Jvm.Cond.code (mY 8) (mB 8) (mL 8) (mR 8)) := rfl
set_option maxRecDepth 100000 in
theorem cod_9 : lw_tbl[251]? = some (Jvm.Cond.code (mY 9) (mB 9) (mL 9) (mR 9)) := rfl
set_option maxRecDepth 100000 in
theorem cod_10 : lw_tbl[254]? = some (Jvm.Cond.code (mY 10) (mB 10) (mL 10) (mR 10)) := rfl
set_option maxRecDepth 100000 in
theorem cod_11 : lw_tbl[258]? = some (Jvm.Cond.code (mY 11) (mB 11) (mL 11) (mR 11)) := rfl
set_option maxRecDepth 100000 in
theorem cod_12 : lw_tbl[262]? = some (Jvm.Cond.code (mY 12) (mB 12) (mL 12) (mR 12)) := rfl
set_option maxRecDepth 100000 in
theorem cod_13 : lw_tbl[265]? = some (Jvm.Cond.code (mY 13) (mB 13) (mL 13) (mR 13)) := rfl
set_option maxRecDepth 100000 in
theorem cod_14 : lw_tbl[268]? = some (Jvm.Cond.code (mY 14) (mB 14) (mL 14) (mR 14)) := rfl
set_option maxRecDepth 100000 in
theorem cod_15 : lw_tbl[272]? = some (Jvm.Cond.code (mY 15) (mB 15) (mL 15) (mR 15)) := rfl
set_option maxRecDepth 100000 in
theorem cod_16 : lw_tbl[275]? = some (Jvm.Cond.code (mY 16) (mB 16) (mL 16) (mR 16)) := rfl
set_option maxRecDepth 100000 in
theorem cod_17 : lw_tbl[278]? = some (Jvm.Cond.code (mY 17) (mB 17) (mL 17) (mR 17)) := rfl
set_option maxRecDepth 100000 in
theorem cod_18 : lw_tbl[282]? = some (Jvm.Cond.code (mY 18) (mB 18) (mL 18) (mR 18)) := rfl
set_option maxRecDepth 100000 in
theorem cod_19 : lw_tbl[285]? = some (Jvm.Cond.code (mY 19) (mB 19) (mL 19) (mR 19)) := rfl
set_option maxRecDepth 100000 in
theorem cod_20 : lw_tbl[319]? = some (Jvm.Cond.code (mY 20) (mB 20) (mL 20) (mR 20)) := rfl
set_option maxRecDepth 100000 in
theorem cod_21 : lw_tbl[332]? = some (Jvm.Cond.code (mY 21) (mB 21) (mL 21) (mR 21)) := rfl
set_option maxRecDepth 100000 in
theorem cod_22 : lw_tbl[335]? = some (Jvm.Cond.code (mY 22) (mB 22) (mL 22) (mR 22)) := rfl
set_option maxRecDepth 100000 in
theorem cod_23 : lw_tbl[347]? = some (Jvm.Cond.code (mY 23) (mB 23) (mL 23) (mR 23)) := rfl
set_option maxRecDepth 100000 in
theorem cod_24 : lw_tbl[350]? = some (Jvm.Cond.code (mY 24) (mB 24) (mL 24) (mR 24)) := rfl
set_option maxRecDepth 100000 in
theorem cod_25 : lw_tbl[354]? = some (Jvm.Cond.code (mY 25) (mB 25) (mL 25) (mR 25)) := rfl
set_option maxRecDepth 100000 in
theorem cod_26 : lw_tbl[359]? = some (Jvm.Cond.code (mY 26) (mB 26) (mL 26) (mR 26)) := rfl
set_option maxRecDepth 100000 in
theorem cod_27 : lw_tbl[364]? = some (Jvm.Cond.code (mY 27) (mB 27) (mL 27) (mR 27)) := rfl
set_option maxRecDepth 100000 in
theorem cod_28 : lw_tbl[368]? = some (Jvm.Cond.code (mY 28) (mB 28) (mL 28) (mR 28)) := rfl
set_option maxRecDepth 100000 in
theorem cod_29 : lw_tbl[372]? = some (Jvm.Cond.code (mY 29) (mB 29) (mL 29) (mR 29)) := rfl
set_option maxRecDepth 100000 in
theorem cod_30 : lw_tbl[376]? = some (Jvm.Cond.code (mY 30) (mB 30) (mL 30) (mR 30)) := rfl
set_option maxRecDepth 100000 in
theorem cod_31 : lw_tbl[381]? = some (Jvm.Cond.code (mY 31) (mB 31) (mL 31) (mR 31)) := rfl
set_option maxRecDepth 100000 in
theorem cod_32 : lw_tbl[384]? = some (Jvm.Cond.code (mY 32) (mB 32) (mL 32) (mR 32)) := rfl
set_option maxRecDepth 100000 in
theorem cod_33 : lw_tbl[388]? = some (Jvm.Cond.code (mY 33) (mB 33) (mL 33) (mR 33)) := rfl
set_option maxRecDepth 100000 in
theorem cod_34 : lw_tbl[392]? = some (Jvm.Cond.code (mY 34) (mB 34) (mL 34) (mR 34)) := rfl
set_option maxRecDepth 100000 in
theorem cod_35 : lw_tbl[397]? = some (Jvm.Cond.code (mY 35) (mB 35) (mL 35) (mR 35)) := rfl
set_option maxRecDepth 100000 in
theorem cod_36 : lw_tbl[401]? = some (Jvm.Cond.code (mY 36) (mB 36) (mL 36) (mR 36)) := rfl
set_option maxRecDepth 100000 in
theorem cod_37 : lw_tbl[405]? = some (Jvm.Cond.code (mY 37) (mB 37) (mL 37) (mR 37)) := rfl
set_option maxRecDepth 100000 in
theorem cod_38 : lw_tbl[409]? = some (Jvm.Cond.code (mY 38) (mB 38) (mL 38) (mR 38)) := rfl
set_option maxRecDepth 100000 in
theorem cod_39 : lw_tbl[413]? = some (Jvm.Cond.code (mY 39) (mB 39) (mL 39) (mR 39)) := rfl
set_option maxRecDepth 100000 in
theorem cod_40 : lw_tbl[417]? = some (Jvm.Cond.code (mY 40) (mB 40) (mL 40) (mR 40)) := rfl
set_option maxRecDepth 100000 in
theorem cod_41 : lw_tbl[420]? = some (Jvm.Cond.code (mY 41) (mB 41) (mL 41) (mR 41)) := rfl
set_option maxRecDepth 100000 in
theorem cod_42 : lw_tbl[423]? = some (Jvm.Cond.code (mY 42) (mB 42) (mL 42) (mR 42)) := rfl
set_option maxRecDepth 100000 in
theorem cod_43 : lw_tbl[426]? = some (Jvm.Cond.code (mY 43) (mB 43) (mL 43) (mR 43)) := rfl
set_option maxRecDepth 100000 in
theorem cod_44 : lw_tbl[432]? = some (Jvm.Cond.code (mY 44) (mB 44) (mL 44) (mR 44)) := rfl
set_option maxRecDepth 100000 in
theorem cod_45 : lw_tbl[441]? = some (Jvm.Cond.code (mY 45) (mB 45) (mL 45) (mR 45)) := rfl
set_option maxRecDepth 100000 in
theorem cod_46 : lw_tbl[460]? = some (Jvm.Cond.code (mY 46) (mB 46) (mL 46) (mR 46)) := rfl
set_option maxRecDepth 100000 in
theorem cod_47 : lw_tbl[488]? = some (Jvm.Cond.code (mY 47) (mB 47) (mL 47) (mR 47)) := rfl
set_option maxRecDepth 100000 in
theorem cod_48 : lw_tbl[492]? = some (Jvm.Cond.code (mY 48) (mB 48) (mL 48) (mR 48)) := rfl
set_option maxRecDepth 100000 in
theorem cod_49 : lw_tbl[496]? = some (Jvm.Cond.code (mY 49) (mB 49) (mL 49) (mR 49)) := rfl
set_option maxRecDepth 100000 in
theorem cod_50 : lw_tbl[499]? = some (Jvm.Cond.code (mY 50) (mB 50) (mL 50) (mR 50)) := rfl
set_option maxRecDepth 100000 in
theorem cod_51 : lw_tbl[503]? = some (Jvm.Cond.code (mY 51) (mB 51) (mL 51) (mR 51)) := rfl
set_option maxRecDepth 100000 in
theorem cod_52 : lw_tbl[507]? = some (Jvm.Cond.code (mY 52) (mB 52) (mL 52) (mR 52)) := rfl
set_option maxRecDepth 100000 in
theorem cod_53 : lw_tbl[511]? = some (Jvm.Cond.code (mY 53) (mB 53) (mL 53) (mR 53)) := rfl
set_option maxRecDepth 100000 in
theorem cod_54 : lw_tbl[515]? = some (Jvm.Cond.code (mY 54) (mB 54) (mL 54) (mR 54)) := rfl
set_option maxRecDepth 100000 in
theorem cod_55 : lw_tbl[519]? = some (Jvm.Cond.code (mY 55) (mB 55) (mL 55) (mR 55)) := rfl
set_option maxRecDepth 100000 in
theorem cod_56 : lw_tbl[523]? = some (Jvm.Cond.code (mY 56) (mB 56) (mL 56) (mR 56)) := rfl
set_option maxRecDepth 100000 in
theorem cod_57 : lw_tbl[527]? = some (Jvm.Cond.code (mY 57) (mB 57) (mL 57) (mR 57)) := rfl
set_option maxRecDepth 100000 in
theorem cod_58 : lw_tbl[532]? = some (Jvm.Cond.code (mY 58) (mB 58) (mL 58) (mR 58)) := rfl
set_option maxRecDepth 100000 in
theorem cod_59 : lw_tbl[536]? = some (Jvm.Cond.code (mY 59) (mB 59) (mL 59) (mR 59)) := rfl
set_option maxRecDepth 100000 in
theorem cod_60 : lw_tbl[540]? = some (Jvm.Cond.code (mY 60) (mB 60) (mL 60) (mR 60)) := rfl
set_option maxRecDepth 100000 in
theorem cod_61 : lw_tbl[543]? = some (Jvm.Cond.code (mY 61) (mB 61) (mL 61) (mR 61)) := rfl
set_option maxRecDepth 100000 in
theorem cod_62 : lw_tbl[547]? = some (Jvm.Cond.code (mY 62) (mB 62) (mL 62) (mR 62)) := rfl
set_option maxRecDepth 100000 in
theorem cod_63 : lw_tbl[551]? = some (Jvm.Cond.code (mY 63) (mB 63) (mL 63) (mR 63)) := rfl
set_option maxRecDepth 100000 in
theorem cod_64 : lw_tbl[556]? = some (Jvm.Cond.code (mY 64) (mB 64) (mL 64) (mR 64)) := rfl
set_option maxRecDepth 100000 in
theorem cod_65 : lw_tbl[559]? = some (Jvm.Cond.code (mY 65) (mB 65) (mL 65) (mR 65)) := rfl
set_option maxRecDepth 100000 in
theorem cod_66 : lw_tbl[566]? = some (Jvm.Cond.code (mY 66) (mB 66) (mL 66) (mR 66)) := rfl
set_option maxRecDepth 100000 in
theorem cod_67 : lw_tbl[569]? = some (Jvm.Cond.code (mY 67) (mB 67) (mL 67) (mR 67)) := rfl
set_option maxRecDepth 100000 in
theorem cod_68 : lw_tbl[573]? = some (Jvm.Cond.code (mY 68) (mB 68) (mL 68) (mR 68)) := rfl
set_option maxRecDepth 100000 in
theorem cod_69 : lw_tbl[577]? = some (Jvm.Cond.code (mY 69) (mB 69) (mL 69) (mR 69)) := rfl
set_option maxRecDepth 100000 in
theorem cod_70 : lw_tbl[581]? = some (Jvm.Cond.code (mY 70) (mB 70) (mL 70) (mR 70)) := rfl
set_option maxRecDepth 100000 in
theorem cod_71 : lw_tbl[585]? = some (Jvm.Cond.code (mY 71) (mB 71) (mL 71) (mR 71)) := rfl
set_option maxRecDepth 100000 in
theorem cod_72 : lw_tbl[589]? = some (Jvm.Cond.code (mY 72) (mB 72) (mL 72) (mR 72)) := rfl
set_option maxRecDepth 100000 in
theorem cod_73 : lw_tbl[593]? = some (Jvm.Cond.code (mY 73) (mB 73) (mL 73) (mR 73)) := rfl
set_option maxRecDepth 100000 in
theorem cod_74 : lw_tbl[597]? = some (Jvm.Cond.code (mY 74) (mB 74) (mL 74) (mR 74)) := rfl
set_option maxRecDepth 100000 in
theorem cod_75 : lw_tbl[601]? = some (Jvm.Cond.code (mY 75) (mB 75) (mL 75) (mR 75)) := rfl
set_option maxRecDepth 100000 in
theorem cod_76 : lw_tbl[608]? = some (Jvm.Cond.code (mY 76) (mB 76) (mL 76) (mR 76)) := rfl
set_option maxRecDepth 100000 in
theorem cod_77 : lw_tbl[613]? = some (Jvm.Cond.code (mY 77) (mB 77) (mL 77) (mR 77)) := rfl
set_option maxRecDepth 100000 in
theorem cod_78 : lw_tbl[617]? = some (Jvm.Cond.code (mY 78) (mB 78) (mL 78) (mR 78)) := rfl
set_option maxRecDepth 100000 in
theorem cod_79 : lw_tbl[620]? = some (Jvm.Cond.code (mY 79) (mB 79) (mL 79) (mR 79)) := rfl
set_option maxRecDepth 100000 in
theorem cod_80 : lw_tbl[624]? = some (Jvm.Cond.code (mY 80) (mB 80) (mL 80) (mR 80)) := rfl
set_option maxRecDepth 100000 in
theorem cod_81 : lw_tbl[628]? = some (Jvm.Cond.code (mY 81) (mB 81) (mL 81) (mR 81)) := rfl
set_option maxRecDepth 100000 in
theorem cod_82 : lw_tbl[631]? = some (Jvm.Cond.code (mY 82) (mB 82) (mL 82) (mR 82)) := rfl
set_option maxRecDepth 100000 in
theorem cod_83 : lw_tbl[635]? = some (Jvm.Cond.code (mY 83) (mB 83) (mL 83) (mR 83)) := rfl
set_option maxRecDepth 100000 in
theorem cod_84 : lw_tbl[639]? = some (Jvm.Cond.code (mY 84) (mB 84) (mL 84) (mR 84)) := rfl
set_option maxRecDepth 100000 in
theorem cod_85 : lw_tbl[643]? = some (Jvm.Cond.code (mY 85) (mB 85) (mL 85) (mR 85)) := rfl
set_option maxRecDepth 100000 in
theorem cod_86 : lw_tbl[647]? = some (Jvm.Cond.code (mY 86) (mB 86) (mL 86) (mR 86)) := rfl
set_option maxRecDepth 100000 in
theorem cod_87 : lw_tbl[652]? = some (Jvm.Cond.code (mY 87) (mB 87) (mL 87) (mR 87)) := rfl
set_option maxRecDepth 100000 in
theorem cod_88 : lw_tbl[656]? = some (Jvm.Cond.code (mY 88) (mB 88) (mL 88) (mR 88)) := rfl
set_option maxRecDepth 100000 in
theorem cod_89 : lw_tbl[660]? = some (Jvm.Cond.code (mY 89) (mB 89) (mL 89) (mR 89)) := rfl
set_option maxRecDepth 100000 in
theorem cod_90 : lw_tbl[664]? = some (Jvm.Cond.code (mY 90) (mB 90) (mL 90) (mR 90)) := rfl
set_option maxRecDepth 100000 in
theorem cod_91 : lw_tbl[669]? = some (Jvm.Cond.code (mY 91) (mB 91) (mL 91) (mR 91)) := rfl
set_option maxRecDepth 100000 in
theorem cod_92 : lw_tbl[673]? = some (Jvm.Cond.code (mY 92) (mB 92) (mL 92) (mR 92)) := rfl
set_option maxRecDepth 100000 in
theorem cod_93 : lw_tbl[677]? = some (Jvm.Cond.code (mY 93) (mB 93) (mL 93) (mR 93)) := rfl
set_option maxRecDepth 100000 in
theorem cod_94 : lw_tbl[681]? = some (Jvm.Cond.code (mY 94) (mB 94) (mL 94) (mR 94)) := rfl
set_option maxRecDepth 100000 in
theorem cod_95 : lw_tbl[685]? = some (Jvm.Cond.code (mY 95) (mB 95) (mL 95) (mR 95)) := rfl
set_option maxRecDepth 100000 in
theorem cod_96 : lw_tbl[689]? = some (Jvm.Cond.code (mY 96) (mB 96) (mL 96) (mR 96)) := rfl
set_option maxRecDepth 100000 in
theorem cod_97 : lw_tbl[696]? = some (Jvm.Cond.code (mY 97) (mB 97) (mL 97) (mR 97)) := rfl
set_option maxRecDepth 100000 in
theorem cod_98 : lw_tbl[700]? = some (Jvm.Cond.code (mY 98) (mB 98) (mL 98) (mR 98)) := rfl
set_option maxRecDepth 100000 in
theorem cod_99 : lw_tbl[704]? = some (Jvm.Cond.code (mY 99) (mB 99) (mL 99) (mR 99)) := rfl
set_option maxRecDepth 100000 in
theorem cod_100 : lw_tbl[708]? = some (Jvm.Cond.code (mY 100) (mB 100) (mL 100) (mR 100)) := rfl
set_option maxRecDepth 100000 in
theorem cod_101 : lw_tbl[712]? = some (Jvm.Cond.code (mY 101) (mB 101) (mL 101) (mR 101)) := rfl
set_option maxRecDepth 100000 in
theorem cod_102 : lw_tbl[716]? = some (Jvm.Cond.code (mY 102) (mB 102) (mL 102) (mR 102)) := rfl
set_option maxRecDepth 100000 in
theorem cod_103 : lw_tbl[720]? = some (Jvm.Cond.code (mY 103) (mB 103) (mL 103) (mR 103)) := rfl
set_option maxRecDepth 100000 in
theorem cod_104 : lw_tbl[724]? = some (Jvm.Cond.code (mY 104) (mB 104) (mL 104) (mR 104)) := rfl
set_option maxRecDepth 100000 in
theorem cod_105 : lw_tbl[728]? = some (Jvm.Cond.code (mY 105) (mB 105) (mL 105) (mR 105)) := rfl
set_option maxRecDepth 100000 in
theorem cod_106 : lw_tbl[732]? = some (Jvm.Cond.code (mY 106) (mB 106) (mL 106) (mR 106)) := rfl
set_option maxRecDepth 100000 in
theorem cod_107 : lw_tbl[736]? = some (Jvm.Cond.code (mY 107) (mB 107) (mL 107) (mR 107)) := rfl
set_option maxRecDepth 100000 in
theorem cod_108 : lw_tbl[741]? = some (Jvm.Cond.code (mY 108) (mB 108) (mL 108) (mR 108)) := rfl
set_option maxRecDepth 100000 in
theorem cod_109 : lw_tbl[745]? = some (Jvm.Cond.code (mY 109) (mB 109) (mL 109) (mR 109)) := rfl
set_option maxRecDepth 100000 in
theorem cod_110 : lw_tbl[749]? = some (Jvm.Cond.code (mY 110) (mB 110) (mL 110) (mR 110)) := rfl
set_option maxRecDepth 100000 in
theorem cod_111 : lw_tbl[753]? = some (Jvm.Cond.code (mY 111) (mB 111) (mL 111) (mR 111)) := rfl
set_option maxRecDepth 100000 in
theorem cod_112 : lw_tbl[757]? = some (Jvm.Cond.code (mY 112) (mB 112) (mL 112) (mR 112)) := rfl
set_option maxRecDepth 100000 in
theorem cod_113 : lw_tbl[761]? = some (Jvm.Cond.code (mY 113) (mB 113) (mL 113) (mR 113)) := rfl
set_option maxRecDepth 100000 in
theorem cod_114 : lw_tbl[768]? = some (Jvm.Cond.code (mY 114) (mB 114) (mL 114) (mR 114)) := rfl
set_option maxRecDepth 100000 in
theorem cod_115 : lw_tbl[772]? = some (Jvm.Cond.code (mY 115) (mB 115) (mL 115) (mR 115)) := rfl
set_option maxRecDepth 100000 in
theorem cod_116 : lw_tbl[779]? = some (Jvm.Cond.code (mY 116) (mB 116) (mL 116) (mR 116)) := rfl
set_option maxRecDepth 100000 in
theorem cod_117 : lw_tbl[783]? = some (Jvm.Cond.code (mY 117) (mB 117) (mL 117) (mR 117)) := rfl
set_option maxRecDepth 100000 in
theorem cod_118 : lw_tbl[789]? = some (Jvm.Cond.code (mY 118) (mB 118) (mL 118) (mR 118)) := rfl
set_option maxRecDepth 100000 in
theorem cod_119 : lw_tbl[794]? = some (Jvm.Cond.code (mY 119) (mB 119) (mL 119) (mR 119)) := rfl
set_option maxRecDepth 100000 in
theorem cod_120 : lw_tbl[802]? = some (Jvm.Cond.code (mY 120) (mB 120) (mL 120) (mR 120)) := rfl
set_option maxRecDepth 100000 in
theorem cod_121 : lw_tbl[803]? = some (Jvm.Cond.code (mY 121) (mB 121) (mL 121) (mR 121)) := rfl
set_option maxRecDepth 100000 in
theorem cod_122 : lw_tbl[807]? = some (Jvm.Cond.code (mY 122) (mB 122) (mL 122) (mR 122)) := rfl
set_option maxRecDepth 100000 in
theorem cod_123 : lw_tbl[811]? = some (Jvm.Cond.code (mY 123) (mB 123) (mL 123) (mR 123)) := rfl
set_option maxRecDepth 100000 in
theorem cod_124 : lw_tbl[815]? = some (Jvm.Cond.code (mY 124) (mB 124) (mL 124) (mR 124)) := rfl
set_option maxRecDepth 100000 in
theorem cod_125 : lw_tbl[819]? = some (Jvm.Cond.code (mY 125) (mB 125) (mL 125) (mR 125)) := rfl
set_option maxRecDepth 100000 in
theorem cod_126 : lw_tbl[824]? = some (Jvm.Cond.code (mY 126) (mB 126) (mL 126) (mR 126)) := rfl
set_option maxRecDepth 100000 in
theorem cod_127 : lw_tbl[941]? = some (Jvm.Cond.code (mY 127) (mB 127) (mL 127) (mR 127)) := rfl
set_option maxRecDepth 100000 in
theorem cod_128 : lw_tbl[944]? = some (Jvm.Cond.code (mY 128) (mB 128) (mL 128) (mR 128)) := rfl
set_option maxRecDepth 100000 in
theorem cod_129 : lw_tbl[947]? = some (Jvm.Cond.code (mY 129) (mB 129) (mL 129) (mR 129)) := rfl
set_option maxRecDepth 100000 in
theorem cod_130 : lw_tbl[950]? = some (Jvm.Cond.code (mY 130) (mB 130) (mL 130) (mR 130)) := rfl
set_option maxRecDepth 100000 in
theorem cod_131 : lw_tbl[954]? = some (Jvm.Cond.code (mY 131) (mB 131) (mL 131) (mR 131)) := rfl
set_option maxRecDepth 100000 in
theorem cod_132 : lw_tbl[958]? = some (Jvm.Cond.code (mY 132) (mB 132) (mL 132) (mR 132)) := rfl
set_option maxRecDepth 100000 in
theorem cod_133 : lw_tbl[962]? = some (Jvm.Cond.code (mY 133) (mB 133) (mL 133) (mR 133)) := rfl
set_option maxRecDepth 100000 in
theorem cod_134 : lw_tbl[966]? = some (Jvm.Cond.code (mY 134) (mB 134) (mL 134) (mR 134)) := rfl
set_option maxRecDepth 100000 in
theorem cod_135 : lw_tbl[970]? = some (Jvm.Cond.code (mY 135) (mB 135) (mL 135) (mR 135)) := rfl
set_option maxRecDepth 100000 in
theorem cod_136 : lw_tbl[974]? = some (Jvm.Cond.code (mY 136) (mB 136) (mL 136) (mR 136)) := rfl
set_option maxRecDepth 100000 in
theorem cod_137 : lw_tbl[978]? = some (Jvm.Cond.code (mY 137) (mB 137) (mL 137) (mR 137)) := rfl
set_option maxRecDepth 100000 in
theorem cod_138 : lw_tbl[982]? = some (Jvm.Cond.code (mY 138) (mB 138) (mL 138) (mR 138)) := rfl
set_option maxRecDepth 100000 in
theorem cod_139 : lw_tbl[986]? = some (Jvm.Cond.code (mY 139) (mB 139) (mL 139) (mR 139)) := rfl
set_option maxRecDepth 100000 in
theorem cod_140 : lw_tbl[990]? = some (Jvm.Cond.code (mY 140) (mB 140) (mL 140) (mR 140)) := rfl
set_option maxRecDepth 100000 in
theorem cod_141 : lw_tbl[994]? = some (Jvm.Cond.code (mY 141) (mB 141) (mL 141) (mR 141)) := rfl
set_option maxRecDepth 100000 in
theorem cod_142 : lw_tbl[997]? = some (Jvm.Cond.code (mY 142) (mB 142) (mL 142) (mR 142)) := rfl
set_option maxRecDepth 100000 in
theorem cod_143 : lw_tbl[1001]? = some (Jvm.Cond.code (mY 143) (mB 143) (mL 143) (mR 143)) := rfl
set_option maxRecDepth 100000 in
theorem cod_144 : lw_tbl[1005]? = some (Jvm.Cond.code (mY 144) (mB 144) (mL 144) (mR 144)) := rfl
set_option maxRecDepth 100000 in
theorem cod_145 : lw_tbl[1009]? = some (Jvm.Cond.code (mY 145) (mB 145) (mL 145) (mR 145)) := rfl
set_option maxRecDepth 100000 in
theorem cod_146 : lw_tbl[1013]? = some (Jvm.Cond.code (mY 146) (mB 146) (mL 146) (mR 146)) := rfl
set_option maxRecDepth 100000 in
theorem cod_147 : lw_tbl[1017]? = some (Jvm.Cond.code (mY 147) (mB 147) (mL 147) (mR 147)) := rfl
set_option maxRecDepth 100000 in
theorem cod_148 : lw_tbl[1021]? = some (Jvm.Cond.code (mY 148) (mB 148) (mL 148) (mR 148)) := rfl
set_option maxRecDepth 100000 in
theorem cod_149 : lw_tbl[1025]? = some (Jvm.Cond.code (mY 149) (mB 149) (mL 149) (mR 149)) := rfl
set_option maxRecDepth 100000 in
theorem cod_150 : lw_tbl[1028]? = some (Jvm.Cond.code (mY 150) (mB 150) (mL 150) (mR 150)) := rfl
set_option maxRecDepth 100000 in
theorem cod_151 : lw_tbl[1032]? = some (Jvm.Cond.code (mY 151) (mB 151) (mL 151) (mR 151)) := rfl
set_option maxRecDepth 100000 in
theorem cod_152 : lw_tbl[1036]? = some (Jvm.Cond.code (mY 152) (mB 152) (mL 152) (mR 152)) := rfl
set_option maxRecDepth 100000 in
theorem cod_153 : lw_tbl[1040]? = some (Jvm.Cond.code (mY 153) (mB 153) (mL 153) (mR 153)) := rfl
set_option maxRecDepth 100000 in
theorem cod_154 : lw_tbl[1044]? = some (Jvm.Cond.code (mY 154) (mB 154) (mL 154) (mR 154)) := rfl
set_option maxRecDepth 100000 in
theorem cod_155 : lw_tbl[1047]? = some (Jvm.Cond.code (mY 155) (mB 155) (mL 155) (mR 155)) := rfl
set_option maxRecDepth 100000 in
theorem cod_156 : lw_tbl[1051]? = some (Jvm.Cond.code (mY 156) (mB 156) (mL 156) (mR 156)) := rfl
set_option maxRecDepth 100000 in
theorem cod_157 : lw_tbl[1055]? = some (Jvm.Cond.code (mY 157) (mB 157) (mL 157) (mR 157)) := rfl
set_option maxRecDepth 100000 in
theorem cod_158 : lw_tbl[1059]? = some (Jvm.Cond.code (mY 158) (mB 158) (mL 158) (mR 158)) := rfl
set_option maxRecDepth 100000 in
theorem cod_159 : lw_tbl[1063]? = some (Jvm.Cond.code (mY 159) (mB 159) (mL 159) (mR 159)) := rfl
set_option maxRecDepth 100000 in
theorem cod_160 : lw_tbl[1067]? = some (Jvm.Cond.code (mY 160) (mB 160) (mL 160) (mR 160)) := rfl
set_option maxRecDepth 100000 in
theorem cod_161 : lw_tbl[1071]? = some (Jvm.Cond.code (mY 161) (mB 161) (mL 161) (mR 161)) := rfl
set_option maxRecDepth 100000 in
theorem cod_162 : lw_tbl[1075]? = some (Jvm.Cond.code (mY 162) (mB 162) (mL 162) (mR 162)) := rfl
set_option maxRecDepth 100000 in
theorem cod_163 : lw_tbl[1079]? = some (Jvm.Cond.code (mY 163) (mB 163) (mL 163) (mR 163)) := rfl
set_option maxRecDepth 100000 in
theorem cod_164 : lw_tbl[1083]? = some (Jvm.Cond.code (mY 164) (mB 164) (mL 164) (mR 164)) := rfl
set_option maxRecDepth 100000 in
theorem cod_165 : lw_tbl[1087]? = some (Jvm.Cond.code (mY 165) (mB 165) (mL 165) (mR 165)) := rfl
set_option maxRecDepth 100000 in
theorem cod_166 : lw_tbl[1091]? = some (Jvm.Cond.code (mY 166) (mB 166) (mL 166) (mR 166)) := rfl
set_option maxRecDepth 100000 in
theorem cod_167 : lw_tbl[1095]? = some (Jvm.Cond.code (mY 167) (mB 167) (mL 167) (mR 167)) := rfl
set_option maxRecDepth 100000 in
theorem cod_168 : lw_tbl[1099]? = some (Jvm.Cond.code (mY 168) (mB 168) (mL 168) (mR 168)) := rfl
set_option maxRecDepth 100000 in
theorem cod_169 : lw_tbl[1103]? = some (Jvm.Cond.code (mY 169) (mB 169) (mL 169) (mR 169)) := rfl
set_option maxRecDepth 100000 in
theorem cod_170 : lw_tbl[1107]? = some (Jvm.Cond.code (mY 170) (mB 170) (mL 170) (mR 170)) := rfl
set_option maxRecDepth 100000 in
theorem cod_171 : lw_tbl[1111]? = some (Jvm.Cond.code (mY 171) (mB 171) (mL 171) (mR 171)) := rfl
set_option maxRecDepth 100000 in
theorem cod_172 : lw_tbl[1115]? = some (Jvm.Cond.code (mY 172) (mB 172) (mL 172) (mR 172)) := rfl
set_option maxRecDepth 100000 in
theorem cod_173 : lw_tbl[1119]? = some (Jvm.Cond.code (mY 173) (mB 173) (mL 173) (mR 173)) := rfl
set_option maxRecDepth 100000 in
theorem cod_174 : lw_tbl[1123]? = some (Jvm.Cond.code (mY 174) (mB 174) (mL 174) (mR 174)) := rfl
set_option maxRecDepth 100000 in
theorem cod_175 : lw_tbl[1127]? = some (Jvm.Cond.code (mY 175) (mB 175) (mL 175) (mR 175)) := rfl
set_option maxRecDepth 100000 in
theorem cod_176 : lw_tbl[1131]? = some (Jvm.Cond.code (mY 176) (mB 176) (mL 176) (mR 176)) := rfl
set_option maxRecDepth 100000 in
theorem cod_177 : lw_tbl[1135]? = some (Jvm.Cond.code (mY 177) (mB 177) (mL 177) (mR 177)) := rfl
set_option maxRecDepth 100000 in
theorem cod_178 : lw_tbl[1139]? = some (Jvm.Cond.code (mY 178) (mB 178) (mL 178) (mR 178)) := rfl
set_option maxRecDepth 100000 in
theorem cod_179 : lw_tbl[1143]? = some (Jvm.Cond.code (mY 179) (mB 179) (mL 179) (mR 179)) := rfl
set_option maxRecDepth 100000 in
theorem cod_180 : lw_tbl[1147]? = some (Jvm.Cond.code (mY 180) (mB 180) (mL 180) (mR 180)) := rfl
set_option maxRecDepth 100000 in
theorem cod_181 : lw_tbl[1151]? = some (Jvm.Cond.code (mY 181) (mB 181) (mL 181) (mR 181)) := rfl
set_option maxRecDepth 100000 in
theorem cod_182 : lw_tbl[1155]? = some (Jvm.Cond.code (mY 182) (mB 182) (mL 182) (mR 182)) := rfl
set_option maxRecDepth 100000 in
theorem cod_183 : lw_tbl[1159]? = some (Jvm.Cond.code (mY 183) (mB 183) (mL 183) (mR 183)) := rfl
set_option maxRecDepth 100000 in
theorem cod_184 : lw_tbl[1163]? = some (Jvm.Cond.code (mY 184) (mB 184) (mL 184) (mR 184)) := rfl
set_option maxRecDepth 100000 in
theorem cod_185 : lw_tbl[1167]? = some (Jvm.Cond.code (mY 185) (mB 185) (mL 185) (mR 185)) := rfl
set_option maxRecDepth 100000 in
theorem cod_186 : lw_tbl[1171]? = some (Jvm.Cond.code (mY 186) (mB 186) (mL 186) (mR 186)) := rfl
set_option maxRecDepth 100000 in
theorem cod_187 : lw_tbl[1175]? = some (Jvm.Cond.code (mY 187) (mB 187) (mL 187) (mR 187)) := rfl
set_option maxRecDepth 100000 in
theorem cod_188 : lw_tbl[1179]? = some (Jvm.Cond.code (mY 188) (mB 188) (mL 188) (mR 188)) := rfl
set_option maxRecDepth 100000 in
theorem cod_189 : lw_tbl[1183]? = some (Jvm.Cond.code (mY 189) (mB 189) (mL 189) (mR 189)) := rfl
set_option maxRecDepth 100000 in
theorem cod_190 : lw_tbl[1187]? = some (Jvm.Cond.code (mY 190) (mB 190) (mL 190) (mR 190)) := rfl
set_option maxRecDepth 100000 in
theorem cod_191 : lw_tbl[1191]? = some (Jvm.Cond.code (mY 191) (mB 191) (mL 191) (mR 191)) := rfl
set_option maxRecDepth 100000 in
theorem cod_192 : lw_tbl[1195]? = some (Jvm.Cond.code (mY 192) (mB 192) (mL 192) (mR 192)) := rfl
set_option maxRecDepth 100000 in
theorem cod_193 : lw_tbl[1199]? = some (Jvm.Cond.code (mY 193) (mB 193) (mL 193) (mR 193)) := rfl
set_option maxRecDepth 100000 in
theorem cod_194 : lw_tbl[1203]? = some (Jvm.Cond.code (mY 194) (mB 194) (mL 194) (mR 194)) := rfl
set_option maxRecDepth 100000 in
theorem cod_195 : lw_tbl[1207]? = some (Jvm.Cond.code (mY 195) (mB 195) (mL 195) (mR 195)) := rfl
set_option maxRecDepth 100000 in
theorem cod_196 : lw_tbl[1211]? = some (Jvm.Cond.code (mY 196) (mB 196) (mL 196) (mR 196)) := rfl
set_option maxRecDepth 100000 in
theorem cod_197 : lw_tbl[1215]? = some (Jvm.Cond.code (mY 197) (mB 197) (mL 197) (mR 197)) := rfl
set_option maxRecDepth 100000 in
theorem cod_198 : lw_tbl[1219]? = some (Jvm.Cond.code (mY 198) (mB 198) (mL 198) (mR 198)) := rfl
set_option maxRecDepth 100000 in
theorem cod_199 : lw_tbl[1223]? = some (Jvm.Cond.code (mY 199) (mB 199) (mL 199) (mR 199)) := rfl
set_option maxRecDepth 100000 in
theorem cod_200 : lw_tbl[1227]? = some (Jvm.Cond.code (mY 200) (mB 200) (mL 200) (mR 200)) := rfl
set_option maxRecDepth 100000 in
theorem cod_201 : lw_tbl[1231]? = some (Jvm.Cond.code (mY 201) (mB 201) (mL 201) (mR 201)) := rfl
set_option maxRecDepth 100000 in
theorem cod_202 : lw_tbl[1235]? = some (Jvm.Cond.code (mY 202) (mB 202) (mL 202) (mR 202)) := rfl
set_option maxRecDepth 100000 in
theorem cod_203 : lw_tbl[1239]? = some (Jvm.Cond.code (mY 203) (mB 203) (mL 203) (mR 203)) := rfl
set_option maxRecDepth 100000 in
theorem cod_204 : lw_tbl[1243]? = some (Jvm.Cond.code (mY 204) (mB 204) (mL 204) (mR 204)) := rfl
set_option maxRecDepth 100000 in
theorem cod_205 : lw_tbl[1247]? = some (Jvm.Cond.code (mY 205) (mB 205) (mL 205) (mR 205)) := rfl
set_option maxRecDepth 100000 in
theorem cod_206 : lw_tbl[1251]? = some (Jvm.Cond.code (mY 206) (mB 206) (mL 206) (mR 206)) := rfl
set_option maxRecDepth 100000 in
theorem cod_207 : lw_tbl[1255]? = some (Jvm.Cond.code (mY 207) (mB 207) (mL 207) (mR 207)) := rfl
theorem cod_all : ∀ y, y < 208 → lw_tbl[mW y]? = some (Jvm.Cond.code (mY y) (mB y) (mL y) (mR y))
  | 0, _ => cod_0
  | 1, _ => cod_1
  | 2, _ => cod_2
  | 3, _ => cod_3
  | 4, _ => cod_4
  | 5, _ => cod_5
  | 6, _ => cod_6
  | 7, _ => cod_7
  | 8, _ => cod_8
  | 9, _ => cod_9
  | 10, _ => cod_10
  | 11, _ => cod_11
  | 12, _ => cod_12
  | 13, _ => cod_13
  | 14, _ => cod_14
  | 15, _ => cod_15
  | 16, _ => cod_16
  | 17, _ => cod_17
  | 18, _ => cod_18
  | 19, _ => cod_19
  | 20, _ => cod_20
  | 21, _ => cod_21
  | 22, _ => cod_22
  | 23, _ => cod_23
  | 24, _ => cod_24
  | 25, _ => cod_25
  | 26, _ => cod_26
  | 27, _ => cod_27
  | 28, _ => cod_28
  | 29, _ => cod_29
  | 30, _ => cod_30
  | 31, _ => cod_31
  | 32, _ => cod_32
  | 33, _ => cod_33
  | 34, _ => cod_34
  | 35, _ => cod_35
  | 36, _ => cod_36
  | 37, _ => cod_37
  | 38, _ => cod_38
  | 39, _ => cod_39
  | 40, _ => cod_40
  | 41, _ => cod_41
  | 42, _ => cod_42
  | 43, _ => cod_43
  | 44, _ => cod_44
  | 45, _ => cod_45
  | 46, _ => cod_46
  | 47, _ => cod_47
  | 48, _ => cod_48
  | 49, _ => cod_49
  | 50, _ => cod_50
  | 51, _ => cod_51
  | 52, _ => cod_52
  | 53, _ => cod_53
  | 54, _ => cod_54
  | 55, _ => cod_55
  | 56, _ => cod_56
  | 57, _ => cod_57
  | 58, _ => cod_58
  | 59, _ => cod_59
  | 60, _ => cod_60
  | 61, _ => cod_61
  | 62, _ => cod_62
  | 63, _ => cod_63
  | 64, _ => cod_64
  | 65, _ => cod_65
  | 66, _ => cod_66
  | 67, _ => cod_67
  | 68, _ => cod_68
  | 69, _ => cod_69
  | 70, _ => cod_70
  | 71, _ => cod_71
  | 72, _ => cod_72
  | 73, _ => cod_73
  | 74, _ => cod_74
  | 75, _ => cod_75
  | 76, _ => cod_76
  | 77, _ => cod_77
  | 78, _ => cod_78
  | 79, _ => cod_79
  | 80, _ => cod_80
  | 81, _ => cod_81
  | 82, _ => cod_82
  | 83, _ => cod_83
  | 84, _ => cod_84
  | 85, _ => cod_85
  | 86, _ => cod_86
  | 87, _ => cod_87
  | 88, _ => cod_88
  | 89, _ => cod_89
  | 90, _ => cod_90
  | 91, _ => cod_91
  | 92, _ => cod_92
  | 93, _ => cod_93
  | 94, _ => cod_94
  | 95, _ => cod_95
  | 96, _ => cod_96
  | 97, _ => cod_97
  | 98, _ => cod_98
  | 99, _ => cod_99
  | 100, _ => cod_100
  | 101, _ => cod_101
  | 102, _ => cod_102
  | 103, _ => cod_103
  | 104, _ => cod_104
  | 105, _ => cod_105
  | 106, _ => cod_106
  | 107, _ => cod_107
  | 108, _ => cod_108
  | 109, _ => cod_109
  | 110, _ => cod_110
  | 111, _ => cod_111
  | 112, _ => cod_112
  | 113, _ => cod_113
  | 114, _ => cod_114
  | 115, _ => cod_115
  | 116, _ => cod_116
  | 117, _ => cod_117
  | 118, _ => cod_118
  | 119, _ => cod_119
  | 120, _ => cod_120
  | 121, _ => cod_121
  | 122, _ => cod_122
  | 123, _ => cod_123
  | 124, _ => cod_124
  | 125, _ => cod_125
  | 126, _ => cod_126
  | 127, _ => cod_127
  | 128, _ => cod_128
  | 129, _ => cod_129
  | 130, _ => cod_130
  | 131, _ => cod_131
  | 132, _ => cod_132
  | 133, _ => cod_133
  | 134, _ => cod_134
  | 135, _ => cod_135
  | 136, _ => cod_136
  | 137, _ => cod_137
  | 138, _ => cod_138
  | 139, _ => cod_139
  | 140, _ => cod_140
  | 141, _ => cod_141
  | 142, _ => cod_142
  | 143, _ => cod_143
  | 144, _ => cod_144
  | 145, _ => cod_145
  | 146, _ => cod_146
  | 147, _ => cod_147
  | 148, _ => cod_148
  | 149, _ => cod_149
  | 150, _ => cod_150
  | 151, _ => cod_151
  | 152, _ => cod_152
  | 153, _ => cod_153
  | 154, _ => cod_154
  | 155, _ => cod_155
  | 156, _ => cod_156
  | 157, _ => cod_157
  | 158, _ => cod_158
  | 159, _ => cod_159
  | 160, _ => cod_160
  | 161, _ => cod_161
  | 162, _ => cod_162
  | 163, _ => cod_163
  | 164, _ => cod_164
  | 165, _ => cod_165
  | 166, _ => cod_166
  | 167, _ => cod_167
  | 168, _ => cod_168
  | 169, _ => cod_169
  | 170, _ => cod_170
  | 171, _ => cod_171
  | 172, _ => cod_172
  | 173, _ => cod_173
  | 174, _ => cod_174
  | 175, _ => cod_175
  | 176, _ => cod_176
  | 177, _ => cod_177
  | 178, _ => cod_178
  | 179, _ => cod_179
  | 180, _ => cod_180
  | 181, _ => cod_181
  | 182, _ => cod_182
  | 183, _ => cod_183
  | 184, _ => cod_184
  | 185, _ => cod_185
  | 186, _ => cod_186
  | 187, _ => cod_187
  | 188, _ => cod_188
  | 189, _ => cod_189
  | 190, _ => cod_190
  | 191, _ => cod_191
  | 192, _ => cod_192
  | 193, _ => cod_193
  | 194, _ => cod_194
  | 195, _ => cod_195
  | 196, _ => cod_196
  | 197, _ => cod_197
  | 198, _ => cod_198
  | 199, _ => cod_199
  | 200, _ => cod_200
  | 201, _ => cod_201
  | 202, _ => cod_202
  | 203, _ => cod_203
  | 204, _ => cod_204
  | 205, _ => cod_205
  | 206, _ => cod_206
  | 207, _ => cod_207
  | n + 208, h => absurd h (by omega)
def okCal (q : Nat × Nat × Nat × Nat × Nat) : Bool := match q.2.2.1 with
  | 0 => wAt q.2.2.2.2 (.methodLink (on q.1) q.2.1 (mY q.2.2.2.1)) && wAt (at0 staTab q.2.2.2.1) (.static (mY q.2.2.2.1))
  | 1 => wAt q.2.2.2.2 (.methodLink (on q.1) q.2.1 (mY q.2.2.2.1)) && wAt (at0 staTab q.2.2.2.1) (.instanceMethod (mY q.2.2.2.1)) && wAt (at0 selTab q.2.2.2.1) (.selects (mY q.2.2.2.1).cls (mY q.2.2.2.1) (mY q.2.2.2.1)) && decide (mO q.2.2.2.1 < 13)
  | 2 => wAt q.2.2.2.2 (.methodLink (on q.1) q.2.1 (mY q.2.2.2.1)) && wAt (at0 staTab q.2.2.2.1) (.instanceMethod (mY q.2.2.2.1)) && decide ((mY q.2.2.2.1).name = "<init>") && decide (mR q.2.2.2.1 = none)
  | 3 => wAt q.2.2.2.2 (.methodLinkNest (on q.1) q.2.1 (mY q.2.2.2.1) "NutsUp") && wAt (at0 staTab q.2.2.2.1) (.static (mY q.2.2.2.1))
  | 4 => wAt q.2.2.2.2 (.methodLinkNest (on q.1) q.2.1 (mY q.2.2.2.1) "NutsUp") && wAt (at0 staTab q.2.2.2.1) (.instanceMethod (mY q.2.2.2.1)) && decide ((mY q.2.2.2.1).name = "<init>") && decide (mR q.2.2.2.1 = none)
  | 5 => true
  | 6 => wAt q.2.2.2.2 (.methodLink (on q.1) q.2.1 (mY q.2.2.2.1)) && wAt (at0 staTab q.2.2.2.1) (.instanceMethod (mY q.2.2.2.1)) && decide (q.1 < 13)
  | 7 => wAt q.2.2.2.2 (.methodLink (on q.1) q.2.1 arraycopyName)
  | 8 => wAt q.2.2.2.2 (.methodLink (on q.1) q.2.1 Lib.objectInit)
  | _ => false
theorem okCal_all : calTab.all okCal = true := by decide +kernel
def okVir (q : Nat × Nat × Nat × Nat × Nat × Nat × Nat × Nat × Nat) : Bool := wAt q.2.2.2.2.2.2.2.2 (.methodLink (on q.1) q.2.1 ⟨on q.2.2.2.2.2.1, (mY q.2.2.2.2.1).name, (mY q.2.2.2.2.1).desc⟩) && wAt q.2.2.2.2.2.2.1 (.sameMethod (on q.2.2.2.2.2.1) (mY q.2.2.2.2.1).cls (mY q.2.2.2.2.1).name (mY q.2.2.2.2.1).desc) && wAt q.2.2.2.2.2.2.2.1 (.selects (cn (q.2.2.1 - 1)) ⟨on q.2.2.2.2.2.1, (mY q.2.2.2.2.1).name, (mY q.2.2.2.2.1).desc⟩ (mY q.2.2.2.1)) && wAt (at0 staTab q.2.2.2.2.1) (.instanceMethod (mY q.2.2.2.2.1)) && wAt (at0 staTab q.2.2.2.1) (.instanceMethod (mY q.2.2.2.1)) && decide (q.2.2.2.2.1 < 208) && decide (mA q.2.2.2.2.1 = mA q.2.2.2.1) && decide (mA q.2.2.2.1 = 1) && decide (1 ≤ q.2.2.1 ∧ q.2.2.1 ≤ 13)
theorem okVir_all : virX.all okVir = true := by decide +kernel
theorem virX_all : virTab = virX.map (fun q => (q.1, q.2.1, q.2.2.1, q.2.2.2.1)) := by decide +kernel
def okSup (q : Nat × Nat × Nat × Nat × Nat) : Bool := wAt q.2.2.2.1 (.sameMethod (mY q.2.2.1).cls (mY q.2.2.1).cls (mY q.2.2.1).name (mY q.2.2.1).desc) && wAt q.2.2.2.2 (.superclass (on q.1) (mY q.2.2.1).cls) && decide ((mY q.2.2.1).name ≠ "<init>") && decide (on q.1 = cn q.1)
theorem okSup_all : supX.all okSup = true := by decide +kernel
theorem supX_all : calTab.all (fun q => q.2.2.1 != 6 || supX.any (fun z => z.1 == q.1 && z.2.1 == q.2.1 && z.2.2.1 == q.2.2.2.1)) = true := by decide +kernel
def okNew (q : Nat × Nat × Nat × Nat × Nat × Nat) : Bool := wAt q.2.2.2.1 (.classLink (on q.1) q.2.1 (cn q.2.2.1)) && wAt q.2.2.2.2.1 (.instantiable (cn q.2.2.1) (cSz q.2.2.1)) && wAt q.2.2.2.2.2 (.initialized (cn q.2.2.1)) && decide (q.2.2.1 < 13)
theorem okNew_all : newTab.all okNew = true := by decide +kernel
def okAnw (q : Nat × Nat × Nat × Nat × Nat) : Bool := wAt q.2.2.2.1 (.classLink (on q.1) q.2.1 (aName q.2.2.1)) && wAt q.2.2.2.2 (.arrayOver (.object (aName q.2.2.1))) && decide (21 ≤ q.2.2.1 ∧ q.2.2.1 ≤ 25)
theorem okAnw_all : anwTab.all okAnw = true := by decide +kernel
def okLdc (q : Nat × Nat × Int × Nat) : Bool := wAt q.2.2.2 (.constant (on q.1) q.2.1 (Int32.ofInt q.2.2.1))
theorem okLdc_all : ldcTab.all okLdc = true := by decide +kernel
def okLd2 (q : Nat × Nat × Int × Nat) : Bool := wAt q.2.2.2 (.constantLong (on q.1) q.2.1 (Int64.ofInt q.2.2.1))
theorem okLd2_all : ld2Tab.all okLd2 = true := by decide +kernel
theorem okStf_0 : wAt 343 (.fieldLinkNest (on 0) 37 "NutsUp" "FACTORIALS" "[I" "NutsUp") = true := by decide +kernel
theorem okStf_1 : wAt 427 (.fieldLinkNest (on 1) 21 "NutsUp" "LETTERS" "[I" "NutsUp") = true := by decide +kernel
theorem okArr : wAt 112 (.arrayClass .int) = true := by decide +kernel
theorem okCopyS : wAt 691 (.static arraycopyName) = true := by decide +kernel
theorem okCopyN : wAt 692 (.native arraycopyName) = true := by decide +kernel
theorem okCopyI : wAt 72 (.initialized "java/lang/System") = true := by decide +kernel
theorem okObj_0 : wAt 79 (.instanceMethod Lib.objectInit) = true := by decide +kernel
theorem okObj_1 : wAt 80 (.code Lib.objectInit ⟨#[0xb1]⟩ 1 none) = true := by decide +kernel
theorem okCast_4 : wAt 1261 (.castable "NutsUp$LongGrain" "NutsUp$Grain") = true := by decide +kernel
theorem okCast_6 : wAt 1262 (.castable "NutsUp$OilyGrain" "NutsUp$Grain") = true := by decide +kernel
end
section
/-! How a heap of the small machine lies in a heap of the machine: the role r at the address A r. -/
def ck (h : Hp) : Nat := h.2.2.2.2.1
def cu (h : Hp) : Nat := h.2.2.2.2.2
def cvv (A : Nat → Nat) : Value → Value
  | .ref r => .ref (A r)
  | v => v
def okv (h : Hp) : Value → Prop
  | .ref r => tg h r ≠ 0
  | _ => True
def okS (h : Hp) (l : List Value) : Prop := ∀ v ∈ l, okv h v
def elv (A : Nat → Nat) (h : Hp) (r j : Nat) : Value := if fl h r j = true then .ref (A (child r j)) else .null
def slv (A : Nat → Nat) (h : Hp) (ci r k : Nat) : Value := if rfs ci k = true then elv A h r k else .int (I (iv h r (k : Nat)))
abbrev tysOf (cI : ClassId) (cA : Nat → ClassId) : List (ClassId × FieldType) := [(cI, .int), (cA 21, .object (aName 21)), (cA 22, .object (aName 22)), (cA 23, .object (aName 23)), (cA 24, .object (aName 24)), (cA 25, .object (aName 25))]
def KF (D : va_G) (cI : ClassId) (cA : Nat → ClassId) (U : State) : Prop := va_K D classes (tysOf cI cA) U ∧ ∀ w ∈ nestWs, va_Nw w U
theorem KF.moved {D : va_G} {cI : ClassId} {cA : Nat → ClassId} {s U : State} (hW : s.WarmedH U.vm) (h : KF D cI cA s) : KF D cI cA U := by
  refine ⟨va_K.moved hW.alike h.1, fun w hw => ?_⟩
  have hz := h.2 w hw
  have hn : nestW w = true := (List.mem_filter.mp hw).2
  cases w with
  | methodLinkNest a i x hst => exact va_Nw.warmM hW hz
  | fieldLinkNest a i b n d hst => exact va_Nw.warmF hW hz
  | castable a b => exact va_Nw.warmC hW hz
  | arrayOver t =>
    cases t with
    | object C => exact va_AO.moved hW.alike hz
    | _ => simp [nestW] at hn
  | _ => simp [nestW] at hn
theorem cl_at {ci : Nat} (h : ci < 13) : classes[ci]? = some (cn ci, cT ci, cSz ci) := by
  simp [classes, List.getElem?_map, List.getElem?_range h]
def Cel (D : va_G) (cI : ClassId) (cA : Nat → ClassId) (base : Nat) (A : Nat → Nat) (h : Hp) (U : State) (H : Heap) (r : Nat) : Prop :=
  (∀ ci, tg h r = ci + 1 → ci < 13 → t_OB (A r) (D.1 ci) (cSz ci) (D.2 ci) H (slv A h ci r)) ∧
  (tg h r = 20 → H[A r]? = some (arrV cI (ln h r) (fun j => .int (I (iv h r (j : Nat)))))) ∧
  (21 ≤ tg h r → tg h r ≤ 25 → H[A r]? = some (arrV (cA (tg h r)) (ln h r) (elv A h r))) ∧
  (tg h r = 30 → va_T .int (A r) (ln h r) (fun j => .int (I (iv h r (j : Nat)))) (fun q => base ≤ q) U H)
def Rep (D : va_G) (cI : ClassId) (cA : Nat → ClassId) (base : Nat) (A : Nat → Nat) (h : Hp) (U : State) (H : Heap) : Prop :=
  H.size = base + ck h ∧ (∀ r, tg h r ≠ 0 → Cel D cI cA base A h U H r) ∧ (∀ r, tg h r ≠ 0 → tg h r ≠ 30 → base ≤ A r) ∧ (∀ r q, tg h r ≠ 0 → tg h r ≠ 30 → tg h q ≠ 0 → A r = A q → r = q) ∧
  (∀ r, tg h r ≠ 0 → tg h r ≤ 13 ∨ (20 ≤ tg h r ∧ tg h r ≤ 25) ∨ tg h r = 30) ∧ (∀ r k, tg h r ≠ 0 → fl h r k = true → tg h (child r k) ≠ 0) ∧ (∀ r, gw r = true → tg h r ≠ 30) ∧
  va_Z "NutsUp" "FACTORIALS" "[I" (.ref (A 500)) (fun q => base ≤ q) U H ∧ va_Z "NutsUp" "LETTERS" "[I" (.ref (A 501)) (fun q => base ≤ q) U H
section REP
variable {D : va_G} {cI : ClassId} {cA : Nat → ClassId} {base : Nat} {A : Nat → Nat} {h : Hp} {U : State} {H : Heap}
theorem Rep.moved {u : State} (hvm : u.vm.Alike U.vm) (hr : Rep D cI cA base A h u H) : Rep D cI cA base A h U H := by
  obtain ⟨a, b, c, d, e, f, g, z1, z2⟩ := hr
  exact ⟨a, fun r hr => ⟨(b r hr).1, (b r hr).2.1, (b r hr).2.2.1, fun q => va_T.moved hvm ((b r hr).2.2.2 q)⟩, c, d, e, f, g, va_Z.moved hvm z1, va_Z.moved hvm z2⟩
theorem child_ne (r k : Nat) : child r k ≠ 37 ∧ child r k ≠ 38 ∧ child r k ≠ 500 ∧ child r k ≠ 501 := by
  unfold child
  grind (splits := 60)
/-- of a role whose cell can become another one: who can hold it -/
def par (c : Nat) : Nat × Nat := if c = 3 then (1, 4) else if c < 24 then (19, c - 20) else if c < 27 then (0, c - 10) else if c < 37 then (2, c - 30) else (c - 3, 1)
theorem par_child (r k : Nat) (hg : gw (child r k) = true) : par (child r k) = (r, k) := by
  have key : ∀ c, gw c = true → child r k = c → par c = (r, k) := by
    intro c hc he
    simp only [gw, Bool.or_eq_true, Bool.and_eq_true, beq_iff_eq, decide_eq_true_eq] at hc
    unfold child at he
    unfold par
    grind (splits := 60)
  exact key _ hg rfl
theorem Cel.kept {A1 : Nat → Nat} {h1 : Hp} {H1 : Heap} {r : Nat} (hz : H.size ≤ H1.size) (hc : Cel D cI cA base A h U H r) (ha : A1 r = A r) (ht : tg h1 r = tg h r) (hl : ln h1 r = ln h r) (hi : ∀ z, iv h1 r z = iv h r z) (hf : ∀ k, fl h1 r k = fl h r k) (hch : ∀ k, fl h r k = true → A1 (child r k) = A (child r k)) (hq : H1[A r]? = H[A r]?) : Cel D cI cA base A1 h1 U H1 r := by
  have he : ∀ k, elv A1 h1 r k = elv A h r k := by
    intro k
    unfold elv
    rw [hf k]
    by_cases hk : fl h r k = true
    · rw [if_pos hk, if_pos hk, hch k hk]
    · rw [if_neg hk, if_neg hk]
  obtain ⟨c1, c2, c3, c4⟩ := hc
  refine ⟨fun ci h1' h2' => ?_, fun h1' => ?_, fun h1' h2' => ?_, fun h1' => ?_⟩
  · rw [ht] at h1'
    rw [ha]
    refine ((c1 ci h1' h2').kept hq).to (fun k _ => ?_)
    unfold slv
    rw [he k, hi]
  · rw [ht] at h1'
    rw [ha, hq, c2 h1', hl]
    congr 2
    funext j
    rw [hi]
  · rw [ht] at h1' h2' ⊢
    rw [ha, hq, c3 h1' h2', hl]
    congr 2
    funext j
    rw [he]
  · rw [ht] at h1'
    obtain ⟨cell, g1, g2, g3, g4, g5, g6, g7⟩ := c4 h1'
    rw [ha, hl]
    exact ⟨cell, by rw [hq]; exact g1, g2, g3, g4, g5, fun j hj => by show _ = some (Value.int (I (iv h1 r _))); rw [hi]; exact g6 j hj, g7⟩
theorem zk {H1 : Heap} {C n d : String} {v : Value} (hz : va_Z C n d v (fun q => base ≤ q) U H) (hq : ∀ q, q < H.size → ¬ base ≤ q → H1[q]? = H[q]?) : va_Z C n d v (fun q => base ≤ q) U H1 := va_Z.kept hz hq
/-- a cell of the role r is written: its new contents are given -/
theorem Rep.put {h1 : Hp} {H1 : Heap} {r : Nat} (hr : Rep D cI cA base A h U H) (ht : tg h r ≠ 0) (ht3 : tg h r ≠ 30) (hz : H1.size = H.size) (oq : ∀ q, q ≠ A r → H1[q]? = H[q]?) (hk : ck h1 = ck h) (hT : ∀ q, tg h1 q = tg h q) (hL : ∀ q, ln h1 q = ln h q)
    (hI : ∀ q, q ≠ r → ∀ z, iv h1 q z = iv h q z) (hF : ∀ q k, q ≠ r → fl h1 q k = fl h q k) (hF2 : ∀ k, fl h1 r k = true → tg h (child r k) ≠ 0) (hn : Cel D cI cA base A h1 U H1 r) : Rep D cI cA base A h1 U H1 := by
  obtain ⟨a, b, c, d, e, f, g, z1, z2⟩ := hr
  have hb := c r ht ht3
  have ne : ∀ q, tg h q ≠ 0 → q ≠ r → A q ≠ A r := fun q hq hqr e => hqr (d r q ht ht3 hq e.symm).symm
  refine ⟨by rw [hz, hk]; exact a, fun q hq => ?_, fun q hq hq3 => ?_, fun q w hq hq3 hw he => ?_, fun q hq => ?_, fun q k hq hfl => ?_, fun q hq => ?_, zk z1 (fun q _ hq => oq q (fun e => hq (by rw [e]; exact hb))), zk z2 (fun q _ hq => oq q (fun e => hq (by rw [e]; exact hb)))⟩
  · rw [hT] at hq
    by_cases hqr : q = r
    · subst hqr
      exact hn
    · exact Cel.kept (Nat.le_of_eq hz.symm) (b q hq) rfl (hT q) (hL q) (hI q hqr) (fun k => hF q k hqr) (fun _ _ => rfl) (oq _ (ne q hq hqr))
  · rw [hT] at hq hq3; exact c q hq hq3
  · rw [hT] at hq hq3 hw; exact d q w hq hq3 hw he
  · rw [hT] at hq ⊢; exact e q hq
  · rw [hT] at hq ⊢
    by_cases hqr : q = r
    · subst hqr; exact hF2 k hfl
    · rw [hF q k hqr] at hfl; exact f q k hq hfl
  · rw [hT]; exact g q hq
theorem tg_setI (h : Hp) (r : Nat) (k v : Int) (q : Nat) : tg (setI h r k v) q = tg h q := rfl
theorem iv_setI (h : Hp) (r : Nat) (k v : Int) (q : Nat) (z : Int) : iv (setI h r k v) q z = if q = r ∧ z = k then v else iv h q z := rfl
theorem iv_setR (h : Hp) (r : Nat) (f : Int → Int) (q : Nat) (z : Int) : iv (setR h r f) q z = if q = r then f z else iv h q z := by
  by_cases e : q = r
  · rw [if_pos e]; exact congrFun (if_pos e) z
  · rw [if_neg e]; exact congrFun (if_neg e) z
theorem fl_setF (h : Hp) (r k q j : Nat) : fl (setF h r k) q j = if q = r ∧ j = k then true else fl h q j := rfl
/-- a number is laid into a field -/
theorem Rep.setObj {H1 : Heap} {r ci k : Nat} {x : Int32} (hr : Rep D cI cA base A h U H) (ht : tg h r = ci + 1) (hci : ci < 13) (hrf : rfs ci k = false) (hz : H1.size = H.size) (oq : ∀ q, q ≠ A r → H1[q]? = H[q]?)
    (ho : t_OB (A r) (D.1 ci) (cSz ci) (D.2 ci) H1 (updV (slv A h ci r) k (.int x))) : Rep D cI cA base A (setI h r (k : Nat) x.toInt) U H1 := by
  refine hr.put (r := r) (by omega) (by omega) hz oq rfl (fun _ => rfl) (fun _ => rfl) (fun q hq z => ?_) (fun _ _ _ => rfl) (fun j hj => hr.2.2.2.2.2.1 r j (by omega) hj) ⟨fun ci' h1 h2 => ?_, fun h1 => ?_, fun h1 => ?_, fun h1 => ?_⟩
  · rw [iv_setI, if_neg (fun e => hq e.1)]
  · rw [tg_setI, ht] at h1
    have e : ci' = ci := by omega
    subst e
    refine ho.to (fun j _ => ?_)
    unfold updV slv
    by_cases hj : j = k
    · subst hj
      rw [if_pos rfl, if_neg (by rw [hrf]; decide), iv_setI, if_pos ⟨rfl, rfl⟩]
      simp [I]
    · rw [if_neg hj, iv_setI, if_neg (fun e : r = r ∧ ((j : Nat) : Int) = (k : Nat) => hj (Int.ofNat.inj e.2))]
      rfl
  all_goals (rw [tg_setI, ht] at h1; omega)
/-- a link is laid into a field -/
theorem Rep.setLink {H1 : Heap} {r ci k : Nat} (hr : Rep D cI cA base A h U H) (ht : tg h r = ci + 1) (hci : ci < 13) (hrf : rfs ci k = true) (hch : tg h (child r k) ≠ 0) (hz : H1.size = H.size) (oq : ∀ q, q ≠ A r → H1[q]? = H[q]?)
    (ho : t_OB (A r) (D.1 ci) (cSz ci) (D.2 ci) H1 (updV (slv A h ci r) k (.ref (A (child r k))))) : Rep D cI cA base A (setF h r k) U H1 := by
  refine hr.put (r := r) (by omega) (by omega) hz oq rfl (fun _ => rfl) (fun _ => rfl) (fun q hq z => rfl) (fun q j hq => ?_) (fun j hj => ?_) ⟨fun ci' h1 h2 => ?_, fun h1 => ?_, fun h1 => ?_, fun h1 => ?_⟩
  · rw [fl_setF, if_neg (fun e => hq e.1)]
  · rw [fl_setF] at hj
    by_cases hjk : j = k
    · subst hjk; exact hch
    · rw [if_neg (fun e : r = r ∧ j = k => hjk e.2)] at hj; exact hr.2.2.2.2.2.1 r j (by omega) hj
  · have h1 : tg h r = ci' + 1 := h1
    have e : ci' = ci := by omega
    subst e
    refine ho.to (fun j _ => ?_)
    unfold updV slv elv
    by_cases hj : j = k
    · subst hj
      rw [if_pos rfl, if_pos hrf, fl_setF, if_pos (⟨rfl, rfl⟩ : r = r ∧ j = j)]
      rfl
    · rw [if_neg hj, fl_setF, if_neg (fun e : r = r ∧ j = k => hj e.2)]
      rfl
  · have h1 : tg h r = 20 := h1
    omega
  · have h1 : 21 ≤ tg h r := h1
    omega
  · have h1 : tg h r = 30 := h1
    omega
theorem Rep.setElL {H1 : Heap} {r k : Nat} (hr : Rep D cI cA base A h U H) (ht : 21 ≤ tg h r) (ht2 : tg h r ≤ 25) (hch : tg h (child r k) ≠ 0) (hz : H1.size = H.size) (oq : ∀ q, q ≠ A r → H1[q]? = H[q]?)
    (ho : H1[A r]? = some (arrV (cA (tg h r)) (ln h r) (updV (elv A h r) k (.ref (A (child r k)))))) : Rep D cI cA base A (setF h r k) U H1 := by
  refine hr.put (r := r) (by omega) (by omega) hz oq rfl (fun _ => rfl) (fun _ => rfl) (fun q hq z => rfl) (fun q j hq => ?_) (fun j hj => ?_) ⟨fun ci' h1 h2 => ?_, fun h1 => ?_, fun h1 h2 => ?_, fun h1 => ?_⟩
  · rw [fl_setF, if_neg (fun e => hq e.1)]
  · rw [fl_setF] at hj
    by_cases hjk : j = k
    · subst hjk; exact hch
    · rw [if_neg (fun e : r = r ∧ j = k => hjk e.2)] at hj; exact hr.2.2.2.2.2.1 r j (by omega) hj
  · have h1 : tg h r = ci' + 1 := h1
    omega
  · have h1 : tg h r = 20 := h1
    omega
  · rw [ho]
    show _ = some (arrV (cA (tg h r)) (ln h r) _)
    congr 2
    funext j
    unfold updV elv
    by_cases hj : j = k
    · subst hj
      rw [if_pos rfl, fl_setF, if_pos (⟨rfl, rfl⟩ : r = r ∧ j = j)]
      rfl
    · rw [if_neg hj, fl_setF, if_neg (fun e : r = r ∧ j = k => hj e.2)]
  · have h1 : tg h r = 30 := h1
    omega
/-- numbers of an array are laid anew -/
theorem Rep.setArr {H1 : Heap} {r : Nat} {h1 : Hp} (hr : Rep D cI cA base A h U H) (ht : tg h r = 20) (hk : ck h1 = ck h) (hT : ∀ q, tg h1 q = tg h q) (hL : ∀ q, ln h1 q = ln h q)
    (hI : ∀ q, q ≠ r → ∀ z, iv h1 q z = iv h q z) (hF : ∀ q k, fl h1 q k = fl h q k) (hz : H1.size = H.size) (oq : ∀ q, q ≠ A r → H1[q]? = H[q]?)
    (ho : H1[A r]? = some (arrV cI (ln h r) (fun j => .int (I (iv h1 r (j : Nat)))))) : Rep D cI cA base A h1 U H1 := by
  refine hr.put (r := r) (by omega) (by omega) hz oq hk hT hL hI (fun q k _ => hF q k) (fun j hj => ?_) ⟨fun ci' h1' h2 => ?_, fun h1' => ?_, fun h1' h2 => ?_, fun h1' => ?_⟩
  · rw [hF] at hj; exact hr.2.2.2.2.2.1 r j (by omega) hj
  · rw [hT] at h1'; omega
  · rw [hL]; exact ho
  · rw [hT] at h1' h2; omega
  · rw [hT] at h1'; omega
theorem tg_mk (h : Hp) (q t n u w : Nat) : tg (mk h q t n u) w = if w = q then t else tg h w := rfl
theorem ln_mk (h : Hp) (q t n u w : Nat) : ln (mk h q t n u) w = if w = q then n else ln h w := rfl
theorem iv_mk (h : Hp) (q t n u w : Nat) (z : Int) : iv (mk h q t n u) w z = if w = q then 0 else iv h w z := by
  by_cases e : w = q
  · rw [if_pos e]; exact congrFun (if_pos e) z
  · rw [if_neg e]; exact congrFun (if_neg e) z
theorem fl_mk (h : Hp) (q t n u w j : Nat) : fl (mk h q t n u) w j = if w = q then false else fl h w j := by
  by_cases e : w = q
  · rw [if_pos e]; exact congrFun (if_pos e) j
  · rw [if_neg e]; exact congrFun (if_neg e) j
/-- a cell is made -/
theorem Rep.make {H1 : Heap} {q t n u : Nat} (hr : Rep D cI cA base A h U H) (h0 : tg h q = 0) (hq5 : q ≠ 500 ∧ q ≠ 501) (ht : (1 ≤ t ∧ t ≤ 13) ∨ (20 ≤ t ∧ t ≤ 25)) (hz : H1.size = H.size + 1) (oq : ∀ a, a < H.size → H1[a]? = H[a]?)
    (ho : (∀ ci, t = ci + 1 → ci < 13 → t_OB H.size (D.1 ci) (cSz ci) (D.2 ci) H1 (fun k => if rfs ci k = true then .null else .int (I 0))) ∧ (t = 20 → H1[H.size]? = some (arrV cI n (fun _ => .int (I 0)))) ∧ (21 ≤ t → t ≤ 25 → H1[H.size]? = some (arrV (cA t) n (fun _ => .null)))) :
    Rep D cI cA base (up1 A q H.size) (mk h q t n u) U H1 := by
  obtain ⟨a, b, c, d, e, f, g, z1, z2⟩ := hr
  have lt : ∀ w, tg h w ≠ 0 → A w < H.size := by
    intro w hw
    obtain ⟨b1, b2, b3, b4⟩ := b w hw
    rcases e w hw with e1 | e1 | e1
    · obtain ⟨cell, h2, -⟩ := b1 (tg h w - 1) (by omega) (by omega)
      exact (Array.getElem?_eq_some_iff.mp h2).1
    · by_cases h20 : tg h w = 20
      · exact (Array.getElem?_eq_some_iff.mp (b2 h20)).1
      · exact (Array.getElem?_eq_some_iff.mp (b3 (by omega) e1.2)).1
    · obtain ⟨cell, h2, -⟩ := b4 e1
      exact (Array.getElem?_eq_some_iff.mp h2).1
  have hA : ∀ w, w ≠ q → up1 A q H.size w = A w := fun w hw => by unfold up1; rw [if_neg hw]
  have hAq : up1 A q H.size q = H.size := by unfold up1; rw [if_pos rfl]
  have hne : ∀ w, tg h w ≠ 0 → w ≠ q := fun w hw e => hw (by rw [e]; exact h0)
  refine ⟨by rw [hz, a]; rfl, fun w hw => ?_, fun w hw hw3 => ?_, fun w v hw hw3 hv he => ?_, fun w hw => ?_, fun w k hw hfl => ?_, fun w hg => ?_, ?_, ?_⟩
  · rw [tg_mk] at hw
    by_cases hwq : w = q
    · subst hwq
      obtain ⟨o1, o2, o3⟩ := ho
      refine ⟨fun ci h1 h2 => ?_, fun h1 => ?_, fun h1 h2 => ?_, fun h1 => ?_⟩
      · rw [tg_mk, if_pos rfl] at h1
        rw [hAq]
        refine (o1 ci h1 h2).to (fun k _ => ?_)
        unfold slv elv
        rw [fl_mk, if_pos rfl, iv_mk, if_pos rfl]
        rfl
      · rw [tg_mk, if_pos rfl] at h1
        rw [hAq, o2 h1, ln_mk, if_pos rfl]
        congr 2
        funext j
        rw [iv_mk, if_pos rfl]
      · rw [tg_mk, if_pos rfl] at h1 h2 ⊢
        rw [hAq, o3 h1 h2, ln_mk, if_pos rfl]
        congr 2
        funext j
        unfold elv
        rw [fl_mk, if_pos rfl]
        rfl
      · rw [tg_mk, if_pos rfl] at h1
        omega
    · rw [if_neg hwq] at hw
      exact Cel.kept (by omega) (b w hw) (hA w hwq) (by rw [tg_mk, if_neg hwq]) (by rw [ln_mk, if_neg hwq]) (fun z => by rw [iv_mk, if_neg hwq]) (fun k => by rw [fl_mk, if_neg hwq]) (fun k hk => hA _ (hne _ (f w k hw hk))) (oq _ (lt w hw))
  · rw [tg_mk] at hw hw3
    by_cases hwq : w = q
    · rw [hwq, hAq, a]; omega
    · rw [if_neg hwq] at hw hw3
      rw [hA w hwq]; exact c w hw hw3
  · rw [tg_mk] at hw hw3 hv
    by_cases hwq : w = q
    · subst hwq
      by_cases hvw : v = w
      · exact hvw.symm
      · rw [if_neg hvw] at hv
        rw [hAq, hA v hvw] at he
        have := lt v hv
        omega
    · rw [if_neg hwq] at hw hw3
      rw [hA w hwq] at he
      by_cases hvq : v = q
      · subst hvq
        rw [hAq] at he
        have := lt w hw
        omega
      · rw [if_neg hvq] at hv
        rw [hA v hvq] at he
        exact d w v hw hw3 hv he
  · rw [tg_mk] at hw ⊢
    by_cases hwq : w = q
    · rw [if_pos hwq]; omega
    · rw [if_neg hwq] at hw ⊢; exact e w hw
  · rw [tg_mk] at hw ⊢
    rw [fl_mk] at hfl
    by_cases hwq : w = q
    · rw [if_pos hwq] at hfl; cases hfl
    · rw [if_neg hwq] at hw hfl
      have h2 := f w k hw hfl
      rw [if_neg (hne _ h2)]
      exact h2
  · rw [tg_mk]
    split
    · omega
    · exact g w hg
  · rw [hA 500 (Ne.symm hq5.1)]
    exact zk z1 (fun q h1 _ => oq q h1)
  · rw [hA 501 (Ne.symm hq5.2)]
    exact zk z2 (fun q h1 _ => oq q h1)
theorem tg_mov (h : Hp) (r k c q w : Nat) : tg (mov h r k c q) w = if w = q then 0 else if w = c then tg h q else tg h w := rfl
theorem ln_mov (h : Hp) (r k c q w : Nat) : ln (mov h r k c q) w = if w = c then ln h q else ln h w := rfl
theorem iv_mov (h : Hp) (r k c q w : Nat) (z : Int) : iv (mov h r k c q) w z = if w = c then iv h q z else iv h w z := by
  by_cases e : w = c
  · rw [if_pos e]; exact congrFun (if_pos e) z
  · rw [if_neg e]; exact congrFun (if_neg e) z
theorem fl_mov (h : Hp) (r k c q w j : Nat) : fl (mov h r k c q) w j = if w = r ∧ j = k then true else if w = c then false else fl h w j := by
  by_cases e1 : w = r ∧ j = k
  · rw [if_pos e1]; exact if_pos e1
  · rw [if_neg e1]
    refine (if_neg e1).trans ?_
    by_cases e : w = c
    · rw [if_pos e]; exact congrFun (if_pos e) j
    · rw [if_neg e]; exact congrFun (if_neg e) j
theorem rfs_grain (ci : Nat) (h : ci = 2 ∨ ci = 4 ∨ ci = 6) (k : Nat) (hk : k < cSz ci) : rfs ci k = false := by
  have key : ∀ ci, ci < 13 → (ci == 2 || ci == 4 || ci == 6) = true → ∀ k, k < cSz ci → rfs ci k = false := by decide +kernel
  exact key ci (by omega) (by rcases h with rfl | rfl | rfl <;> rfl) k hk
/-- what was made comes to its place -/
theorem Rep.move {H1 : Heap} {r k q : Nat} (hr : Rep D cI cA base A h U H) (ht : tg h r ≠ 0) (ht3 : tg h r ≠ 30) (hg : gw (child r k) = true) (hgr : gw r = false) (hq : (q = 38 ∧ tg h q = 20) ∨ (q = 37 ∧ (tg h q = 3 ∨ tg h q = 5 ∨ tg h q = 7)))
    (hz : H1.size = H.size) (oq : ∀ a, a ≠ A r → H1[a]? = H[a]?) (hn : Cel D cI cA base (up1 A (child r k) (A q)) (mov h r k (child r k) q) U H1 r) : Rep D cI cA base (up1 A (child r k) (A q)) (mov h r k (child r k) q) U H1 := by
  obtain ⟨a, b, c, d, e, f, g, z1, z2⟩ := hr
  generalize hcd : child r k = w at *
  have hwq : w ≠ q := by
    have := child_ne r k
    rw [hcd] at this
    omega
  have hw5 : w ≠ 500 ∧ w ≠ 501 := by
    have := child_ne r k
    rw [hcd] at this
    exact this.2.2
  have hwr : w ≠ r := fun e => by rw [e, hgr] at hg; cases hg
  have hqr : q ≠ r := fun e => by
    rw [← e] at hgr
    rcases hq with hq | hq <;> (rw [hq.1] at hgr; revert hgr; decide)
  have hq0 : tg h q ≠ 0 := by omega
  have hq3 : tg h q ≠ 30 := by omega
  have hA : ∀ v, v ≠ w → up1 A w (A q) v = A v := fun v hv => by unfold up1; rw [if_neg hv]
  have hAw : up1 A w (A q) w = A q := by unfold up1; rw [if_pos rfl]
  have hb := c r ht ht3
  have ne : ∀ v, tg h v ≠ 0 → v ≠ r → A v ≠ A r := fun v hv hvr e => hvr (d r v ht ht3 hv e.symm).symm
  have key : ∀ v, tg (mov h r k w q) v ≠ 0 → v ≠ q ∧ ((v = w) ∨ (v ≠ w ∧ tg h v ≠ 0 ∧ tg (mov h r k w q) v = tg h v)) := by
    intro v hv
    rw [tg_mov] at hv ⊢
    by_cases h1 : v = q
    · rw [if_pos h1] at hv; exact absurd rfl hv
    · rw [if_neg h1] at hv ⊢
      by_cases h2 : v = w
      · exact ⟨h1, Or.inl h2⟩
      · rw [if_neg h2] at hv ⊢; exact ⟨h1, Or.inr ⟨h2, hv, rfl⟩⟩
  have tw : tg (mov h r k w q) w = tg h q := by rw [tg_mov, if_neg hwq, if_pos rfl]
  refine ⟨by rw [hz]; exact a, fun v hv => ?_, fun v hv hv3 => ?_, fun v u hv hv3 hu he => ?_, fun v hv => ?_, fun v j hv hfl => ?_, fun v hv => ?_, ?_, ?_⟩
  · obtain ⟨h1, h2 | ⟨h2, h3, h4⟩⟩ := key v hv
    · subst h2
      obtain ⟨b1, b2, b3, b4⟩ := b q hq0
      refine ⟨fun ci i1 i2 => ?_, fun i1 => ?_, fun i1 i2 => ?_, fun i1 => ?_⟩
      · rw [tw] at i1
        rw [hAw]
        refine ((b1 ci i1 i2).kept (oq _ (ne q hq0 hqr))).to (fun j hj => ?_)
        have hrf : rfs ci j = false := rfs_grain ci (by omega) j hj
        unfold slv
        rw [if_neg (by rw [hrf]; decide), if_neg (by rw [hrf]; decide), iv_mov, if_pos rfl]
      · rw [tw] at i1
        rw [hAw, oq _ (ne q hq0 hqr), b2 i1, ln_mov, if_pos rfl]
        congr 2
        funext j
        rw [iv_mov, if_pos rfl]
      · rw [tw] at i1 i2
        omega
      · rw [tw] at i1
        omega
    · by_cases hvr : v = r
      · subst hvr; exact hn
      · refine Cel.kept (Nat.le_of_eq hz.symm) (b v h3) (hA v h2) h4 (by rw [ln_mov, if_neg h2]) (fun z => by rw [iv_mov, if_neg h2]) (fun j => by rw [fl_mov, if_neg (fun e => hvr e.1), if_neg h2]) (fun j hj => hA _ (fun e => hvr ?_)) (oq _ (ne v h3 hvr))
        have p1 := par_child v j (by rw [e]; exact hg)
        have p2 := par_child r k (by rw [hcd]; exact hg)
        rw [e] at p1
        rw [hcd] at p2
        exact (Prod.mk.inj (p1.symm.trans p2)).1
  · obtain ⟨h1, h2 | ⟨h2, h3, h4⟩⟩ := key v hv
    · rw [h2, hAw]; exact c q hq0 hq3
    · rw [hA v h2]; rw [h4] at hv3; exact c v h3 hv3
  · obtain ⟨h1, h2 | ⟨h2, h3, h4⟩⟩ := key v hv
    · obtain ⟨g1, g2 | ⟨g2, g3, g4⟩⟩ := key u hu
      · rw [h2, g2]
      · rw [h2, hAw, hA u g2] at he
        exact absurd (d q u hq0 hq3 g3 he).symm g1
    · obtain ⟨g1, g2 | ⟨g2, g3, g4⟩⟩ := key u hu
      · rw [g2, hAw, hA v h2] at he
        rw [h4] at hv3
        exact absurd (d v q h3 hv3 hq0 he) h1
      · rw [hA v h2, hA u g2] at he
        rw [h4] at hv3
        exact d v u h3 hv3 g3 he
  · obtain ⟨h1, h2 | ⟨h2, h3, h4⟩⟩ := key v hv
    · rw [h2, tw]; exact e q hq0
    · rw [h4]; exact e v h3
  · rw [tg_mov]
    have n1 : child v j ≠ q := by
      have := child_ne v j
      omega
    rw [if_neg n1]
    split
    · exact hq0
    · rename_i n2
      obtain ⟨h1, h2 | ⟨h2, h3, h4⟩⟩ := key v hv
      · rw [fl_mov] at hfl
        by_cases h5 : v = r ∧ j = k
        · rw [h5.1, h5.2, hcd] at n2; exact absurd rfl n2
        · rw [if_neg h5, if_pos h2] at hfl
          cases hfl
      · rw [fl_mov] at hfl
        by_cases h5 : v = r ∧ j = k
        · rw [h5.1, h5.2, hcd] at n2; exact absurd rfl n2
        · rw [if_neg h5, if_neg h2] at hfl
          exact f v j h3 hfl
  · rw [tg_mov]
    split
    · omega
    · split
      · exact hq3
      · exact g v hv
  · rw [hA 500 (Ne.symm hw5.1)]
    exact zk z1 (fun q _ hq => oq q (fun e => hq (by rw [e]; exact hb)))
  · rw [hA 501 (Ne.symm hw5.2)]
    exact zk z2 (fun q _ hq => oq q (fun e => hq (by rw [e]; exact hb)))
end REP
end
section
/-! The small machine goes as the machine goes. -/
def held (A : Nat → Nat) (ls : List Value) : List (Nat × Value) := (List.range ls.length).filterMap (fun k => if gt ls k = .retAddr 0 then none else some (k, cvv A (gt ls k)))
theorem mem_held {A : Nat → Nat} {ls : List Value} {q : Nat × Value} : q ∈ held A ls ↔ q.1 < ls.length ∧ gt ls q.1 ≠ .retAddr 0 ∧ q.2 = cvv A (gt ls q.1) := by
  unfold held
  rw [List.mem_filterMap]
  constructor
  · rintro ⟨k, hk, he⟩
    by_cases hg : gt ls k = .retAddr 0
    · rw [if_pos hg] at he; cases he
    · rw [if_neg hg] at he
      cases he
      exact ⟨List.mem_range.mp hk, hg, rfl⟩
  · rintro ⟨h1, h2, h3⟩
    refine ⟨q.1, List.mem_range.mpr h1, ?_⟩
    rw [if_neg h2, ← h3]
def lsR (y : Nat) (A : Nat → Nat) (ls : List Value) (arr : Array Slot) : Prop := lv_has arr (mL y) (held A ls) ∧ ls.length = mL y ∧ (nol y = true → ∀ v ∈ ls, isL v = false)
theorem gt_lt {ls : List Value} {k : Nat} (h : gt ls k ≠ .retAddr 0) : k < ls.length := by
  apply Nat.lt_of_not_le
  intro q
  apply h
  unfold gt
  rw [List.getElem?_eq_none q]
  rfl
theorem gt_mem {ls : List Value} {k : Nat} (h : k < ls.length) : gt ls k ∈ ls := by
  unfold gt
  rw [List.getElem?_eq_getElem h]
  exact List.getElem_mem h
theorem gt_set {ls : List Value} {k j : Nat} {v : Value} (h : k < ls.length) : gt (ls.set k v) j = if j = k then v else gt ls j := by
  unfold gt
  by_cases e : j = k
  · subst e
    rw [if_pos rfl, List.getElem?_set_self h]
    rfl
  · rw [if_neg e, List.getElem?_set_ne (Ne.symm e)]
theorem lsR.here {y : Nat} {A : Nat → Nat} {ls : List Value} {arr : Array Slot} (h : lsR y A ls arr) {k : Nat} (hk : gt ls k ≠ .retAddr 0) : arr[k]? = some (.val (cvv A (gt ls k))) := h.1.2.2 (k, cvv A (gt ls k)) (mem_held.mpr ⟨gt_lt hk, hk, rfl⟩)
theorem cvv_cat (A : Nat → Nat) (v : Value) : (cvv A v).category = v.category := by cases v <;> rfl
theorem isL_cat {v : Value} (h : isL v = false) : v.category ≠ 2 := by
  unfold isL at h
  intro e
  rw [e] at h
  cases h
theorem lsR.laid {y : Nat} {A : Nat → Nat} {ls : List Value} {arr arr' : Array Slot} (h : lsR y A ls arr) {k : Nat} {v : Value} (hk : okst y ls k = true) (hv : isL v = false) (h' : lv_has arr' (mL y) ((k, cvv A v) :: (held A ls).filter (fun q => !(q.1 == k) && !(q.1 + 1 == k && q.2.category == 2)))) : lsR y A (ls.set k v) arr' := by
  simp only [okst, Bool.and_eq_true, decide_eq_true_eq, Bool.or_eq_true, beq_iff_eq, Bool.not_eq_true'] at hk
  obtain ⟨hk1, hk2⟩ := hk
  refine ⟨⟨h'.1, h'.2.1, fun q hq => ?_⟩, by rw [List.length_set]; exact h.2.1, fun hn w hw => ?_⟩
  · obtain ⟨q1, q2, q3⟩ := mem_held.mp hq
    rw [List.length_set] at q1
    rw [gt_set hk1] at q2 q3
    apply h'.2.2
    by_cases e : q.1 = k
    · rw [if_pos e] at q3
      have : q = (k, cvv A v) := Prod.ext e q3
      rw [this]
      exact List.mem_cons_self
    · rw [if_neg e] at q2 q3
      refine List.mem_cons_of_mem _ (List.mem_filter.mpr ⟨mem_held.mpr ⟨q1, q2, q3⟩, ?_⟩)
      have e2 : (q.1 == k) = false := by simpa using e
      rw [e2]
      by_cases e3 : q.1 + 1 = k
      · have hc : isL (gt ls q.1) = false := by
          rcases hk2 with (hn | h0) | hl
          · exact h.2.2 hn _ (gt_mem q1)
          · omega
          · rw [← e3] at hl
            exact hl
        have hc2 : ¬ q.2.category = 2 := by rw [q3, cvv_cat]; exact isL_cat hc
        have e4 : (q.2.category == 2) = false := by simpa using hc2
        rw [e4]
        simp
      · have e4 : (q.1 + 1 == k) = false := by simpa using e3
        rw [e4]
        rfl
  · rcases List.mem_or_eq_of_mem_set hw with h1 | h1
    · exact h.2.2 hn w h1
    · rw [h1]; exact hv
theorem lsR.laidJ {y : Nat} {A : Nat → Nat} {ls : List Value} {arr arr' : Array Slot} (h : lsR y A ls arr) {k : Nat} {x : Int64} (hy : nol y = false) (hk : okst y ls k = true) (hk3 : k + 1 < ls.length) (h' : lv_has arr' (mL y) ((k, .long x) :: (held A ls).filter (fun q => !(q.1 == k) && (!(q.1 == k + 1) && !(q.1 + 1 == k && q.2.category == 2))))) : lsR y A ((ls.set k (.long x)).set (k + 1) (.retAddr 0)) arr' := by
  simp only [okst, Bool.and_eq_true, decide_eq_true_eq, Bool.or_eq_true, beq_iff_eq, Bool.not_eq_true'] at hk
  obtain ⟨hk1, hk2⟩ := hk
  refine ⟨⟨h'.1, h'.2.1, fun q hq => ?_⟩, by rw [List.length_set, List.length_set]; exact h.2.1, fun hn => by rw [hy] at hn; cases hn⟩
  obtain ⟨q1, q2, q3⟩ := mem_held.mp hq
  rw [List.length_set, List.length_set] at q1
  rw [gt_set (by rw [List.length_set]; exact hk3), gt_set hk1] at q2 q3
  apply h'.2.2
  by_cases e0 : q.1 = k + 1
  · rw [if_pos e0] at q2; exact absurd rfl q2
  · rw [if_neg e0] at q2 q3
    by_cases e : q.1 = k
    · rw [if_pos e] at q3
      have : q = (k, .long x) := Prod.ext e q3
      rw [this]
      exact List.mem_cons_self
    · rw [if_neg e] at q2 q3
      refine List.mem_cons_of_mem _ (List.mem_filter.mpr ⟨mem_held.mpr ⟨q1, q2, q3⟩, ?_⟩)
      have e2 : (q.1 == k) = false := by simpa using e
      have e5 : (q.1 == k + 1) = false := by simpa using e0
      rw [e2, e5]
      by_cases e3 : q.1 + 1 = k
      · have hc : isL (gt ls q.1) = false := by
          rcases hk2 with (hn | h0) | hl
          · rw [hy] at hn; cases hn
          · omega
          · rw [← e3] at hl
            exact hl
        have hc2 : ¬ q.2.category = 2 := by rw [q3, cvv_cat]; exact isL_cat hc
        have e4 : (q.2.category == 2) = false := by simpa using hc2
        rw [e4]
        simp
      · have e4 : (q.1 + 1 == k) = false := by simpa using e3
        rw [e4]
        rfl
/-- what stays: the roles that were there, but for those whose cell can become another one where the method may do that -/
def Pres (y : Nat) (A A' : Nat → Nat) (h h' : Hp) : Prop := ∀ r, tg h r ≠ 0 → (mv y = true → gw r = false) → tg h' r = tg h r ∧ A' r = A r
theorem Pres.rf (y : Nat) (A : Nat → Nat) (h : Hp) : Pres y A A h h := fun _ _ _ => ⟨rfl, rfl⟩
theorem Pres.tr {y : Nat} {A A1 A2 : Nat → Nat} {h h1 h2 : Hp} (p : Pres y A A1 h h1) (q : Pres y A1 A2 h1 h2) : Pres y A A2 h h2 := by
  intro r hr hg
  obtain ⟨p1, p2⟩ := p r hr hg
  obtain ⟨q1, q2⟩ := q r (by rw [p1]; exact hr) hg
  exact ⟨q1.trans p1, q2.trans p2⟩
/-- the same tags, the same addresses -/
theorem Pres.tags {y : Nat} {A : Nat → Nat} {h h1 : Hp} (e : ∀ r, tg h1 r = tg h r) : Pres y A A h h1 := fun r _ _ => ⟨e r, rfl⟩
theorem okS.to {y : Nat} {A A1 : Nat → Nat} {h h1 : Hp} {l : List Value} (p : Pres y A A1 h h1) (hl : okS h l) (hg : mv y = true → ng l = true) : okS h1 l ∧ l.map (cvv A1) = l.map (cvv A) := by
  have key : ∀ v ∈ l, okv h1 v ∧ cvv A1 v = cvv A v := by
    intro v hv
    cases v with
    | ref r =>
      obtain ⟨p1, p2⟩ := p r (hl _ hv) (fun hm => by
        have := List.all_eq_true.mp (hg hm) _ hv
        simpa [ngv] using this)
      exact ⟨by show tg h1 r ≠ 0; rw [p1]; exact hl _ hv, by show Value.ref _ = Value.ref _; rw [p2]⟩
    | _ => exact ⟨trivial, rfl⟩
  exact ⟨fun v hv => (key v hv).1, List.map_congr_left (fun v hv => (key v hv).2)⟩
theorem lsR.to {y : Nat} {A A1 : Nat → Nat} {h h1 : Hp} {ls : List Value} {arr : Array Slot} (p : Pres y A A1 h h1) (hl : okS h ls) (hg : mv y = true → ng ls = true) (hr : lsR y A ls arr) : lsR y A1 ls arr := by
  have e := (okS.to p hl hg).2
  have key : ∀ k, k < ls.length → cvv A1 (gt ls k) = cvv A (gt ls k) := by
    intro k hk
    have := congrArg (fun l : List Value => l[k]?) e
    simp only [List.getElem?_map] at this
    unfold gt
    rw [List.getElem?_eq_getElem hk] at this ⊢
    simpa using this
  refine ⟨⟨hr.1.1, hr.1.2.1, fun q hq => ?_⟩, hr.2⟩
  obtain ⟨q1, q2, q3⟩ := mem_held.mp hq
  exact hr.1.2.2 q (mem_held.mpr ⟨q1, q2, by rw [q3]; exact key _ q1⟩)
/-- the end of a method -/
def rst (y : Nat) (A : Nat → Nat) (v : Value) : List Value := if mR y = none then [] else [cvv A v]
def rvo (y : Nat) (A : Nat → Nat) (v : Value) : Option Value := if mR y = none then none else some (cvv A v)
def retI (y pc : Nat) (v : Value) : Prop :=
  (mR y = none ∧ decode (mB y) pc = .ok (.return_, 1)) ∨
  (∃ x : Int32, v = .int x ∧ decode (mB y) pc = .ok (.ireturn, 1) ∧ (mR y = some .int ∨ (mR y = some .boolean ∧ bz x = true))) ∨
  (∃ x : Int64, v = .long x ∧ decode (mB y) pc = .ok (.lreturn, 1) ∧ mR y = some .long) ∨
  (isR v = true ∧ decode (mB y) pc = .ok (.areturn, 1) ∧ ((∃ n, mR y = some (.object n)) ∨ ∃ t, mR y = some (.array t)))
def wsM (y : Nat) : List Jvm.Cond := .code (mY y) (mB y) (mL y) (mR y) :: goodWs
def rmM (y k u : Nat) : Room := { frames := mF y, cells := k, slots := u, locals := mLc y }
def Qm (D : va_G) (cI : ClassId) (cA : Nat → ClassId) (base z : Nat) (A : Nat → Nat) (h h' : Hp) (v : Value) : Array Value → State → Outcome → State → Prop := fun _ _ oc t => ∃ A' : Nat → Nat, Pres z A A' h h' ∧ Rep D cI cA base A' h' t t.heap ∧ okv h' v ∧ oc = .returned (rvo z A' v)
def Pm (D : va_G) (cI : ClassId) (cA : Nat → ClassId) (base : Nat) (A : Nat → Nat) (h : Hp) (a : List Value) : Array Value → State → Prop := va_Pc (a.map (cvv A)) (fun U => Rep D cI cA base A h U U.heap ∧ KF D cI cA U)
def MetP (D : va_G) (cI : ClassId) (cA : Nat → ClassId) (base : Nat) (l : Launch) (n : Nat) : Prop := ∀ (z : Nat) (a : List Value) (h h' : Hp) (v : Value) (A : Nat → Nat), z < 208 → z ≠ 1 → exec n z 0 (ent z a) [] h = some (v, h') → okS h a → (nol z = true → ∀ w ∈ a, isL w = false) → (lay a).length ≤ mL z →
  Met l (mY z) (wsM z) (rmM z (ck h' - ck h) (cu h' - cu h)) (Pm D cI cA base A h a) (Qm D cI cA base z A h h' v) (ck h' - ck h) (cu h' - cu h) (fun q => base ≤ q)
def EnvM (D : va_G) (cI : ClassId) (cA : Nat → ClassId) (p : Program) (s : State) (m : MethodId) (args : Array Value) (meth : Method) (c : Code) (y : Nat) : Prop :=
  p.tables.exec = Jvm.exec ∧ c.code = mB y ∧ c.maxLocals = mL y ∧ s.vm.findClass (on (mO y)) = some m.cls ∧ (∀ w ∈ goodWs, w.before args s = true) ∧ KF D cI cA s ∧ meth.name = (mt y).2.1
def Stt (D : va_G) (cI : ClassId) (cA : Nat → ClassId) (base : Nat) (s : State) (R : Room) (y : Nat) (hf : Hp) (A : Nat → Nat) (h : Hp) (ls st : List Value) (arr : Array Slot) (H : Heap) (locs : List Loc) (cells slots : Nat) : Prop :=
  Rep D cI cA base A h s H ∧ lsR y A ls arr ∧ okS h ls ∧ okS h st ∧ (∀ q ∈ locs, base ≤ q.base) ∧ cells + ck hf ≤ R.cells + ck h ∧ slots + cu hf ≤ R.slots + cu h ∧ mF y ≤ R.frames ∧ mLc y ≤ R.locals
def Fin (D : va_G) (cI : ClassId) (cA : Nat → ClassId) (base : Nat) (p : Program) (l : Launch) (e : Env) (R : Room) (s : State) (m : MethodId) (args : Array Value) (below : List Frame) (meth : Method) (c : Code) (Q : State → Prop) (y : Nat) (vf : Value) (hf : Hp) (A : Nat → Nat) (h : Hp) (cells slots : Nat) : Prop :=
  ∀ (A' : Nat → Nat) (H' : Heap) (locs' : List Loc) (cells' slots' pc' : Nat) (arr' : Array Slot), Pres y A A' h hf → Rep D cI cA base A' hf s H' → okv hf vf → (∀ q ∈ locs', base ≤ q.base) → cells' + ck h = cells + ck hf → slots' + cu h = slots + cu hf → retI y pc' vf →
    W p l e R s m args below meth c H' locs' cells' slots' Q (F0 m pc' arr' (rst y A' vf))
end
section
theorem gd_some {b : Bool} {r : Rs} {x : Value × Hp} (h : gd b r = some x) : b = true ∧ r = some x := by
  unfold gd at h
  cases b with
  | true => exact ⟨rfl, h⟩
  | false => cases h
theorem i1_some {st : List Value} {f : Int32 → List Value → Rs} {r : Value × Hp} (h : i1 st f = some r) : ∃ x t, st = .int x :: t ∧ f x t = some r := by
  unfold i1 at h
  split at h
  · exact ⟨_, _, rfl, h⟩
  · cases h
theorem i2_some {st : List Value} {f : Int32 → Int32 → List Value → Rs} {r : Value × Hp} (h : i2 st f = some r) : ∃ x y t, st = .int y :: .int x :: t ∧ f x y t = some r := by
  unfold i2 at h
  split at h
  · exact ⟨_, _, _, rfl, h⟩
  · cases h
theorem l1_some {st : List Value} {f : Int64 → List Value → Rs} {r : Value × Hp} (h : l1 st f = some r) : ∃ x t, st = .long x :: t ∧ f x t = some r := by
  unfold l1 at h
  split at h
  · exact ⟨_, _, rfl, h⟩
  · cases h
theorem l2_some {st : List Value} {f : Int64 → Int64 → List Value → Rs} {r : Value × Hp} (h : l2 st f = some r) : ∃ x y t, st = .long y :: .long x :: t ∧ f x y t = some r := by
  unfold l2 at h
  split at h
  · exact ⟨_, _, _, rfl, h⟩
  · cases h
theorem r1_some {st : List Value} {f : Nat → List Value → Rs} {r : Value × Hp} (h : r1 st f = some r) : ∃ x t, st = .ref x :: t ∧ f x t = some r := by
  unfold r1 at h
  split at h
  · exact ⟨_, _, rfl, h⟩
  · cases h
theorem ri_some {st : List Value} {f : Nat → Int32 → List Value → Rs} {r : Value × Hp} (h : ri st f = some r) : ∃ x i t, st = .int i :: .ref x :: t ∧ f x i t = some r := by
  unfold ri at h
  split at h
  · exact ⟨_, _, _, rfl, h⟩
  · cases h
theorem rii_some {st : List Value} {f : Nat → Int32 → Int32 → List Value → Rs} {r : Value × Hp} (h : rii st f = some r) : ∃ x i z t, st = .int z :: .int i :: .ref x :: t ∧ f x i z t = some r := by
  unfold rii at h
  split at h
  · exact ⟨_, _, _, _, rfl, h⟩
  · cases h
theorem rir_some {st : List Value} {f : Nat → Int32 → Nat → List Value → Rs} {r : Value × Hp} (h : rir st f = some r) : ∃ x i q t, st = .ref q :: .int i :: .ref x :: t ∧ f x i q t = some r := by
  unfold rir at h
  split at h
  · exact ⟨_, _, _, _, rfl, h⟩
  · cases h
theorem v1_some {st : List Value} {f : Value → List Value → Rs} {r : Value × Hp} (h : v1 st f = some r) : ∃ x t, st = x :: t ∧ f x t = some r := by
  unfold v1 at h
  split at h
  · exact ⟨_, _, rfl, h⟩
  · cases h
theorem jmp_some {pc : Nat} {off : Int} {go : Nat → Rs} {r : Value × Hp} (h : jmp pc off go = some r) : ∃ t : Nat, (pc : Int) + off = (t : Int) ∧ go t = some r := by
  obtain ⟨h1, h2⟩ := gd_some h
  exact ⟨_, (Int.toNat_of_nonneg (of_decide_eq_true h1)).symm, h2⟩
theorem isI_some {v : Value} (h : isI v = true) : ∃ x, v = .int x := by cases v <;> first | exact ⟨_, rfl⟩ | cases h
theorem isJ_some {v : Value} (h : isJ v = true) : ∃ x, v = .long x := by cases v <;> first | exact ⟨_, rfl⟩ | cases h
theorem isR_some {v : Value} (h : isR v = true) : v = .null ∨ ∃ x, v = .ref x := by cases v <;> first | exact Or.inl rfl | exact Or.inr ⟨_, rfl⟩ | cases h
theorem okS_cons {h : Hp} {v : Value} {l : List Value} : okS h (v :: l) ↔ okv h v ∧ okS h l := by
  unfold okS
  simp
theorem okS_get {h : Hp} {ls : List Value} (hl : okS h ls) (k : Nat) : okv h (gt ls k) := by
  by_cases q : k < ls.length
  · exact hl _ (gt_mem q)
  · have e : gt ls k = .retAddr 0 := by
      unfold gt
      rw [List.getElem?_eq_none (by omega)]
      rfl
    rw [e]
    exact trivial
theorem okS_set {h : Hp} {ls : List Value} {k : Nat} {v : Value} (hl : okS h ls) (hv : okv h v) : okS h (ls.set k v) := by
  intro w hw
  rcases List.mem_or_eq_of_mem_set hw with h1 | h1
  · exact hl w h1
  · rw [h1]; exact hv
/-- counts only grow -/
theorem stp_mono {y pc len : Nat} {ls st : List Value} {h : Hp} {go : Go} {call : Nat → List Value → Hp → Rs} {i : Instr} {v : Value} {h' : Hp}
    (hg : ∀ pc' ls' st' h1, go pc' ls' st' h1 = some (v, h') → ck h1 ≤ ck h' ∧ cu h1 ≤ cu h') (hc : ∀ z a h1 w h2, call z a h1 = some (w, h2) → ck h1 ≤ ck h2 ∧ cu h1 ≤ cu h2) (he : stp y pc len ls st h go call i = some (v, h')) : ck h ≤ ck h' ∧ cu h ≤ cu h' := by
  have hcll : ∀ z lz sz a, cll y pc z lz sz h go call a = some (v, h') → ck h ≤ ck h' ∧ cu h ≤ cu h' := by
    intro z lz sz a hz
    unfold cll at hz
    obtain ⟨-, hz⟩ := gd_some hz
    split at hz
    · rename_i w h2 heq
      have h1 := hc _ _ _ _ _ heq
      have h2 := hg _ _ _ _ hz
      omega
    · cases hz
  have hs : ∀ pc' ls' st' h1, go pc' ls' st' h1 = some (v, h') → ck h1 = ck h → cu h1 = cu h → ck h ≤ ck h' ∧ cu h ≤ cu h' := by
    intro pc1 ls1 st1 h1 hz e1 e2
    have h2 := hg _ _ _ _ hz
    omega
  have hmk : ∀ q t n u pc' ls' st', go pc' ls' st' (mk h q t n u) = some (v, h') → ck h ≤ ck h' ∧ cu h ≤ cu h' := by
    intro q t n u pc' ls' st' hz
    have h2 := hg _ _ _ _ hz
    have e1 : ck (mk h q t n u) = ck h + 1 := rfl
    have e2 : cu (mk h q t n u) = cu h + u := rfl
    omega
  have hon : ∀ z sz (f : Nat → List Value → List Value → Rs), onobj z sz f = some (v, h') → ∃ r a s, f r a s = some (v, h') := by
    intro z sz f hz
    obtain ⟨r, t, -, hz⟩ := r1_some hz
    obtain ⟨-, hz⟩ := gd_some hz
    exact ⟨_, _, _, hz⟩
  cases i <;> simp only [stp] at he
  all_goals (first | (cases he; done) | (exact hg _ _ _ _ he) | skip)
  case ldc j => split at he <;> first | exact hg _ _ _ _ he | cases he
  case ldc_w j => split at he <;> first | exact hg _ _ _ _ he | cases he
  case ldc2_w j => split at he <;> first | exact hg _ _ _ _ he | cases he
  case iload k => exact hg _ _ _ _ (gd_some he).2
  case iload_n k => exact hg _ _ _ _ (gd_some he).2
  case lload k => exact hg _ _ _ _ (gd_some he).2
  case lload_n k => exact hg _ _ _ _ (gd_some he).2
  case aload k => exact hg _ _ _ _ (gd_some he).2
  case aload_n k => exact hg _ _ _ _ (gd_some he).2
  case istore k => obtain ⟨x, t, -, he⟩ := i1_some he; exact hg _ _ _ _ (gd_some he).2
  case istore_n k => obtain ⟨x, t, -, he⟩ := i1_some he; exact hg _ _ _ _ (gd_some he).2
  case astore k => obtain ⟨x, t, -, he⟩ := v1_some he; exact hg _ _ _ _ (gd_some he).2
  case astore_n k => obtain ⟨x, t, -, he⟩ := v1_some he; exact hg _ _ _ _ (gd_some he).2
  case lstore k => obtain ⟨x, t, -, he⟩ := l1_some he; exact hg _ _ _ _ (gd_some he).2
  case lstore_n k => obtain ⟨x, t, -, he⟩ := l1_some he; exact hg _ _ _ _ (gd_some he).2
  case iinc k j =>
    split at he
    · exact hg _ _ _ _ (gd_some he).2
    · cases he
  case iadd => obtain ⟨x, z, t, -, he⟩ := i2_some he; exact hg _ _ _ _ he
  case isub => obtain ⟨x, z, t, -, he⟩ := i2_some he; exact hg _ _ _ _ he
  case imul => obtain ⟨x, z, t, -, he⟩ := i2_some he; exact hg _ _ _ _ he
  case idiv => obtain ⟨x, z, t, -, he⟩ := i2_some he; exact hg _ _ _ _ (gd_some he).2
  case irem => obtain ⟨x, z, t, -, he⟩ := i2_some he; exact hg _ _ _ _ (gd_some he).2
  case ineg => obtain ⟨x, t, -, he⟩ := i1_some he; exact hg _ _ _ _ he
  case ishl => obtain ⟨x, z, t, -, he⟩ := i2_some he; exact hg _ _ _ _ he
  case ishr => obtain ⟨x, z, t, -, he⟩ := i2_some he; exact hg _ _ _ _ he
  case iushr => obtain ⟨x, z, t, -, he⟩ := i2_some he; exact hg _ _ _ _ he
  case iand => obtain ⟨x, z, t, -, he⟩ := i2_some he; exact hg _ _ _ _ he
  case ior => obtain ⟨x, z, t, -, he⟩ := i2_some he; exact hg _ _ _ _ he
  case ixor => obtain ⟨x, z, t, -, he⟩ := i2_some he; exact hg _ _ _ _ he
  case i2l => obtain ⟨x, t, -, he⟩ := i1_some he; exact hg _ _ _ _ he
  case i2b => obtain ⟨x, t, -, he⟩ := i1_some he; exact hg _ _ _ _ he
  case i2s => obtain ⟨x, t, -, he⟩ := i1_some he; exact hg _ _ _ _ he
  case ldiv => obtain ⟨x, z, t, -, he⟩ := l2_some he; exact hg _ _ _ _ (gd_some he).2
  case lrem => obtain ⟨x, z, t, -, he⟩ := l2_some he; exact hg _ _ _ _ (gd_some he).2
  case lcmp => obtain ⟨x, z, t, -, he⟩ := l2_some he; exact hg _ _ _ _ he
  case dup => obtain ⟨x, t, -, he⟩ := v1_some he; exact hg _ _ _ _ (gd_some he).2
  case dup2 => obtain ⟨x, t, -, he⟩ := v1_some he; obtain ⟨x, t, -, he⟩ := v1_some he; exact hg _ _ _ _ (gd_some he).2
  case goto off => obtain ⟨t, -, he⟩ := jmp_some he; exact hg _ _ _ _ he
  case ifCond cc off =>
    obtain ⟨x, t, -, he⟩ := i1_some he
    obtain ⟨-, he⟩ := gd_some he
    cases cc <;> simp only [brn] at he <;> split at he <;> exact hg _ _ _ _ he
  case if_icmp cc off =>
    obtain ⟨x, z, t, -, he⟩ := i2_some he
    obtain ⟨-, he⟩ := gd_some he
    cases cc <;> simp only [brn] at he <;> split at he <;> exact hg _ _ _ _ he
  case ifnull off =>
    split at he
    · obtain ⟨t, -, he⟩ := jmp_some he; exact hg _ _ _ _ he
    · exact hg _ _ _ _ he
    · cases he
  case ifnonnull off =>
    split at he
    · exact hg _ _ _ _ he
    · obtain ⟨t, -, he⟩ := jmp_some he; exact hg _ _ _ _ he
    · cases he
  case tableswitch d lo hi offs =>
    obtain ⟨x, t, -, he⟩ := i1_some he
    split at he
    · obtain ⟨t, -, he⟩ := jmp_some he; exact hg _ _ _ _ he
    · split at he
      · obtain ⟨t, -, he⟩ := jmp_some he; exact hg _ _ _ _ he
      · cases he
  case lookupswitch d ps =>
    obtain ⟨x, t, -, he⟩ := i1_some he
    obtain ⟨-, he⟩ := gd_some he
    obtain ⟨t, -, he⟩ := jmp_some he
    exact hg _ _ _ _ he
  case getfield j =>
    split at he
    · obtain ⟨x, t, -, he⟩ := r1_some he
      obtain ⟨-, he⟩ := gd_some he
      split at he
      · exact hg _ _ _ _ (gd_some he).2
      · exact hg _ _ _ _ he
    · cases he
  case putfield j =>
    split at he
    · obtain ⟨-, he⟩ := gd_some he
      split at he
      · obtain ⟨-, he⟩ := gd_some he
        exact hs _ _ _ _ he rfl rfl
      · obtain ⟨-, he⟩ := gd_some he
        split at he
        · exact hs _ _ _ _ he rfl rfl
        · exact hs _ _ _ _ (gd_some he).2 rfl rfl
      · cases he
    · cases he
  case getstatic j =>
    split at he
    · exact hg _ _ _ _ (gd_some he).2
    · cases he
  case iaload => obtain ⟨x, i, t, -, he⟩ := ri_some he; exact hg _ _ _ _ (gd_some he).2
  case iastore => obtain ⟨x, i, z, t, -, he⟩ := rii_some he; exact hs _ _ _ _ (gd_some he).2 rfl rfl
  case aaload => obtain ⟨x, i, t, -, he⟩ := ri_some he; exact hg _ _ _ _ (gd_some he).2
  case aastore =>
    obtain ⟨x, i, z, t, -, he⟩ := rir_some he
    obtain ⟨-, he⟩ := gd_some he
    split at he
    · exact hs _ _ _ _ he rfl rfl
    · exact hs _ _ _ _ (gd_some he).2 rfl rfl
  case arraylength => obtain ⟨x, t, -, he⟩ := r1_some he; exact hg _ _ _ _ (gd_some he).2
  case new j =>
    split at he
    · exact hmk _ _ _ _ _ _ _ (gd_some he).2
    · cases he
  case newarray j => obtain ⟨x, t, -, he⟩ := i1_some he; exact hmk _ _ _ _ _ _ _ (gd_some he).2
  case anewarray j =>
    split at he
    · obtain ⟨x, t, -, he⟩ := i1_some he; exact hmk _ _ _ _ _ _ _ (gd_some he).2
    · cases he
  case invokestatic j =>
    split at he
    · exact hcll _ _ _ _ (gd_some he).2
    · exact hcll _ _ _ _ (gd_some he).2
    · split at he
      · exact hs _ _ _ _ (gd_some he).2 rfl rfl
      · cases he
    · cases he
  case invokespecial j =>
    split at he
    · obtain ⟨x, t, -, he⟩ := r1_some he; exact hg _ _ _ _ (gd_some he).2
    · obtain ⟨r, a, t, he⟩ := hon _ _ _ he; exact hcll _ _ _ _ he
    · obtain ⟨r, a, t, he⟩ := hon _ _ _ he; exact hcll _ _ _ _ he
    · obtain ⟨r, a, t, he⟩ := hon _ _ _ he; exact hcll _ _ _ _ (gd_some he).2
    · cases he
  case invokevirtual j =>
    split at he
    · obtain ⟨r, a, t, he⟩ := hon _ _ _ he; exact hcll _ _ _ _ (gd_some he).2
    · obtain ⟨r, a, t, he⟩ := hon _ _ _ he
      split at he
      · exact hcll _ _ _ _ he
      · cases he
    · cases he
  case ireturn =>
    split at he
    · obtain ⟨-, he⟩ := gd_some he; cases he; exact ⟨Nat.le_refl _, Nat.le_refl _⟩
    · cases he
  case lreturn =>
    split at he
    · obtain ⟨-, he⟩ := gd_some he; cases he; exact ⟨Nat.le_refl _, Nat.le_refl _⟩
    · cases he
  case areturn =>
    split at he
    · obtain ⟨-, he⟩ := gd_some he; cases he; exact ⟨Nat.le_refl _, Nat.le_refl _⟩
    · cases he
  case return_ =>
    split at he
    · obtain ⟨-, he⟩ := gd_some he; cases he; exact ⟨Nat.le_refl _, Nat.le_refl _⟩
    · cases he
theorem exec_mono : ∀ (n y pc : Nat) (ls st : List Value) (h : Hp) (v : Value) (h' : Hp), exec n y pc ls st h = some (v, h') → ck h ≤ ck h' ∧ cu h ≤ cu h' := by
  intro n
  induction n with
  | zero => intro y pc ls st h v h' he; simp [exec] at he
  | succ n ih =>
    intro y pc ls st h v h' he
    rw [exec] at he
    split at he
    · obtain ⟨-, he⟩ := gd_some he
      exact stp_mono (fun _ _ _ _ q => ih _ _ _ _ _ _ _ q) (fun _ _ _ _ _ q => ih _ _ _ _ _ _ _ q) he
    · cases he
end
section
def plainI : Instr → Bool
  | .getfield _ => false
  | .putfield _ => false
  | .getstatic _ => false
  | .iaload => false
  | .iastore => false
  | .aaload => false
  | .aastore => false
  | .arraylength => false
  | .new _ => false
  | .newarray _ => false
  | .anewarray _ => false
  | .invokestatic _ => false
  | .invokespecial _ => false
  | .invokevirtual _ => false
  | .ldc _ => false
  | .ldc_w _ => false
  | .ldc2_w _ => false
  | _ => true
theorem lrem_eq (x y : Int64) : x - (x / y) * y = x % y := by
  apply Int64.toInt_inj.mp
  have h1 := Int64.le_toInt (x % y)
  have h2 := Int64.toInt_lt (x % y)
  rw [Int64.toInt_sub, Int64.toInt_mul, Int64.toInt_div, Int.bmod_mul_bmod, Int.sub_bmod_bmod, Int.mul_comm (x.toInt.tdiv y.toInt), ← Int.tmod_def, ← Int64.toInt_mod]
  exact Int.bmod_eq_of_le_mul_two (by omega) (by omega)
section SIMA
variable {D : va_G} {cI : ClassId} {cA : Nat → ClassId} {base : Nat} {p : Program} {l : Launch} {e : Env} {R : Room} {s : State} {m : MethodId} {args : Array Value} {below : List Frame} {meth : Method} {c : Code} {Q : State → Prop} {y : Nat} {vf : Value} {hf : Hp}
/-- what is known of runs of n steps -/
def IH (D : va_G) (cI : ClassId) (cA : Nat → ClassId) (base : Nat) (p : Program) (l : Launch) (e : Env) (R : Room) (s : State) (m : MethodId) (args : Array Value) (below : List Frame) (meth : Method) (c : Code) (Q : State → Prop) (y : Nat) (vf : Value) (hf : Hp) (n : Nat) : Prop :=
  ∀ (pc : Nat) (ls st : List Value) (h : Hp) (A : Nat → Nat) (arr : Array Slot) (H : Heap) (locs : List Loc) (cells slots : Nat), exec n y pc ls st h = some (vf, hf) → Stt D cI cA base s R y hf A h ls st arr H locs cells slots → Fin D cI cA base p l e R s m args below meth c Q y vf hf A h cells slots →
    W p l e R s m args below meth c H locs cells slots Q (F0 m pc arr (st.map (cvv A)))
/-- one step that is no call, makes nothing, changes no heap -/
theorem sim_plain {n : Nat} (E : EnvM D cI cA p s m args meth c y) (ih : IH D cI cA base p l e R s m args below meth c Q y vf hf n) {pc len : Nat} {ls st : List Value} {h : Hp} {A : Nat → Nat} {arr : Array Slot} {H : Heap} {locs : List Loc} {cells slots : Nat} {i : Instr}
    (hd : decode (mB y) pc = .ok (i, len)) (hok : okl i len = true) (he : stp y pc len ls st h (exec n y) (fun y a h' => exec n y 0 (ent y a) [] h') i = some (vf, hf)) (S : Stt D cI cA base s R y hf A h ls st arr H locs cells slots) (K : Fin D cI cA base p l e R s m args below meth c Q y vf hf A h cells slots)
    (hi : plainI i = true) :
    W p l e R s m args below meth c H locs cells slots Q (F0 m pc arr (st.map (cvv A))) := by
  obtain ⟨hx, hb, hml, hown, hts, hKF, hnm⟩ := E
  obtain ⟨hR, hl, ho, hs, hloc, hce, hsl, hfr, hlo⟩ := S
  have g : ∀ pc' ls' arr' st', exec n y pc' ls' st' h = some (vf, hf) → lsR y A ls' arr' → okS h ls' → okS h st' → W p l e R s m args below meth c H locs cells slots Q (F0 m pc' arr' (st'.map (cvv A))) :=
    fun pc' ls' arr' st' q hl' ho' hs' => ih pc' ls' st' h A arr' H locs cells slots q ⟨hR, hl', ho', hs', hloc, hce, hsl, hfr, hlo⟩ K
  have g0 : ∀ pc' st', exec n y pc' ls st' h = some (vf, hf) → okS h st' → W p l e R s m args below meth c H locs cells slots Q (F0 m pc' arr (st'.map (cvv A))) := fun pc' st' q hs' => g pc' ls arr st' q hl ho hs'
  have o2 : ∀ {a b : Value} {t : List Value}, okS h (a :: b :: t) → okS h t := fun q => (okS_cons.mp (okS_cons.mp q).2).2
  have o1 : ∀ {a : Value} {t : List Value}, okS h (a :: t) → okS h t := fun q => (okS_cons.mp q).2
  have oi : ∀ {x : Int32} {t : List Value}, okS h t → okS h (.int x :: t) := fun q => okS_cons.mpr ⟨trivial, q⟩
  have oj : ∀ {x : Int64} {t : List Value}, okS h t → okS h (.long x :: t) := fun q => okS_cons.mpr ⟨trivial, q⟩
  cases i <;> simp only [stp] at he
  all_goals (first | (cases he; done) | (cases hi; done) | skip)
  all_goals (first | (have hlen : len = 1 := by simpa [okl] using hok) | (have hlen : len = 2 := by simpa [okl] using hok) | (have hlen : len = 3 := by simpa [okl] using hok) | skip)
  all_goals (first | subst hlen | skip)
  case iconst k => exact lv_iconst hx hb hd rfl (g0 _ _ he (oi hs))
  case bipush k => exact lv_bipush hx hb hd rfl (g0 _ _ he (oi hs))
  case sipush k => exact lv_sipush hx hb hd rfl (g0 _ _ he (oi hs))
  case lconst k => exact lv_lconst hx hb hd rfl (g0 _ _ he (oj hs))
  case aconst_null => exact lv_null hx hb hd (g0 _ _ he (okS_cons.mpr ⟨trivial, hs⟩))
  case iload k =>
    obtain ⟨h1, he⟩ := gd_some he
    obtain ⟨x, hv⟩ := isI_some h1
    have hk := hl.here (k := k) (by rw [hv]; exact fun q => by cases q)
    rw [hv] at hk he
    exact lv_iload hx hb hd hk (g0 _ _ he (oi hs))
  case iload_n k =>
    obtain ⟨h1, he⟩ := gd_some he
    obtain ⟨x, hv⟩ := isI_some h1
    have hk := hl.here (k := k) (by rw [hv]; exact fun q => by cases q)
    rw [hv] at hk he
    exact lv_iload_n hx hb hd rfl hk (g0 _ _ he (oi hs))
  case lload k =>
    obtain ⟨h1, he⟩ := gd_some he
    obtain ⟨x, hv⟩ := isJ_some h1
    have hk := hl.here (k := k) (by rw [hv]; exact fun q => by cases q)
    rw [hv] at hk he
    exact lv_lload hx hb hd hk (g0 _ _ he (oj hs))
  case lload_n k =>
    obtain ⟨h1, he⟩ := gd_some he
    obtain ⟨x, hv⟩ := isJ_some h1
    have hk := hl.here (k := k) (by rw [hv]; exact fun q => by cases q)
    rw [hv] at hk he
    exact lv_lload_n hx hb hd rfl hk (g0 _ _ he (oj hs))
  case aload k =>
    obtain ⟨h1, he⟩ := gd_some he
    have hov := okS_get ho k
    rcases isR_some h1 with hv | ⟨x, hv⟩
    · have hk := hl.here (k := k) (by rw [hv]; exact fun q => by cases q)
      rw [hv] at hk he hov
      exact lv_aloadN hx hb hd hk (g0 _ _ he (okS_cons.mpr ⟨hov, hs⟩))
    · have hk := hl.here (k := k) (by rw [hv]; exact fun q => by cases q)
      rw [hv] at hk he hov
      exact lv_aload hx hb hd hk (g0 _ _ he (okS_cons.mpr ⟨hov, hs⟩))
  case aload_n k =>
    obtain ⟨h1, he⟩ := gd_some he
    have hov := okS_get ho k
    rcases isR_some h1 with hv | ⟨x, hv⟩
    · have hk := hl.here (k := k) (by rw [hv]; exact fun q => by cases q)
      rw [hv] at hk he hov
      exact lv_aload_nN hx hb hd rfl hk (g0 _ _ he (okS_cons.mpr ⟨hov, hs⟩))
    · have hk := hl.here (k := k) (by rw [hv]; exact fun q => by cases q)
      rw [hv] at hk he hov
      exact lv_aload_n hx hb hd rfl hk (g0 _ _ he (okS_cons.mpr ⟨hov, hs⟩))
  case istore k =>
    obtain ⟨x, t, rfl, he⟩ := i1_some he
    obtain ⟨h1, he⟩ := gd_some he
    have hk : k < mL y := by
      have := hl.2.1
      simp only [okst, Bool.and_eq_true, decide_eq_true_eq] at h1
      omega
    exact lv_istore hx hb hd hl.1 hk rfl (fun arr' h' => g _ _ _ _ he (hl.laid (v := .int x) h1 rfl h') (okS_set ho trivial) (o1 hs))
  case istore_n k =>
    obtain ⟨x, t, rfl, he⟩ := i1_some he
    obtain ⟨h1, he⟩ := gd_some he
    have hk : (k : Nat) < mL y := by
      have := hl.2.1
      simp only [okst, Bool.and_eq_true, decide_eq_true_eq] at h1
      omega
    exact lv_istore_n hx hb hd rfl hl.1 hk rfl (fun arr' h' => g _ _ _ _ he (hl.laid (v := .int x) h1 rfl h') (okS_set ho trivial) (o1 hs))
  case astore k =>
    obtain ⟨v, t, rfl, he⟩ := v1_some he
    obtain ⟨h1, he⟩ := gd_some he
    rw [Bool.and_eq_true] at h1
    obtain ⟨h0, h1⟩ := h1
    have hk : k < mL y := by
      have := hl.2.1
      simp only [okst, Bool.and_eq_true, decide_eq_true_eq] at h1
      omega
    rcases isR_some h0 with rfl | ⟨x, rfl⟩
    · exact lv_astoreN hx hb hd hl.1 hk rfl (fun arr' h' => g _ _ _ _ he (hl.laid (v := .null) h1 rfl h') (okS_set ho trivial) (o1 hs))
    · exact lv_astore hx hb hd hl.1 hk rfl (fun arr' h' => g _ _ _ _ he (hl.laid (v := .ref x) h1 rfl h') (okS_set ho (okS_cons.mp hs).1) (o1 hs))
  case astore_n k =>
    obtain ⟨v, t, rfl, he⟩ := v1_some he
    obtain ⟨h1, he⟩ := gd_some he
    rw [Bool.and_eq_true] at h1
    obtain ⟨h0, h1⟩ := h1
    have hk : (k : Nat) < mL y := by
      have := hl.2.1
      simp only [okst, Bool.and_eq_true, decide_eq_true_eq] at h1
      omega
    rcases isR_some h0 with rfl | ⟨x, rfl⟩
    · exact lv_astore_nN hx hb hd rfl hl.1 hk rfl (fun arr' h' => g _ _ _ _ he (hl.laid (v := .null) h1 rfl h') (okS_set ho trivial) (o1 hs))
    · exact lv_astore_n hx hb hd rfl hl.1 hk rfl (fun arr' h' => g _ _ _ _ he (hl.laid (v := .ref x) h1 rfl h') (okS_set ho (okS_cons.mp hs).1) (o1 hs))
  case lstore k =>
    obtain ⟨x, t, rfl, he⟩ := l1_some he
    obtain ⟨h1, he⟩ := gd_some he
    simp only [Bool.and_eq_true, decide_eq_true_eq, Bool.not_eq_true'] at h1
    have hk : k + 1 < mL y := by
      have := hl.2.1
      omega
    exact lv_lstore hx hb hd hl.1 hk rfl (fun arr' h' => g _ _ _ _ he (hl.laidJ (x := x) h1.1.1 h1.1.2 h1.2 h') (okS_set (okS_set ho trivial) trivial) (o1 hs))
  case lstore_n k =>
    obtain ⟨x, t, rfl, he⟩ := l1_some he
    obtain ⟨h1, he⟩ := gd_some he
    simp only [Bool.and_eq_true, decide_eq_true_eq, Bool.not_eq_true'] at h1
    have hk : (k : Nat) + 1 < mL y := by
      have := hl.2.1
      omega
    exact lv_lstore_n hx hb hd rfl hl.1 hk rfl (fun arr' h' => g _ _ _ _ he (hl.laidJ (x := x) h1.1.1 h1.1.2 h1.2 h') (okS_set (okS_set ho trivial) trivial) (o1 hs))
  case iinc k j =>
    split at he
    · rename_i x hv
      obtain ⟨h1, he⟩ := gd_some he
      have hk : k < mL y := by
        have := hl.2.1
        simp only [okst, Bool.and_eq_true, decide_eq_true_eq] at h1
        omega
      have hm : (k, Value.int x) ∈ held A ls := mem_held.mpr ⟨(by rw [hl.2.1]; exact hk), (by rw [hv]; exact (fun q => by cases q)), (by rw [hv]; rfl)⟩
      obtain ⟨q, hq⟩ := List.getElem?_of_mem hm
      exact lv_iinc hx hb hd hl.1 hq rfl hk rfl (fun arr' h' => g _ _ _ _ he (hl.laid (v := .int (x + Int32.ofInt j)) h1 rfl h') (okS_set ho trivial) hs)
    · cases he
  case iadd => obtain ⟨x, z, t, rfl, he⟩ := i2_some he; exact lv_iadd hx hb hd (g0 _ _ he (oi (o2 hs)))
  case isub => obtain ⟨x, z, t, rfl, he⟩ := i2_some he; exact lv_isub hx hb hd (g0 _ _ he (oi (o2 hs)))
  case imul => obtain ⟨x, z, t, rfl, he⟩ := i2_some he; exact lv_imul hx hb hd (g0 _ _ he (oi (o2 hs)))
  case idiv =>
    obtain ⟨x, z, t, rfl, he⟩ := i2_some he
    obtain ⟨h1, he⟩ := gd_some he
    exact lv_idiv hx hb hd (by simpa using h1) (g0 _ _ he (oi (o2 hs)))
  case irem =>
    obtain ⟨x, z, t, rfl, he⟩ := i2_some he
    obtain ⟨h1, he⟩ := gd_some he
    refine lv_irem hx hb hd (by simpa using h1) ?_
    rw [irem_eq_mod]
    exact g0 _ _ he (oi (o2 hs))
  case ineg => obtain ⟨x, t, rfl, he⟩ := i1_some he; exact lv_ineg hx hb hd (g0 _ _ he (oi (o1 hs)))
  case ishl => obtain ⟨x, z, t, rfl, he⟩ := i2_some he; exact lv_ishl hx hb hd (g0 _ _ he (oi (o2 hs)))
  case ishr => obtain ⟨x, z, t, rfl, he⟩ := i2_some he; exact lv_ishr hx hb hd (g0 _ _ he (oi (o2 hs)))
  case iushr => obtain ⟨x, z, t, rfl, he⟩ := i2_some he; exact lv_iushr hx hb hd rfl (g0 _ _ he (oi (o2 hs)))
  case iand => obtain ⟨x, z, t, rfl, he⟩ := i2_some he; exact lv_iand hx hb hd (g0 _ _ he (oi (o2 hs)))
  case ior => obtain ⟨x, z, t, rfl, he⟩ := i2_some he; exact lv_ior hx hb hd (g0 _ _ he (oi (o2 hs)))
  case ixor => obtain ⟨x, z, t, rfl, he⟩ := i2_some he; exact lv_ixor hx hb hd (g0 _ _ he (oi (o2 hs)))
  case i2l => obtain ⟨x, t, rfl, he⟩ := i1_some he; exact lv_i2l hx hb hd rfl (g0 _ _ he (oj (o1 hs)))
  case i2b => obtain ⟨x, t, rfl, he⟩ := i1_some he; exact lv_i2b hx hb hd rfl (g0 _ _ he (oi (o1 hs)))
  case i2s => obtain ⟨x, t, rfl, he⟩ := i1_some he; exact lv_i2s hx hb hd rfl (g0 _ _ he (oi (o1 hs)))
  case ldiv =>
    obtain ⟨x, z, t, rfl, he⟩ := l2_some he
    obtain ⟨h1, he⟩ := gd_some he
    exact lv_ldiv hx hb hd (by simpa using h1) (g0 _ _ he (oj (o2 hs)))
  case lrem =>
    obtain ⟨x, z, t, rfl, he⟩ := l2_some he
    obtain ⟨h1, he⟩ := gd_some he
    refine lv_lrem hx hb hd (by simpa using h1) ?_
    rw [lrem_eq]
    exact g0 _ _ he (oj (o2 hs))
  case lcmp => obtain ⟨x, z, t, rfl, he⟩ := l2_some he; exact W.lcmp hx hb hd (g0 _ _ he (oi (o2 hs)))
  case dup =>
    obtain ⟨v, t, rfl, he⟩ := v1_some he
    obtain ⟨h1, he⟩ := gd_some he
    simp only [Bool.and_eq_true, Bool.or_eq_true] at h1
    obtain ⟨w1, w2⟩ := okS_cons.mp hs
    refine lv_dup hx hb hd ?_ (g0 _ _ he (okS_cons.mpr ⟨w1, okS_cons.mpr ⟨w1, w2⟩⟩))
    rcases h1.2 with q | q
    · obtain ⟨x, rfl⟩ := isI_some q; rfl
    · rcases isR_some q with rfl | ⟨x, rfl⟩ <;> rfl
  case dup2 =>
    obtain ⟨v, t, rfl, he2⟩ := v1_some he
    obtain ⟨w, t2, rfl, he3⟩ := v1_some he2
    obtain ⟨h1, he4⟩ := gd_some he3
    simp only [Bool.and_eq_true, Bool.or_eq_true] at h1
    obtain ⟨w1, w2⟩ := okS_cons.mp hs
    obtain ⟨w3, w4⟩ := okS_cons.mp w2
    refine lv_dup2_11 hx hb hd ?_ ?_ (g0 _ _ he4 (okS_cons.mpr ⟨w1, okS_cons.mpr ⟨w3, okS_cons.mpr ⟨w1, okS_cons.mpr ⟨w3, w4⟩⟩⟩⟩))
    · rcases h1.1.2 with q | q
      · obtain ⟨x, rfl⟩ := isI_some q; rfl
      · rcases isR_some q with rfl | ⟨x, rfl⟩ <;> rfl
    · rcases h1.2.2 with q | q
      · obtain ⟨x, rfl⟩ := isI_some q; rfl
      · rcases isR_some q with rfl | ⟨x, rfl⟩ <;> rfl
  case goto off => obtain ⟨t, ht, he⟩ := jmp_some he; exact lv_goto hx hb hd ht (g0 _ _ he hs)
  case ifCond cc off =>
    obtain ⟨x, t, rfl, he⟩ := i1_some he
    obtain ⟨hz, he⟩ := gd_some he
    have ht : (pc : Int) + off = (((pc : Int) + off).toNat : Int) := (Int.toNat_of_nonneg (of_decide_eq_true hz)).symm
    have hs := o1 hs
    cases cc <;> simp only [brn] at he
    case eq => exact lv_if_eq hx hb hd ht (fun q => by rw [if_pos q] at he; exact g0 _ _ he hs) (fun q => by rw [if_neg q] at he; exact g0 _ _ he hs)
    case ne => exact lv_if_ne hx hb hd ht (fun q => by rw [if_neg q] at he; exact g0 _ _ he hs) (fun q => by rw [if_pos q] at he; exact g0 _ _ he hs)
    case lt => exact lv_if_lt hx hb hd ht (fun q => by rw [if_pos q] at he; exact g0 _ _ he hs) (fun q => by rw [if_neg q] at he; exact g0 _ _ he hs)
    case ge => exact lv_if_ge hx hb hd ht (fun q => by rw [if_neg (k2_nlt q)] at he; exact g0 _ _ he hs) (fun q => by rw [if_pos (k2_lt q)] at he; exact g0 _ _ he hs)
    case gt => exact lv_if_gt hx hb hd ht (fun q => by rw [if_pos q] at he; exact g0 _ _ he hs) (fun q => by rw [if_neg q] at he; exact g0 _ _ he hs)
    case le => exact lv_if_le hx hb hd ht (fun q => by rw [if_neg (k2_nlt q)] at he; exact g0 _ _ he hs) (fun q => by rw [if_pos (k2_lt q)] at he; exact g0 _ _ he hs)
  case if_icmp cc off =>
    obtain ⟨x, z, t, rfl, he⟩ := i2_some he
    obtain ⟨hz, he⟩ := gd_some he
    have ht : (pc : Int) + off = (((pc : Int) + off).toNat : Int) := (Int.toNat_of_nonneg (of_decide_eq_true hz)).symm
    have hs := o2 hs
    cases cc <;> simp only [brn] at he
    case eq => exact lv_icmp_eq hx hb hd ht (fun q => by rw [if_pos q] at he; exact g0 _ _ he hs) (fun q => by rw [if_neg q] at he; exact g0 _ _ he hs)
    case ne => exact lv_icmp_ne hx hb hd ht (fun q => by rw [if_neg q] at he; exact g0 _ _ he hs) (fun q => by rw [if_pos q] at he; exact g0 _ _ he hs)
    case lt => exact lv_icmp_lt hx hb hd ht (fun q => by rw [if_pos q] at he; exact g0 _ _ he hs) (fun q => by rw [if_neg q] at he; exact g0 _ _ he hs)
    case ge => exact lv_icmp_ge hx hb hd ht (fun q => by rw [if_neg (k2_nlt q)] at he; exact g0 _ _ he hs) (fun q => by rw [if_pos (k2_lt q)] at he; exact g0 _ _ he hs)
    case gt => exact lv_icmp_gt hx hb hd ht (fun q => by rw [if_pos q] at he; exact g0 _ _ he hs) (fun q => by rw [if_neg q] at he; exact g0 _ _ he hs)
    case le => exact lv_icmp_le hx hb hd ht (fun q => by rw [if_neg (k2_nlt q)] at he; exact g0 _ _ he hs) (fun q => by rw [if_pos (k2_lt q)] at he; exact g0 _ _ he hs)
  case ifnull off =>
    split at he
    · obtain ⟨t, ht, he⟩ := jmp_some he
      exact lv_ifnullN hx hb hd ht (g0 _ _ he (o1 hs))
    · exact lv_ifnull hx hb hd (g0 _ _ he (o1 hs))
    · cases he
  case ifnonnull off =>
    split at he
    · exact lv_ifnonnullN hx hb hd (g0 _ _ he (o1 hs))
    · obtain ⟨t, ht, he⟩ := jmp_some he
      exact lv_ifnonnull hx hb hd ht (g0 _ _ he (o1 hs))
    · cases he
  case tableswitch d lo hi' offs =>
    obtain ⟨x, t, rfl, he2⟩ := i1_some he
    split at he2
    · rename_i hq
      obtain ⟨t', ht, he3⟩ := jmp_some he2
      exact lv_tableOut hx hb hd hq ht (g0 _ _ he3 (o1 hs))
    · rename_i hq
      split at he2
      · rename_i off ho
        obtain ⟨t', ht, he3⟩ := jmp_some he2
        exact lv_tableIn hx hb hd (fun q => hq (Or.inl q)) (fun q => hq (Or.inr q)) ho ht (g0 _ _ he3 (o1 hs))
      · cases he2
  case lookupswitch d ps =>
    obtain ⟨x, t, rfl, he⟩ := i1_some he
    obtain ⟨hz, he⟩ := gd_some he
    obtain ⟨t', ht, he⟩ := jmp_some he
    exact lv_lookup hx hb hd hz rfl ht (g0 _ _ he (o1 hs))
  case ireturn =>
    split at he
    · rename_i x
      obtain ⟨h1, he⟩ := gd_some he
      cases he
      simp only [Bool.or_eq_true, Bool.and_eq_true, beq_iff_eq] at h1
      have e1 : mR y ≠ none := by rcases h1 with h1 | h1 <;> (intro q; rw [q] at h1; simp at h1)
      have K2 := K A H locs cells slots pc arr (Pres.rf y A hf) hR trivial hloc rfl rfl (Or.inr (Or.inl ⟨x, rfl, hd, h1⟩))
      rw [rst, if_neg e1] at K2
      exact K2
    · cases he
  case lreturn =>
    split at he
    · rename_i x
      obtain ⟨h1, he⟩ := gd_some he
      cases he
      have h1 : mR y = some .long := by simpa using h1
      have e1 : mR y ≠ none := by rw [h1]; exact fun q => by cases q
      have K2 := K A H locs cells slots pc arr (Pres.rf y A hf) hR trivial hloc rfl rfl (Or.inr (Or.inr (Or.inl ⟨x, rfl, hd, h1⟩)))
      rw [rst, if_neg e1] at K2
      exact K2
    · cases he
  case areturn =>
    split at he
    · rename_i v
      obtain ⟨h1, he⟩ := gd_some he
      cases he
      rw [Bool.and_eq_true] at h1
      have h2 : (∃ n, mR y = some (.object n)) ∨ ∃ t, mR y = some (.array t) := by
        have h3 := h1.2
        split at h3
        · rename_i hq; exact Or.inl ⟨_, hq⟩
        · rename_i hq; exact Or.inr ⟨_, hq⟩
        · cases h3
      have e1 : mR y ≠ none := by rcases h2 with ⟨n, h2⟩ | ⟨n, h2⟩ <;> (rw [h2]; exact fun q => by cases q)
      have K2 := K A H locs cells slots pc arr (Pres.rf y A hf) hR (okS_cons.mp hs).1 hloc rfl rfl (Or.inr (Or.inr (Or.inr ⟨h1.1, hd, h2⟩)))
      rw [rst, if_neg e1] at K2
      exact K2
    · cases he
  case return_ =>
    split at he
    · obtain ⟨h1, he⟩ := gd_some he
      cases he
      have h1 : mR y = none := by simpa using h1
      have K2 := K A H locs cells slots pc arr (Pres.rf y A hf) hR trivial hloc rfl rfl (Or.inl ⟨h1, hd⟩)
      rw [rst, if_pos h1] at K2
      exact K2
    · cases he
end SIMA
end
section
theorem range_all {n : Nat} {f : Nat → Bool} (h : (List.range n).all f = true) {k : Nat} (hk : k < n) : f k = true := List.all_eq_true.mp h k (List.mem_range.mpr hk)
theorem lay_in {ci : Nat} (hci : ci < 13) : ∀ w ∈ u_ws (cn ci) (cT ci) (cSz ci), w ∈ goodWs := by
  intro w hw
  obtain ⟨k, hk, rfl⟩ := List.mem_map.mp hw
  have h1 := range_all (range_all okLay_all hci) (List.mem_range.mp hk)
  refine good_at (wAt_eq h1) ?_
  unfold u_lay
  split <;> rfl
theorem ty_all : (List.range 13).all (fun ci => (List.range (cSz ci)).all (fun k => decide (parseFieldDescriptor (cT ci k).2.2.1 = some (cTy ci k)) && (if rfs ci k then decide (defaultValue (cTy ci k) = .null) && (cTy ci k).isReference else decide (cTy ci k = .int ∨ cTy ci k = .boolean)))) = true := by decide +kernel
theorem nm_all : (List.range 13).all (fun ci => (List.range (cSz ci)).all (fun a => (List.range (cSz ci)).all (fun b => a == b || decide ((cT ci a).2.1 ≠ (cT ci b).2.1)))) = true := by decide +kernel
theorem ty_at {ci k : Nat} (hci : ci < 13) (hk : k < cSz ci) : parseFieldDescriptor (cT ci k).2.2.1 = some (cTy ci k) ∧ (rfs ci k = true → defaultValue (cTy ci k) = .null ∧ (cTy ci k).isReference = true) ∧ (rfs ci k = false → cTy ci k = .int ∨ cTy ci k = .boolean) := by
  have h := range_all (range_all ty_all hci) hk
  rw [Bool.and_eq_true, decide_eq_true_eq] at h
  refine ⟨h.1, fun q => ?_, fun q => ?_⟩
  · have h2 := h.2
    rw [if_pos q, Bool.and_eq_true, decide_eq_true_eq] at h2
    exact h2
  · have h2 := h.2
    rw [if_neg (by rw [q]; decide), decide_eq_true_eq] at h2
    exact h2
theorem nm_at {ci : Nat} (hci : ci < 13) : ∀ a, a < cSz ci → ∀ b, b < cSz ci → a ≠ b → (cT ci a).2.1 ≠ (cT ci b).2.1 := by
  intro a ha b hb hab
  have h := range_all (range_all (range_all nm_all hci) ha) hb
  rw [Bool.or_eq_true, beq_iff_eq, decide_eq_true_eq] at h
  rcases h with h | h
  · exact absurd h hab
  · exact h
theorem sub_tab : [4, 6].all (fun c => decide (cSz c = cSz 2) && (List.range (cSz 2)).all (fun k => decide (cT c k = cT 2 k) && decide (rfs c k = rfs 2 k) && decide (cTy c k = cTy 2 k))) = true := by decide +kernel
theorem tag_obj {ci t : Nat} (hci : ci < 13) (h : tagok ci t = true) : ∃ c, t = c + 1 ∧ c < 13 ∧ cSz c = cSz ci ∧ ∀ k, k < cSz ci → cT c k = cT ci k ∧ rfs c k = rfs ci k ∧ cTy c k = cTy ci k := by
  simp only [tagok, Bool.or_eq_true, Bool.and_eq_true, beq_iff_eq] at h
  have key : ∀ c, c ∈ [4, 6] → cSz c = cSz 2 ∧ ∀ k, k < cSz 2 → cT c k = cT 2 k ∧ rfs c k = rfs 2 k ∧ cTy c k = cTy 2 k := by
    intro c hc
    have := List.all_eq_true.mp sub_tab c hc
    rw [Bool.and_eq_true, decide_eq_true_eq] at this
    refine ⟨this.1, fun k hk => ?_⟩
    have h2 := range_all this.2 hk
    simp only [Bool.and_eq_true, decide_eq_true_eq] at h2
    exact ⟨h2.1.1, h2.1.2, h2.2⟩
  rcases h with h | ⟨rfl, h | h⟩
  · exact ⟨ci, h, hci, rfl, fun k _ => ⟨rfl, rfl, rfl⟩⟩
  · obtain ⟨k1, k2⟩ := key 4 (by decide)
    exact ⟨4, h, by decide, k1, k2⟩
  · obtain ⟨k1, k2⟩ := key 6 (by decide)
    exact ⟨6, h, by decide, k1, k2⟩
theorem fld_row {o j ci k : Nat} (h : fld o j = some (ci, k)) : (.fieldLink (on o) j (cT ci k).1 (cT ci k).2.1 (cT ci k).2.2.1 : Jvm.Cond) ∈ goodWs ∧ ci < 13 ∧ k < cSz ci := by
  unfold fld at h
  obtain ⟨q, hq, he⟩ := Option.map_eq_some_iff.mp h
  have h1 := List.find?_some hq
  have h2 := List.all_eq_true.mp okFld_all q (List.mem_of_find?_eq_some hq)
  simp only [Bool.and_eq_true, beq_iff_eq] at h1
  simp only [okFld, Bool.and_eq_true, decide_eq_true_eq] at h2
  cases he
  rw [← h1.1, ← h1.2]
  exact ⟨good_at (wAt_eq h2.1.1) rfl, h2.1.2, h2.2⟩
theorem fit_int {ty : FieldType} {x : Int32} (h : ty = .int ∨ (ty = .boolean ∧ bz x = true)) : narrow ty (.int x) = .int x ∧ fits ty (.int x) = true := by
  rcases h with rfl | ⟨rfl, h⟩
  · exact ⟨rfl, rfl⟩
  · simp only [bz, Bool.or_eq_true, beq_iff_eq] at h
    rcases h with rfl | rfl <;> exact ⟨rfl, rfl⟩
theorem fit_ref {ty : FieldType} {a : Nat} (h : ty.isReference = true) : narrow ty (.ref a) = .ref a ∧ fits ty (.ref a) = true := by
  cases ty <;> first | (cases h; done) | exact ⟨rfl, rfl⟩
theorem toNatN (i : Int32) : i.toNatClampNeg = i.toInt.toNat := rfl
theorem nlt0 {i : Int32} (h : 0 ≤ i.toInt) : ¬ i < 0 := by
  rw [Int32.lt_iff_toInt_lt]
  have : (0 : Int32).toInt = 0 := rfl
  omega
section SIMB
variable {D : va_G} {cI : ClassId} {cA : Nat → ClassId} {base : Nat} {p : Program} {l : Launch} {e : Env} {R : Room} {s : State} {m : MethodId} {args : Array Value} {below : List Frame} {meth : Method} {c : Code} {Q : State → Prop} {y : Nat} {vf : Value} {hf : Hp}
theorem Fin.step {A A1 : Nat → Nat} {h h1 : Hp} {cells slots cells1 slots1 : Nat} (K : Fin D cI cA base p l e R s m args below meth c Q y vf hf A h cells slots) (q : Pres y A A1 h h1) (e1 : cells1 + ck h = cells + ck h1) (e2 : slots1 + cu h = slots + cu h1) : Fin D cI cA base p l e R s m args below meth c Q y vf hf A1 h1 cells1 slots1 :=
  fun A' H' locs' cells' slots' pc' arr' q' r o lo f1 f2 ri => K A' H' locs' cells' slots' pc' arr' (q.tr q') r o lo (by omega) (by omega) ri
/-- an object of a class whose fields are those of ci -/
theorem obj_at {ci r : Nat} {A : Nat → Nat} {h : Hp} {H : Heap} (hR : Rep D cI cA base A h s H) (hci : ci < 13) (ht : tagok ci (tg h r) = true) (hKF : KF D cI cA s) (hts : ∀ w ∈ goodWs, w.before args s = true) {k : Nat} (hk : k < cSz ci) :
    ∃ (c' : Nat) (cell : Cell) (kC : Class) (cf : Nat) (kf : Class) (fi : Nat) (f : Field), tg h r = c' + 1 ∧ c' < 13 ∧ k < cSz c' ∧ cT c' k = cT ci k ∧ rfs c' k = rfs ci k ∧ cTy c' k = cTy ci k ∧ H[A r]? = some cell ∧ cell.cls = D.1 c' ∧ cell.vm = .none ∧ (∀ j, j < cSz c' → cell.slots[D.2 c' j]? = some (slv A h c' r j)) ∧
      s.vm.findClass (cn c') = some (D.1 c') ∧ s.vm.classes[D.1 c']? = some kC ∧ kC.kind = .ordinary ∧ s.fieldFound? (cT ci k).1 (cT ci k).2.1 (cT ci k).2.2.1 = some (cf, kf, fi, f) ∧ f.slot = D.2 c' k ∧ f.isStatic = false := by
  obtain ⟨c', t1, t2, t3, t4⟩ := tag_obj hci ht
  obtain ⟨t5, t6, t7⟩ := t4 k hk
  obtain ⟨cell, q1, q2, q3, q4⟩ := (hR.2.1 r (by omega)).1 c' t1 t2
  obtain ⟨hS, hfc, kC, hkC, hkind⟩ := hKF.1.1 c' _ (cl_at t2)
  have hk' : k < cSz c' := by omega
  obtain ⟨cf, kf, fi, f, hi, hsl⟩ := hS k hk'
  have hst := (u_facts hfc hkC (u_lays hts (lay_in t2) hk') hi).1
  have hi2 : s.fieldFound? (cT c' k).1 (cT c' k).2.1 (cT c' k).2.2.1 = some (cf, kf, fi, f) := hi
  rw [t5] at hi2
  exact ⟨c', cell, kC, cf, kf, fi, f, t1, t2, hk', t5, t6, t7, q1, q2, q3, q4, hfc, hkC, hkind, hi2, hsl, hst⟩
theorem sim_getfield {n : Nat} (E : EnvM D cI cA p s m args meth c y) (ih : IH D cI cA base p l e R s m args below meth c Q y vf hf n) {pc len : Nat} {ls st : List Value} {h : Hp} {A : Nat → Nat} {arr : Array Slot} {H : Heap} {locs : List Loc} {cells slots : Nat}  {j : Nat} 
    (hd : decode (mB y) pc = .ok (.getfield j, len)) (hok : okl (.getfield j) len = true) (he : stp y pc len ls st h (exec n y) (fun y a h' => exec n y 0 (ent y a) [] h') (.getfield j) = some (vf, hf)) (S : Stt D cI cA base s R y hf A h ls st arr H locs cells slots) (K : Fin D cI cA base p l e R s m args below meth c Q y vf hf A h cells slots) :
    W p l e R s m args below meth c H locs cells slots Q (F0 m pc arr (st.map (cvv A))) := by
  obtain ⟨hx, hb, hml, hown, hts, hKF, hnm⟩ := E
  obtain ⟨hR, hl, ho, hs, hloc, hce, hsl, hfr, hlo⟩ := S
  obtain rfl : len = 3 := by simpa [okl] using hok
  simp only [stp] at he
  split at he
  · rename_i ci k hq
    obtain ⟨hw, hci, hk⟩ := fld_row hq
    obtain ⟨r, t, rfl, he2⟩ := r1_some he
    obtain ⟨h1, he3⟩ := gd_some he2
    obtain ⟨c', cell, kC, cf, kf, fi, f, t1, t2, hk', t5, t6, t7, q1, q2, q3, q4, hfc, hkC, hkind, hi, hsl2, hst⟩ := obj_at hR hci h1 hKF hts hk
    refine W.getf (v := slv A h c' r k) hx hb hown (hts _ hw) hi hst q1 (by rw [q3]; exact fun q => by cases q) (by rw [hsl2]; exact q4 k hk') rfl rfl hd ?_
    have o1 := (okS_cons.mp hs).2
    split at he3
    · rename_i hrf
      obtain ⟨h2, he4⟩ := gd_some he3
      rw [Bool.and_eq_true, bne_iff_ne] at h2
      rw [slv, t6, if_pos hrf, elv, if_pos h2.1]
      exact ih _ _ (.ref (child r k) :: t) _ _ _ _ _ _ _ he4 ⟨hR, hl, ho, okS_cons.mpr ⟨h2.2, o1⟩, hloc, hce, hsl, hfr, hlo⟩ K
    · rename_i hrf
      rw [slv, t6, if_neg hrf]
      exact ih _ _ (.int _ :: t) _ _ _ _ _ _ _ he3 ⟨hR, hl, ho, okS_cons.mpr ⟨trivial, o1⟩, hloc, hce, hsl, hfr, hlo⟩ K
  · cases he
theorem okS_tags {h h1 : Hp} {l : List Value} (e : ∀ r, tg h1 r = tg h r) (hl : okS h l) : okS h1 l := by
  intro v hv
  have := hl v hv
  cases v with
  | ref r => show tg h1 r ≠ 0; rw [e]; exact this
  | _ => exact trivial
theorem locs_to {locs : List Loc} {a i : Nat} (h : ∀ q ∈ locs, base ≤ q.base) (ha : base ≤ a) : ∀ q ∈ locs ++ [(⟨a, i⟩ : Loc)], base ≤ q.base := by
  intro q hq
  rcases List.mem_append.mp hq with h1 | h1
  · exact h q h1
  · rw [List.mem_singleton.mp h1]; exact ha
theorem put_at {pc j ci k r : Nat} {A : Nat → Nat} {h : Hp} {H : Heap} {locs : List Loc} {cells slots : Nat} {arr : Array Slot} {v : Value} {rest : List Value} (E : EnvM D cI cA p s m args meth c y) (hR : Rep D cI cA base A h s H) (hq : fld (mO y) j = some (ci, k)) (hp : pok y ci k = true) (h1 : tagok ci (tg h r) = true) (hv : narrow (cTy ci k) v = v ∧ fits (cTy ci k) v = true) (hd : decode (mB y) pc = .ok (.putfield j, 3))
    (kk : ∀ (c' : Nat) (H1 : Heap) (sl : Nat), tg h r = c' + 1 → c' < 13 → rfs c' k = rfs ci k → H1.size = H.size → (∀ q, q ≠ A r → H1[q]? = H[q]?) → t_OB (A r) (D.1 c') (cSz c') (D.2 c') H1 (updV (slv A h c' r) k v) → W p l e R s m args below meth c H1 (locs ++ [⟨A r, sl⟩]) cells slots Q (F0 m (pc + 3) arr rest)) :
    W p l e R s m args below meth c H locs cells slots Q (F0 m pc arr (v :: .ref (A r) :: rest)) := by
  obtain ⟨hx, hb, hml, hown, hts, hKF, hnm⟩ := E
  obtain ⟨hw, hci, hk⟩ := fld_row hq
  obtain ⟨c', cell, kC, cf, kf, fi, f, t1, t2, hk', t5, t6, t7, q1, q2, q3, q4, hfc, hkC, hkind, hi, hsl2, hst⟩ := obj_at hR hci h1 hKF hts hk
  have hd2 : parseFieldDescriptor (cT ci k).2.2.1 = some (cTy ci k) := (ty_at hci hk).1
  have hap : ∀ a b, a < cSz c' → b < cSz c' → a ≠ b → D.2 c' a ≠ D.2 c' b := va_apart (own := on (mO y)) hts (lay_in t2) (cTy c') (fun k hk => (ty_at t2 hk).1) (nm_at t2) hKF.1 (cl_at t2)
  have hlay := hts _ (lay_in t2 _ (u_in_lay hk'))
  have hlt : f.slot < cell.slots.size := by rw [hsl2]; exact k2_hasslot (q4 k hk')
  have fin : ∀ H' : Heap, H'[A r]? = some (cell.setSlot f.slot v) → t_OB (A r) (D.1 c') (cSz c') (D.2 c') H' (updV (slv A h c' r) k v) := by
    intro H' e1
    rw [hsl2] at e1
    exact ⟨_, e1, q2, q3, t_set q4 hap hk' v⟩
  unfold u_lay at hlay
  rw [t5] at hlay
  by_cases hfin : (cT ci k).2.2.2 = true
  · rw [if_pos hfin] at hlay
    have hp2 : (mt y).2.1 = "<init>" ∧ (cT ci k).1 = on (mO y) := by
      simp only [pok, Bool.or_eq_true, Bool.and_eq_true, decide_eq_true_eq, hfin] at hp
      simpa using hp
    have hcf : m.cls = cf := by
      obtain ⟨_, _, c1, _, _, _, -, -, hf', -, -, -, hown2, -⟩ := Cond.laysFinal_spec hlay
      have e1 : c1 = cf := by have := hi.symm.trans hf'; simp at this; exact this.1.symm
      rw [hp2.2] at hown2
      rw [← e1]; exact Option.some.inj (hown.symm.trans hown2)
    have h6 := u_fits hfc hkC hkind (Or.inr hlay) hi hd2 hv.1 hv.2
    refine W.putFinK hx hb hown (hts _ hw) hi hst hcf (hnm.trans hp2.1) (by rw [q2]; exact h6) q1 q3 hlt rfl rfl hd fun H' e1 e2 e3 => ?_
    exact kk c' H' f.slot t1 t2 t6 e2 e3 (fin H' e1)
  · rw [if_neg hfin] at hlay
    have h6 := u_store hfc hkC hkind hlay hi hd2 hv.1 hv.2
    refine W.putK hx hb (f := f) ⟨hown, hts _ hw, ⟨_, _, _, hi⟩, hst⟩ (by rw [q2]; exact h6) q1 q3 hlt rfl rfl hd fun H' e1 e2 e3 => ?_
    exact kk c' H' f.slot t1 t2 t6 e2 e3 (fin H' e1)
theorem gw_self {r k : Nat} (h1 : gw (child r k) = true) (h2 : gw r = false) : r ≠ child r k := fun e => by rw [← e, h2] at h1; cases h1
theorem child_inj {r k j : Nat} (h1 : gw (child r k) = true) (e : child r j = child r k) : j = k := by
  have a := par_child r k h1
  have b := par_child r j (by rw [e]; exact h1)
  rw [e, a] at b
  cases b
  rfl
theorem gw38 : gw 38 = true := rfl
theorem Pres.mov {A : Nat → Nat} {h : Hp} {r k q : Nat} (hm : mv y = true) (hg : gw (child r k) = true) (hq : gw q = true) : Pres y A (up1 A (child r k) (A q)) h (mov h r k (child r k) q) := by
  intro w hw hgw
  have hgw := hgw hm
  have n1 : w ≠ q := fun e => by rw [e, hq] at hgw; cases hgw
  have n2 : w ≠ child r k := fun e => by rw [e, hg] at hgw; cases hgw
  refine ⟨by rw [tg_mov, if_neg n1, if_neg n2], ?_⟩
  unfold up1
  rw [if_neg n2]
theorem sim_putfield {n : Nat} (E : EnvM D cI cA p s m args meth c y) (ih : IH D cI cA base p l e R s m args below meth c Q y vf hf n) {pc len : Nat} {ls st : List Value} {h : Hp} {A : Nat → Nat} {arr : Array Slot} {H : Heap} {locs : List Loc} {cells slots : Nat}  {j : Nat} 
    (hd : decode (mB y) pc = .ok (.putfield j, len)) (hok : okl (.putfield j) len = true) (he : stp y pc len ls st h (exec n y) (fun y a h' => exec n y 0 (ent y a) [] h') (.putfield j) = some (vf, hf)) (S : Stt D cI cA base s R y hf A h ls st arr H locs cells slots) (K : Fin D cI cA base p l e R s m args below meth c Q y vf hf A h cells slots) :
    W p l e R s m args below meth c H locs cells slots Q (F0 m pc arr (st.map (cvv A))) := by
  obtain ⟨hx, hb, hml, hown, hts, hKF, hnm⟩ := E
  obtain ⟨hR, hl, ho, hs, hloc, hce, hsl, hfr, hlo⟩ := S
  obtain rfl : len = 3 := by simpa [okl] using hok
  simp only [stp] at he
  split at he
  · rename_i ci k hq
    obtain ⟨hp, he2⟩ := gd_some he
    split at he2
    · rename_i x r t
      obtain ⟨h1, he3⟩ := gd_some he2
      simp only [Bool.and_eq_true, Bool.not_eq_true', Bool.or_eq_true, beq_iff_eq] at h1
      obtain ⟨⟨h1, hrf⟩, hty⟩ := h1
      refine put_at ⟨hx, hb, hml, hown, hts, hKF, hnm⟩ hR hq hp h1 (fit_int ?_) hd ?_
      · rcases hty with hty | hty
        · exact Or.inl hty
        · rcases (ty_at (fld_row hq).2.1 (fld_row hq).2.2).2.2 hrf with h2 | h2
          · exact Or.inl h2
          · exact Or.inr ⟨h2, hty⟩
      · intro c' H1 sl t1 t2 t6 z oq ho2
        refine ih _ _ t _ _ _ _ _ _ _ he3 ⟨hR.setObj t1 t2 (by rw [t6]; exact hrf) z oq ho2, hl, okS_tags (fun _ => rfl) ho, okS_tags (fun _ => rfl) (okS_cons.mp (okS_cons.mp hs).2).2, locs_to hloc (hR.2.2.1 r (by omega) (by omega)), hce, hsl, hfr, hlo⟩ (K.step (Pres.tags (fun _ => rfl)) rfl rfl)
    · rename_i q r t
      obtain ⟨h1, he3⟩ := gd_some he2
      rw [Bool.and_eq_true] at h1
      obtain ⟨h1, hrf⟩ := h1
      have hty := ((ty_at (fld_row hq).2.1 (fld_row hq).2.2).2.1 hrf).2
      have o0 := okS_cons.mp hs
      refine put_at ⟨hx, hb, hml, hown, hts, hKF, hnm⟩ hR hq hp h1 (fit_ref hty) hd ?_
      intro c' H1 sl t1 t2 t6 z oq ho2
      split at he3
      · rename_i hqc
        rw [hqc] at ho2
        have hch : tg h (child r k) ≠ 0 := by rw [← hqc]; exact o0.1
        exact ih _ _ t _ _ _ _ _ _ _ he3 ⟨hR.setLink t1 t2 (by rw [t6]; exact hrf) hch z oq ho2, hl, okS_tags (fun _ => rfl) ho, okS_tags (fun _ => rfl) (okS_cons.mp o0.2).2, locs_to hloc (hR.2.2.1 r (by omega) (by omega)), hce, hsl, hfr, hlo⟩ (K.step (Pres.tags (fun _ => rfl)) rfl rfl)
      · obtain ⟨h2, he4⟩ := gd_some he3
        simp only [Bool.and_eq_true, Bool.not_eq_true', beq_iff_eq, decide_eq_true_eq] at h2
        obtain ⟨⟨⟨⟨⟨⟨⟨hm, rfl⟩, hg⟩, hgr⟩, hch⟩, h38⟩, hng⟩, hns⟩ := h2
        have P : Pres y A (up1 A (child r k) (A 38)) h (mov h r k (child r k) 38) := Pres.mov hm hg rfl
        have hrc := gw_self hg hgr
        have hA : up1 A (child r k) (A 38) r = A r := by unfold up1; rw [if_neg hrc]
        have hr38 : r ≠ 38 := fun e => by rw [e] at hgr; cases hgr
        have hR1 : Rep D cI cA base (up1 A (child r k) (A 38)) (mov h r k (child r k) 38) s H1 := by
          refine hR.move (by omega) (by omega) hg hgr (Or.inl ⟨rfl, h38⟩) z oq ⟨fun c2 e1 e2 => ?_, fun e1 => ?_, fun e1 e2 => ?_, fun e1 => ?_⟩
          · rw [tg_mov, if_neg hr38, if_neg hrc] at e1
            obtain rfl : c2 = c' := by omega
            rw [hA]
            refine ho2.to (fun j hj => ?_)
            unfold updV slv elv
            by_cases hjk : j = k
            · rw [if_pos hjk, hjk, t6, if_pos hrf, fl_mov, if_pos (⟨rfl, rfl⟩ : r = r ∧ k = k)]
              unfold up1
              rw [if_pos rfl, if_pos rfl]
              rfl
            · have n1 : child r j ≠ child r k := fun e => hjk (child_inj hg e)
              rw [if_neg hjk, iv_mov, if_neg hrc, fl_mov, if_neg hrc, if_neg (fun e : r = r ∧ j = k => hjk e.2)]
              unfold up1
              rw [if_neg n1]
          all_goals (rw [tg_mov, if_neg hr38, if_neg hrc] at e1)
          · omega
          · rw [tg_mov, if_neg hr38, if_neg hrc] at e2; omega
          · omega
        have o3 := okS.to P (okS_cons.mp o0.2).2 (fun _ => hns)
        have w := ih _ _ t _ (up1 A (child r k) (A 38)) _ _ (locs ++ [⟨A r, sl⟩]) cells slots he4 ⟨hR1, hl.to P ho (fun _ => hng), (okS.to P ho (fun _ => hng)).1, o3.1, locs_to hloc (hR.2.2.1 r (by omega) (by omega)), hce, hsl, hfr, hlo⟩ (K.step P rfl rfl)
        rw [o3.2] at w
        exact w
    · cases he2
  · cases he
theorem inr_some {i : Int32} {N : Nat} (h : inr i N = true) : 0 ≤ i.toInt ∧ i.toNatClampNeg < N ∧ ¬ i < 0 ∧ ((i.toNatClampNeg : Nat) : Int) = i.toInt := by
  simp only [inr, Bool.and_eq_true, decide_eq_true_eq] at h
  refine ⟨h.1, ?_, nlt0 h.1, ?_⟩
  · rw [toNatN]; omega
  · rw [toNatN]; omega
theorem not_in {i : Int32} {N M : Nat} (h : inr i N = true) (hM : N ≤ M) : ¬ (i < 0 ∨ M ≤ i.toNatClampNeg) := by
  obtain ⟨a, b, c, d⟩ := inr_some h
  rintro (q | q)
  · exact c q
  · omega
theorem tyI (hKF : KF D cI cA s) : ArrOfT s cI .int ∧ va_RA s cI .int := hKF.1.2 0 (cI, .int) rfl
theorem tyA (hKF : KF D cI cA s) {t : Nat} (h1 : 21 ≤ t) (h2 : t ≤ 25) : ArrOfT s (cA t) (.object (aName t)) ∧ va_RA s (cA t) (.object (aName t)) := by
  refine hKF.1.2 (t - 20) (cA t, .object (aName t)) ?_
  have : t = 21 ∨ t = 22 ∨ t = 23 ∨ t = 24 ∨ t = 25 := by omega
  rcases this with rfl | rfl | rfl | rfl | rfl <;> rfl
theorem sim_iaload {n : Nat} (E : EnvM D cI cA p s m args meth c y) (ih : IH D cI cA base p l e R s m args below meth c Q y vf hf n) {pc len : Nat} {ls st : List Value} {h : Hp} {A : Nat → Nat} {arr : Array Slot} {H : Heap} {locs : List Loc} {cells slots : Nat}  
    (hd : decode (mB y) pc = .ok (.iaload, len)) (hok : okl (.iaload) len = true) (he : stp y pc len ls st h (exec n y) (fun y a h' => exec n y 0 (ent y a) [] h') (.iaload) = some (vf, hf)) (S : Stt D cI cA base s R y hf A h ls st arr H locs cells slots) (K : Fin D cI cA base p l e R s m args below meth c Q y vf hf A h cells slots) :
    W p l e R s m args below meth c H locs cells slots Q (F0 m pc arr (st.map (cvv A))) := by
  obtain ⟨hx, hb, hml, hown, hts, hKF, hnm⟩ := E
  obtain ⟨hR, hl, ho, hs, hloc, hce, hsl, hfr, hlo⟩ := S
  obtain rfl : len = 1 := by simpa [okl] using hok
  simp only [stp] at he
  obtain ⟨r, i, t, rfl, he2⟩ := ri_some he
  obtain ⟨h1, he3⟩ := gd_some he2
  simp only [Bool.and_eq_true, Bool.or_eq_true, beq_iff_eq] at h1
  obtain ⟨h1, h2⟩ := h1
  obtain ⟨i0, i1, i2, i3⟩ := inr_some h2
  have o2 := (okS_cons.mp (okS_cons.mp hs).2).2
  have w := ih _ _ (.int (I (iv h r i.toInt)) :: t) _ _ _ _ _ _ _ he3 ⟨hR, hl, ho, okS_cons.mpr ⟨trivial, o2⟩, hloc, hce, hsl, hfr, hlo⟩ K
  rcases h1 with h1 | h1
  · have hc := (hR.2.1 r (by omega)).2.1 h1
    refine W.iald (v := .int (I (iv h r i.toInt))) hx hb hc ((tyI hKF).1 _ _) (fun q => by cases q) (by rw [arrV_size]; exact not_in h2 (Nat.le_refl _)) ?_ rfl rfl hd w
    rw [arrV_read _ _ i1, i3]
  · obtain ⟨cell, c1, c2, c3, c4, c5, c6, -⟩ := (hR.2.1 r (by omega)).2.2.2 h1
    refine W.iald (v := .int (I (iv h r i.toInt))) hx hb c1 c2 c3 (not_in h2 c4) ?_ rfl rfl hd w
    rw [c6 _ i1]
    show some (Value.int (I (iv h r ((i.toNatClampNeg : Nat) : Int)))) = _
    rw [i3]
theorem sim_iastore {n : Nat} (E : EnvM D cI cA p s m args meth c y) (ih : IH D cI cA base p l e R s m args below meth c Q y vf hf n) {pc len : Nat} {ls st : List Value} {h : Hp} {A : Nat → Nat} {arr : Array Slot} {H : Heap} {locs : List Loc} {cells slots : Nat}  
    (hd : decode (mB y) pc = .ok (.iastore, len)) (hok : okl (.iastore) len = true) (he : stp y pc len ls st h (exec n y) (fun y a h' => exec n y 0 (ent y a) [] h') (.iastore) = some (vf, hf)) (S : Stt D cI cA base s R y hf A h ls st arr H locs cells slots) (K : Fin D cI cA base p l e R s m args below meth c Q y vf hf A h cells slots) :
    W p l e R s m args below meth c H locs cells slots Q (F0 m pc arr (st.map (cvv A))) := by
  obtain ⟨hx, hb, hml, hown, hts, hKF, hnm⟩ := E
  obtain ⟨hR, hl, ho, hs, hloc, hce, hsl, hfr, hlo⟩ := S
  obtain rfl : len = 1 := by simpa [okl] using hok
  simp only [stp] at he
  obtain ⟨r, i, x, t, rfl, he2⟩ := rii_some he
  obtain ⟨h1, he3⟩ := gd_some he2
  simp only [Bool.and_eq_true, beq_iff_eq] at h1
  obtain ⟨h1, h2⟩ := h1
  obtain ⟨i0, i1, i2, i3⟩ := inr_some h2
  have hc := (hR.2.1 r (by omega)).2.1 h1
  refine W.iast hx hb hc ((tyI hKF).1 _ _) (fun q => by cases q) (by rw [arrV_size]; exact not_in h2 (Nat.le_refl _)) rfl rfl hd fun H1 e1 z oq => ?_
  rw [arrV_store] at e1
  have hR1 : Rep D cI cA base A (setI h r i.toInt x.toInt) s H1 := by
    refine hR.setArr h1 rfl (fun _ => rfl) (fun _ => rfl) (fun q hq zz => by rw [iv_setI, if_neg (fun e => hq e.1)]) (fun _ _ => rfl) z oq ?_
    rw [e1]
    congr 2
    funext j
    unfold updV
    rw [iv_setI]
    by_cases hj : j = i.toNatClampNeg
    · rw [if_pos hj, if_pos ⟨rfl, by rw [hj, i3]⟩]
      simp [I]
    · rw [if_neg hj, if_neg (fun e => hj (by have := e.2; omega))]
  exact ih _ _ t _ _ _ _ _ _ _ he3 ⟨hR1, hl, okS_tags (fun _ => rfl) ho, okS_tags (fun _ => rfl) (okS_cons.mp (okS_cons.mp (okS_cons.mp hs).2).2).2, locs_to hloc (hR.2.2.1 r (by omega) (by omega)), hce, hsl, hfr, hlo⟩ (K.step (Pres.tags (fun _ => rfl)) rfl rfl)
theorem sim_arraylength {n : Nat} (E : EnvM D cI cA p s m args meth c y) (ih : IH D cI cA base p l e R s m args below meth c Q y vf hf n) {pc len : Nat} {ls st : List Value} {h : Hp} {A : Nat → Nat} {arr : Array Slot} {H : Heap} {locs : List Loc} {cells slots : Nat}  
    (hd : decode (mB y) pc = .ok (.arraylength, len)) (hok : okl (.arraylength) len = true) (he : stp y pc len ls st h (exec n y) (fun y a h' => exec n y 0 (ent y a) [] h') (.arraylength) = some (vf, hf)) (S : Stt D cI cA base s R y hf A h ls st arr H locs cells slots) (K : Fin D cI cA base p l e R s m args below meth c Q y vf hf A h cells slots) :
    W p l e R s m args below meth c H locs cells slots Q (F0 m pc arr (st.map (cvv A))) := by
  obtain ⟨hx, hb, hml, hown, hts, hKF, hnm⟩ := E
  obtain ⟨hR, hl, ho, hs, hloc, hce, hsl, hfr, hlo⟩ := S
  obtain rfl : len = 1 := by simpa [okl] using hok
  simp only [stp] at he
  obtain ⟨r, t, rfl, he2⟩ := r1_some he
  obtain ⟨h1, he3⟩ := gd_some he2
  simp only [Bool.or_eq_true, Bool.and_eq_true, decide_eq_true_eq, beq_iff_eq] at h1
  have w := ih _ _ (.int (Int32.ofNat (ln h r)) :: t) _ _ _ _ _ _ _ he3 ⟨hR, hl, ho, okS_cons.mpr ⟨trivial, (okS_cons.mp hs).2⟩, hloc, hce, hsl, hfr, hlo⟩ K
  rcases h1 with ⟨h1, h2⟩ | h1
  · by_cases h20 : tg h r = 20
    · exact W.alen (n := Int32.ofNat (ln h r)) hx hb ((hR.2.1 r (by omega)).2.1 h20) ((tyI hKF).1 _ _) (by rw [arrV_size] <;> rfl) rfl rfl hd w
    · exact W.alen (n := Int32.ofNat (ln h r)) hx hb ((hR.2.1 r (by omega)).2.2.1 (by omega) h2) ((tyA hKF (by omega) h2).1 _ _) (by rw [arrV_size] <;> rfl) rfl rfl hd w
  · obtain ⟨cell, c1, c2, c3, c4, c5, c6, -⟩ := (hR.2.1 r (by omega)).2.2.2 h1
    exact W.alen (n := Int32.ofNat (ln h r)) hx hb c1 c2 c5 rfl rfl hd w
theorem sim_aaload {n : Nat} (E : EnvM D cI cA p s m args meth c y) (ih : IH D cI cA base p l e R s m args below meth c Q y vf hf n) {pc len : Nat} {ls st : List Value} {h : Hp} {A : Nat → Nat} {arr : Array Slot} {H : Heap} {locs : List Loc} {cells slots : Nat}  
    (hd : decode (mB y) pc = .ok (.aaload, len)) (hok : okl (.aaload) len = true) (he : stp y pc len ls st h (exec n y) (fun y a h' => exec n y 0 (ent y a) [] h') (.aaload) = some (vf, hf)) (S : Stt D cI cA base s R y hf A h ls st arr H locs cells slots) (K : Fin D cI cA base p l e R s m args below meth c Q y vf hf A h cells slots) :
    W p l e R s m args below meth c H locs cells slots Q (F0 m pc arr (st.map (cvv A))) := by
  obtain ⟨hx, hb, hml, hown, hts, hKF, hnm⟩ := E
  obtain ⟨hR, hl, ho, hs, hloc, hce, hsl, hfr, hlo⟩ := S
  obtain rfl : len = 1 := by simpa [okl] using hok
  simp only [stp] at he
  obtain ⟨r, i, t, rfl, he2⟩ := ri_some he
  obtain ⟨h1, he3⟩ := gd_some he2
  simp only [Bool.and_eq_true, decide_eq_true_eq, bne_iff_ne] at h1
  obtain ⟨⟨⟨⟨h1, h2⟩, h3⟩, h4⟩, h5⟩ := h1
  obtain ⟨i0, i1, i2, i3⟩ := inr_some h3
  have o2 := (okS_cons.mp (okS_cons.mp hs).2).2
  have w := ih _ _ (.ref (child r i.toInt.toNat) :: t) _ _ _ _ _ _ _ he3 ⟨hR, hl, ho, okS_cons.mpr ⟨h5, o2⟩, hloc, hce, hsl, hfr, hlo⟩ K
  refine W.aald (v := .ref (A (child r i.toInt.toNat))) hx hb ((hR.2.1 r (by omega)).2.2.1 h1 h2) ((tyA hKF h1 h2).1 _ _) rfl (fun q => by cases q) (by rw [arrV_size]; exact not_in h3 (Nat.le_refl _)) ?_ rfl rfl hd w
  rw [arrV_read _ _ i1, toNatN, elv, if_pos h4]
theorem castG (hKF : KF D cI cA s) {c' : Nat} (h : c' = 2 ∨ c' = 4 ∨ c' = 6) : s.vm.assignable (D.1 c') (D.1 2) = true := by
  have cl : ∀ ci, ci < 13 → s.vm.findClass (cn ci) = some (D.1 ci) := fun ci hci => (hKF.1.1 ci _ (cl_at hci)).2.1
  rcases h with rfl | rfl | rfl
  · exact va_asg _ _
  · have w : (Cond.castable "NutsUp$LongGrain" "NutsUp$Grain").before #[] s = true := va_Nw.use rfl (hKF.2 _ (nest_at (wAt_eq okCast_4) rfl))
    obtain ⟨a, b, w1, w2, w3⟩ := Cond.castable_spec w
    cases (cl 4 (by decide)).symm.trans w1
    cases (cl 2 (by decide)).symm.trans w2
    exact w3
  · have w : (Cond.castable "NutsUp$OilyGrain" "NutsUp$Grain").before #[] s = true := va_Nw.use rfl (hKF.2 _ (nest_at (wAt_eq okCast_6) rfl))
    obtain ⟨a, b, w1, w2, w3⟩ := Cond.castable_spec w
    cases (cl 6 (by decide)).symm.trans w1
    cases (cl 2 (by decide)).symm.trans w2
    exact w3
theorem ast_at {pc r q : Nat} {A : Nat → Nat} {h : Hp} {H : Heap} {locs : List Loc} {cells slots : Nat} {arr : Array Slot} {rest : List Value} {i : Int32} (E : EnvM D cI cA p s m args meth c y) (hR : Rep D cI cA base A h s H) (h1 : elok (tg h r) (tg h q) = true) (h2 : inr i (ln h r) = true) (hd : decode (mB y) pc = .ok (.aastore, 1))
    (kk : ∀ (H1 : Heap), 21 ≤ tg h r → tg h r ≤ 25 → H1.size = H.size → (∀ q, q ≠ A r → H1[q]? = H[q]?) → H1[A r]? = some (arrV (cA (tg h r)) (ln h r) (updV (elv A h r) i.toInt.toNat (.ref (A q)))) → W p l e R s m args below meth c H1 (locs ++ [⟨A r, i.toNatClampNeg⟩]) cells slots Q (F0 m (pc + 1) arr rest)) :
    W p l e R s m args below meth c H locs cells slots Q (F0 m pc arr (.ref (A q) :: .int i :: .ref (A r) :: rest)) := by
  obtain ⟨hx, hb, hml, hown, hts, hKF, hnm⟩ := E
  obtain ⟨i0, i1, i2, i3⟩ := inr_some h2
  have key : 21 ≤ tg h r ∧ tg h r ≤ 25 ∧ ∃ c', tg h q = c' + 1 ∧ c' < 13 ∧ s.vm.assignable (D.1 c') (D.1 (aCls (tg h r))) = true ∧ aCls (tg h r) < 13 ∧ cn (aCls (tg h r)) = aName (tg h r) := by
    simp only [elok, Bool.or_eq_true, Bool.and_eq_true, beq_iff_eq] at h1
    rcases h1 with ⟨h1, h3⟩ | ⟨h1, h3⟩
    · rw [h1]
      refine ⟨by decide, by decide, ?_⟩
      rcases h3 with (h3 | h3) | h3
      · exact ⟨2, h3, by decide, castG hKF (Or.inl rfl), by decide, rfl⟩
      · exact ⟨4, h3, by decide, castG hKF (Or.inr (Or.inl rfl)), by decide, rfl⟩
      · exact ⟨6, h3, by decide, castG hKF (Or.inr (Or.inr rfl)), by decide, rfl⟩
    · rcases h1 with ((h1 | h1) | h1) | h1 <;> rw [h1] at h3 ⊢ <;> exact ⟨by decide, by decide, _, h3, by decide, va_asg _ _, by decide, rfl⟩
  obtain ⟨k1, k2, c', k3, k4, k5, k6, k7⟩ := key
  obtain ⟨kA, comp, g1, g2, g3, -⟩ := (tyA hKF k1 k2).2
  have hcl := (hKF.1.1 _ _ (cl_at k6)).2
  have hcomp : comp = D.1 (aCls (tg h r)) := by
    have e1 : s.vm.findClass (cn (aCls (tg h r))) = some (D.1 (aCls (tg h r))) := hcl.1
    rw [k7] at e1
    exact Option.some.inj (g3.symm.trans e1)
  subst hcomp
  obtain ⟨kC, hkC, -⟩ := hcl.2
  obtain ⟨cv, q1, q2, q3, -⟩ := (hR.2.1 q (by omega)).1 c' k3 k4
  obtain ⟨kv, hkv, -⟩ := (hKF.1.1 _ _ (cl_at k4)).2.2
  refine W.aast hx hb ((hR.2.1 r (by omega)).2.2.1 k1 k2) (fun q h => by cases h) (fun h => by cases h) g1 g2 rfl hkC ⟨i2, by rw [arrV_size]; exact i1⟩ q1 (fun q h => by rw [q3] at h; cases h) (by rw [q2]; exact hkv) (by rw [q2]; exact k5) rfl rfl hd fun H1 e1 z oq => ?_
  rw [arrV_store] at e1
  exact kk H1 k1 k2 z oq e1
theorem sim_aastore {n : Nat} (E : EnvM D cI cA p s m args meth c y) (ih : IH D cI cA base p l e R s m args below meth c Q y vf hf n) {pc len : Nat} {ls st : List Value} {h : Hp} {A : Nat → Nat} {arr : Array Slot} {H : Heap} {locs : List Loc} {cells slots : Nat}  
    (hd : decode (mB y) pc = .ok (.aastore, len)) (hok : okl (.aastore) len = true) (he : stp y pc len ls st h (exec n y) (fun y a h' => exec n y 0 (ent y a) [] h') (.aastore) = some (vf, hf)) (S : Stt D cI cA base s R y hf A h ls st arr H locs cells slots) (K : Fin D cI cA base p l e R s m args below meth c Q y vf hf A h cells slots) :
    W p l e R s m args below meth c H locs cells slots Q (F0 m pc arr (st.map (cvv A))) := by
  obtain ⟨hx, hb, hml, hown, hts, hKF, hnm⟩ := E
  obtain ⟨hR, hl, ho, hs, hloc, hce, hsl, hfr, hlo⟩ := S
  obtain rfl : len = 1 := by simpa [okl] using hok
  simp only [stp] at he
  obtain ⟨r, i, q, t, rfl, he2⟩ := rir_some he
  obtain ⟨h1, he3⟩ := gd_some he2
  rw [Bool.and_eq_true] at h1
  obtain ⟨h1, h2⟩ := h1
  have o0 := okS_cons.mp hs
  have o2 := (okS_cons.mp (okS_cons.mp o0.2).2)
  refine ast_at (q := q) ⟨hx, hb, hml, hown, hts, hKF, hnm⟩ hR h1 h2 hd fun H1 k1 k2 z oq e1 => ?_
  split at he3
  · rename_i hqc
    rw [hqc] at e1
    have hch : tg h (child r i.toInt.toNat) ≠ 0 := by rw [← hqc]; exact o0.1
    exact ih _ _ t _ _ _ _ _ _ _ he3 ⟨hR.setElL k1 k2 hch z oq e1, hl, okS_tags (fun _ => rfl) ho, okS_tags (fun _ => rfl) o2.2, locs_to hloc (hR.2.2.1 r (by omega) (by omega)), hce, hsl, hfr, hlo⟩ (K.step (Pres.tags (fun _ => rfl)) rfl rfl)
  · obtain ⟨h3, he4⟩ := gd_some he3
    simp only [Bool.and_eq_true, Bool.not_eq_true', beq_iff_eq, decide_eq_true_eq] at h3
    obtain ⟨⟨⟨⟨⟨⟨⟨ht21, hm⟩, rfl⟩, hg⟩, hgr⟩, hch⟩, hng⟩, hns⟩ := h3
    have P : Pres y A (up1 A (child r i.toInt.toNat) (A 37)) h (mov h r i.toInt.toNat (child r i.toInt.toNat) 37) := Pres.mov hm hg rfl
    have hrc := gw_self hg hgr
    have hA : up1 A (child r i.toInt.toNat) (A 37) r = A r := by unfold up1; rw [if_neg hrc]
    have hr37 : r ≠ 37 := fun e => by rw [e] at hgr; cases hgr
    have h37 : tg h 37 = 3 ∨ tg h 37 = 5 ∨ tg h 37 = 7 := by
      simp only [elok, Bool.or_eq_true, Bool.and_eq_true, beq_iff_eq] at h1
      omega
    have hR1 : Rep D cI cA base (up1 A (child r i.toInt.toNat) (A 37)) (mov h r i.toInt.toNat (child r i.toInt.toNat) 37) s H1 := by
      refine hR.move (by omega) (by omega) hg hgr (Or.inr ⟨rfl, h37⟩) z oq ⟨fun c2 e1 e2 => ?_, fun e1 => ?_, fun e2 e3 => ?_, fun e1 => ?_⟩
      · rw [tg_mov, if_neg hr37, if_neg hrc] at e1
        omega
      · rw [tg_mov, if_neg hr37, if_neg hrc] at e1
        omega
      · rw [tg_mov, if_neg hr37, if_neg hrc, ln_mov, if_neg hrc, hA, e1]
        congr 2
        funext j
        unfold updV elv
        by_cases hjk : j = i.toInt.toNat
        · rw [if_pos hjk, hjk, fl_mov, if_pos (⟨rfl, rfl⟩ : r = r ∧ i.toInt.toNat = i.toInt.toNat)]
          unfold up1
          rw [if_pos rfl, if_pos rfl]
        · have n1 : child r j ≠ child r i.toInt.toNat := fun e => hjk (child_inj hg e)
          rw [if_neg hjk, fl_mov, if_neg hrc, if_neg (fun e : r = r ∧ j = i.toInt.toNat => hjk e.2)]
          unfold up1
          rw [if_neg n1]
      · rw [tg_mov, if_neg hr37, if_neg hrc] at e1
        omega
    have o3 := okS.to P o2.2 (fun _ => hns)
    have w := ih _ _ t _ (up1 A (child r i.toInt.toNat) (A 37)) _ _ (locs ++ [⟨A r, i.toNatClampNeg⟩]) cells slots he4 ⟨hR1, hl.to P ho (fun _ => hng), (okS.to P ho (fun _ => hng)).1, o3.1, locs_to hloc (hR.2.2.1 r (by omega) (by omega)), hce, hsl, hfr, hlo⟩ (K.step P rfl rfl)
    rw [o3.2] at w
    exact w
theorem ldc_row {o j : Nat} {v : Int32} (h : ldct o j = some v) : (.constant (on o) j v : Jvm.Cond) ∈ goodWs := by
  unfold ldct at h
  obtain ⟨q, hq, he⟩ := Option.map_eq_some_iff.mp h
  have h1 := List.find?_some hq
  have h2 := List.all_eq_true.mp okLdc_all q (List.mem_of_find?_eq_some hq)
  simp only [Bool.and_eq_true, beq_iff_eq] at h1
  rw [← he, ← h1.1, ← h1.2]
  exact good_at (wAt_eq h2) rfl
theorem ld2_row {o j : Nat} {v : Int64} (h : ld2t o j = some v) : (.constantLong (on o) j v : Jvm.Cond) ∈ goodWs := by
  unfold ld2t at h
  obtain ⟨q, hq, he⟩ := Option.map_eq_some_iff.mp h
  have h1 := List.find?_some hq
  have h2 := List.all_eq_true.mp okLd2_all q (List.mem_of_find?_eq_some hq)
  simp only [Bool.and_eq_true, beq_iff_eq] at h1
  rw [← he, ← h1.1, ← h1.2]
  exact good_at (wAt_eq h2) rfl
theorem sim_ldc {n : Nat} (E : EnvM D cI cA p s m args meth c y) (ih : IH D cI cA base p l e R s m args below meth c Q y vf hf n) {pc len : Nat} {ls st : List Value} {h : Hp} {A : Nat → Nat} {arr : Array Slot} {H : Heap} {locs : List Loc} {cells slots : Nat}  {j : Nat} 
    (hd : decode (mB y) pc = .ok (.ldc j, len)) (hok : okl (.ldc j) len = true) (he : stp y pc len ls st h (exec n y) (fun y a h' => exec n y 0 (ent y a) [] h') (.ldc j) = some (vf, hf)) (S : Stt D cI cA base s R y hf A h ls st arr H locs cells slots) (K : Fin D cI cA base p l e R s m args below meth c Q y vf hf A h cells slots) :
    W p l e R s m args below meth c H locs cells slots Q (F0 m pc arr (st.map (cvv A))) := by
  obtain ⟨hx, hb, hml, hown, hts, hKF, hnm⟩ := E
  obtain ⟨hR, hl, ho, hs, hloc, hce, hsl, hfr, hlo⟩ := S
  obtain rfl : len = 2 := by simpa [okl] using hok
  simp only [stp] at he
  split at he
  · rename_i v hq
    exact lv_ldc hx hb hown (hts _ (ldc_row hq)) hd (ih _ _ (.int v :: st) _ _ _ _ _ _ _ he ⟨hR, hl, ho, okS_cons.mpr ⟨trivial, hs⟩, hloc, hce, hsl, hfr, hlo⟩ K)
  · cases he
theorem sim_ldc_w {n : Nat} (E : EnvM D cI cA p s m args meth c y) (ih : IH D cI cA base p l e R s m args below meth c Q y vf hf n) {pc len : Nat} {ls st : List Value} {h : Hp} {A : Nat → Nat} {arr : Array Slot} {H : Heap} {locs : List Loc} {cells slots : Nat}  {j : Nat} 
    (hd : decode (mB y) pc = .ok (.ldc_w j, len)) (hok : okl (.ldc_w j) len = true) (he : stp y pc len ls st h (exec n y) (fun y a h' => exec n y 0 (ent y a) [] h') (.ldc_w j) = some (vf, hf)) (S : Stt D cI cA base s R y hf A h ls st arr H locs cells slots) (K : Fin D cI cA base p l e R s m args below meth c Q y vf hf A h cells slots) :
    W p l e R s m args below meth c H locs cells slots Q (F0 m pc arr (st.map (cvv A))) := by
  obtain ⟨hx, hb, hml, hown, hts, hKF, hnm⟩ := E
  obtain ⟨hR, hl, ho, hs, hloc, hce, hsl, hfr, hlo⟩ := S
  obtain rfl : len = 3 := by simpa [okl] using hok
  simp only [stp] at he
  split at he
  · rename_i v hq
    exact lv_ldcw hx hb hown (hts _ (ldc_row hq)) hd (ih _ _ (.int v :: st) _ _ _ _ _ _ _ he ⟨hR, hl, ho, okS_cons.mpr ⟨trivial, hs⟩, hloc, hce, hsl, hfr, hlo⟩ K)
  · cases he
theorem sim_ldc2_w {n : Nat} (E : EnvM D cI cA p s m args meth c y) (ih : IH D cI cA base p l e R s m args below meth c Q y vf hf n) {pc len : Nat} {ls st : List Value} {h : Hp} {A : Nat → Nat} {arr : Array Slot} {H : Heap} {locs : List Loc} {cells slots : Nat}  {j : Nat} 
    (hd : decode (mB y) pc = .ok (.ldc2_w j, len)) (hok : okl (.ldc2_w j) len = true) (he : stp y pc len ls st h (exec n y) (fun y a h' => exec n y 0 (ent y a) [] h') (.ldc2_w j) = some (vf, hf)) (S : Stt D cI cA base s R y hf A h ls st arr H locs cells slots) (K : Fin D cI cA base p l e R s m args below meth c Q y vf hf A h cells slots) :
    W p l e R s m args below meth c H locs cells slots Q (F0 m pc arr (st.map (cvv A))) := by
  obtain ⟨hx, hb, hml, hown, hts, hKF, hnm⟩ := E
  obtain ⟨hR, hl, ho, hs, hloc, hce, hsl, hfr, hlo⟩ := S
  obtain rfl : len = 3 := by simpa [okl] using hok
  simp only [stp] at he
  split at he
  · rename_i v hq
    exact lv_ldc2 hx hb hown (hts _ (ld2_row hq)) hd (ih _ _ (.long v :: st) _ _ _ _ _ _ _ he ⟨hR, hl, ho, okS_cons.mpr ⟨trivial, hs⟩, hloc, hce, hsl, hfr, hlo⟩ K)
  · cases he
theorem sim_getstatic {n : Nat} (E : EnvM D cI cA p s m args meth c y) (ih : IH D cI cA base p l e R s m args below meth c Q y vf hf n) {pc len : Nat} {ls st : List Value} {h : Hp} {A : Nat → Nat} {arr : Array Slot} {H : Heap} {locs : List Loc} {cells slots : Nat}  {j : Nat} 
    (hd : decode (mB y) pc = .ok (.getstatic j, len)) (hok : okl (.getstatic j) len = true) (he : stp y pc len ls st h (exec n y) (fun y a h' => exec n y 0 (ent y a) [] h') (.getstatic j) = some (vf, hf)) (S : Stt D cI cA base s R y hf A h ls st arr H locs cells slots) (K : Fin D cI cA base p l e R s m args below meth c Q y vf hf A h cells slots) :
    W p l e R s m args below meth c H locs cells slots Q (F0 m pc arr (st.map (cvv A))) := by
  obtain ⟨hx, hb, hml, hown, hts, hKF, hnm⟩ := E
  obtain ⟨hR, hl, ho, hs, hloc, hce, hsl, hfr, hlo⟩ := S
  obtain rfl : len = 3 := by simpa [okl] using hok
  simp only [stp] at he
  split at he
  · rename_i r hq
    obtain ⟨h1, he2⟩ := gd_some he
    have h1 : tg h r = 30 := by simpa using h1
    have w := ih _ _ (.ref r :: st) _ _ _ _ _ _ _ he2 ⟨hR, hl, ho, okS_cons.mpr ⟨by show tg h r ≠ 0; omega, hs⟩, hloc, hce, hsl, hfr, hlo⟩ K
    have key : (on (mO y) = on 0 ∧ j = 37 ∧ r = 500) ∨ (on (mO y) = on 1 ∧ j = 21 ∧ r = 501) := by
      unfold stf at hq
      obtain ⟨q, hq, he⟩ := Option.map_eq_some_iff.mp hq
      have h1 := List.find?_some hq
      have h2 := List.mem_of_find?_eq_some hq
      simp only [Bool.and_eq_true, beq_iff_eq] at h1
      simp only [stfTab, List.mem_cons, List.not_mem_nil, or_false] at h2
      rcases h2 with rfl | rfl
      · exact Or.inl ⟨congrArg on h1.1.symm, h1.2.symm, he.symm⟩
      · exact Or.inr ⟨congrArg on h1.1.symm, h1.2.symm, he.symm⟩
    obtain ⟨-, -, -, -, -, -, -, z1, z2⟩ := hR
    rcases key with ⟨k1, rfl, rfl⟩ | ⟨k1, rfl, rfl⟩
    · obtain ⟨cf, kf, fi, f, a, cell, w1, w2, w3, w4, w5, w6, w7, w8⟩ := z1
      have lk : (Cond.fieldLinkNest (on 0) 37 "NutsUp" "FACTORIALS" "[I" "NutsUp").before args s = true := va_Nw.use rfl (hKF.2 _ (nest_at (wAt_eq okStf_0) rfl))
      exact va_WgetsN hx hb (by rw [← k1]; exact hown) lk w1 w2 w3 w4 w5 (fun e => by rw [e] at w6; cases w6) w7 rfl hd w
    · obtain ⟨cf, kf, fi, f, a, cell, w1, w2, w3, w4, w5, w6, w7, w8⟩ := z2
      have lk : (Cond.fieldLinkNest (on 1) 21 "NutsUp" "LETTERS" "[I" "NutsUp").before args s = true := va_Nw.use rfl (hKF.2 _ (nest_at (wAt_eq okStf_1) rfl))
      exact va_WgetsN hx hb (by rw [← k1]; exact hown) lk w1 w2 w3 w4 w5 (fun e => by rw [e] at w6; cases w6) w7 rfl hd w
  · cases he
theorem new_row {o j ci : Nat} (h : newt o j = some ci) : (.classLink (on o) j (cn ci) : Jvm.Cond) ∈ goodWs ∧ (.instantiable (cn ci) (cSz ci) : Jvm.Cond) ∈ goodWs ∧ (.initialized (cn ci) : Jvm.Cond) ∈ goodWs ∧ ci < 13 := by
  unfold newt at h
  obtain ⟨q, hq, he⟩ := Option.map_eq_some_iff.mp h
  have h1 := List.find?_some hq
  have h2 := List.all_eq_true.mp okNew_all q (List.mem_of_find?_eq_some hq)
  simp only [Bool.and_eq_true, beq_iff_eq] at h1
  simp only [okNew, Bool.and_eq_true, decide_eq_true_eq] at h2
  rw [← he, ← h1.1, ← h1.2]
  exact ⟨good_at (wAt_eq h2.1.1.1) rfl, good_at (wAt_eq h2.1.1.2) rfl, good_at (wAt_eq h2.1.2) rfl, h2.2⟩
theorem anw_row {o j t : Nat} (h : anwt o j = some t) : (.classLink (on o) j (aName t) : Jvm.Cond) ∈ goodWs ∧ (.arrayOver (.object (aName t)) : Jvm.Cond) ∈ nestWs ∧ 21 ≤ t ∧ t ≤ 25 := by
  unfold anwt at h
  obtain ⟨q, hq, he⟩ := Option.map_eq_some_iff.mp h
  have h1 := List.find?_some hq
  have h2 := List.all_eq_true.mp okAnw_all q (List.mem_of_find?_eq_some hq)
  simp only [Bool.and_eq_true, beq_iff_eq] at h1
  simp only [okAnw, Bool.and_eq_true, decide_eq_true_eq] at h2
  rw [← he, ← h1.1, ← h1.2]
  exact ⟨good_at (wAt_eq h2.1.1) rfl, nest_at (wAt_eq h2.1.2) rfl, h2.2.1, h2.2.2⟩
theorem Pres.make {A : Nat → Nat} {h : Hp} {q t n u a : Nat} (h0 : tg h q = 0) : Pres y A (up1 A q a) h (mk h q t n u) := by
  intro w hw _
  have n1 : w ≠ q := fun e => hw (by rw [e]; exact h0)
  refine ⟨by rw [tg_mk, if_neg n1], ?_⟩
  unfold up1
  rw [if_neg n1]
theorem okS.to' {A A1 : Nat → Nat} {h h1 : Hp} {l : List Value} (P : ∀ r, tg h r ≠ 0 → tg h1 r = tg h r ∧ A1 r = A r) (hl : okS h l) : okS h1 l ∧ l.map (cvv A1) = l.map (cvv A) := okS.to (y := 65) (fun r hr _ => P r hr) hl (fun q => by cases q)
theorem lsR.to' {y0 : Nat} {A A1 : Nat → Nat} {h h1 : Hp} {ls : List Value} {arr : Array Slot} (P : ∀ r, tg h r ≠ 0 → tg h1 r = tg h r ∧ A1 r = A r) (hl : okS h ls) (hr : lsR y0 A ls arr) : lsR y0 A1 ls arr := by
  have e := (okS.to' P hl).2
  have key : ∀ k, k < ls.length → cvv A1 (gt ls k) = cvv A (gt ls k) := by
    intro k hk
    have := congrArg (fun l : List Value => l[k]?) e
    simp only [List.getElem?_map] at this
    unfold gt
    rw [List.getElem?_eq_getElem hk] at this ⊢
    simpa using this
  refine ⟨⟨hr.1.1, hr.1.2.1, fun q hq => ?_⟩, hr.2⟩
  obtain ⟨q1, q2, q3⟩ := mem_held.mp hq
  exact hr.1.2.2 q (mem_held.mpr ⟨q1, q2, by rw [q3]; exact key _ q1⟩)
theorem made {A : Nat → Nat} {h : Hp} {q t n u a : Nat} (h0 : tg h q = 0) : ∀ r, tg h r ≠ 0 → tg (mk h q t n u) r = tg h r ∧ up1 A q a r = A r := by
  intro w hw
  have n1 : w ≠ q := fun e => hw (by rw [e]; exact h0)
  refine ⟨by rw [tg_mk, if_neg n1], ?_⟩
  unfold up1
  rw [if_neg n1]
theorem site_ok {q : Nat} (h : decide (q < 500) = true) : q ≠ 500 ∧ q ≠ 501 := by
  have := of_decide_eq_true h
  omega
theorem sim_new {n : Nat} (E : EnvM D cI cA p s m args meth c y) (ih : IH D cI cA base p l e R s m args below meth c Q y vf hf n) {pc len : Nat} {ls st : List Value} {h : Hp} {A : Nat → Nat} {arr : Array Slot} {H : Heap} {locs : List Loc} {cells slots : Nat}  {j : Nat} 
    (hd : decode (mB y) pc = .ok (.new j, len)) (hok : okl (.new j) len = true) (he : stp y pc len ls st h (exec n y) (fun y a h' => exec n y 0 (ent y a) [] h') (.new j) = some (vf, hf)) (S : Stt D cI cA base s R y hf A h ls st arr H locs cells slots) (K : Fin D cI cA base p l e R s m args below meth c Q y vf hf A h cells slots) :
    W p l e R s m args below meth c H locs cells slots Q (F0 m pc arr (st.map (cvv A))) := by
  obtain ⟨hx, hb, hml, hown, hts, hKF, hnm⟩ := E
  obtain ⟨hR, hl, ho, hs, hloc, hce, hsl, hfr, hlo⟩ := S
  obtain rfl : len = 3 := by simpa [okl] using hok
  simp only [stp] at he
  split at he
  · rename_i ci hq
    obtain ⟨h1, he2⟩ := gd_some he
    simp only [Bool.and_eq_true, beq_iff_eq] at h1
    obtain ⟨⟨hm, h0⟩, h5⟩ := h1
    obtain ⟨n1, n2, n3, hci⟩ := new_row hq
    have hmo := exec_mono _ _ _ _ _ _ _ _ he2
    have mo1 : ck h + 1 ≤ ck hf := hmo.1
    have mo2 : cu h + cSz ci ≤ cu hf := hmo.2
    have hfc := (hKF.1.1 ci _ (cl_at hci)).2.1
    refine W.newcK (h := H.size) hx hb hown (hts _ n1) (hts _ n2) (hts _ n3) rfl hd (by omega) (by omega) hfc rfl fun H1 kC g1 g2 z oq => ?_
    have hR1 : Rep D cI cA base (up1 A (site y pc ls h) H.size) (mk h (site y pc ls h) (ci + 1) 0 (cSz ci)) s H1 := by
      refine hR.make h0 (site_ok (by simpa using h5)) (Or.inl ⟨by omega, by omega⟩) z oq ⟨fun c2 e1 e2 => ?_, fun e1 => by omega, fun e1 _ => by omega⟩
      obtain rfl : c2 = ci := by omega
      refine (u_born (cTy c2) hts (lay_in hci) (hKF.1.1 c2 _ (cl_at hci)) g1 g2 (fun k hk => (ty_at hci hk).1)).to (fun k hk => ?_)
      obtain ⟨-, a1, a2⟩ := ty_at hci hk
      by_cases hr : rfs c2 k = true
      · rw [if_pos hr, (a1 hr).1]
      · rw [if_neg hr]
        rcases a2 (by simpa using hr) with e | e <;> rw [e] <;> rfl
    have P : ∀ r, tg h r ≠ 0 → tg (mk h (site y pc ls h) (ci + 1) 0 (cSz ci)) r = tg h r ∧ up1 A (site y pc ls h) H.size r = A r := made h0
    have o3 := okS.to' P hs
    have w := ih _ _ (.ref (site y pc ls h) :: st) _ (up1 A (site y pc ls h) H.size) _ _ locs (cells + 1) (slots + cSz ci) he2 ⟨hR1, hl.to' P ho, (okS.to' P ho).1, okS_cons.mpr ⟨by show tg (mk _ _ _ _ _) _ ≠ 0; rw [tg_mk, if_pos rfl]; omega, o3.1⟩, hloc, (by show cells + 1 + ck hf ≤ R.cells + (ck h + 1); omega), (by show slots + cSz ci + cu hf ≤ R.slots + (cu h + cSz ci); omega), hfr, hlo⟩ (K.step (Pres.make h0) (by show cells + 1 + ck h = cells + (ck h + 1); omega) (by show slots + cSz ci + cu h = slots + (cu h + cSz ci); omega))
    rw [List.map_cons, o3.2] at w
    have e : cvv (up1 A (site y pc ls h) H.size) (.ref (site y pc ls h)) = .ref H.size := by
      show Value.ref (up1 A _ _ _) = _
      unfold up1
      rw [if_pos rfl]
    rw [e] at w
    exact w
  · cases he
theorem sim_newarray {n : Nat} (E : EnvM D cI cA p s m args meth c y) (ih : IH D cI cA base p l e R s m args below meth c Q y vf hf n) {pc len : Nat} {ls st : List Value} {h : Hp} {A : Nat → Nat} {arr : Array Slot} {H : Heap} {locs : List Loc} {cells slots : Nat}  {ty : ArrayType} 
    (hd : decode (mB y) pc = .ok (.newarray ty, len)) (hok : okl (.newarray ty) len = true) (he : stp y pc len ls st h (exec n y) (fun y a h' => exec n y 0 (ent y a) [] h') (.newarray ty) = some (vf, hf)) (S : Stt D cI cA base s R y hf A h ls st arr H locs cells slots) (K : Fin D cI cA base p l e R s m args below meth c Q y vf hf A h cells slots) :
    W p l e R s m args below meth c H locs cells slots Q (F0 m pc arr (st.map (cvv A))) := by
  obtain ⟨hx, hb, hml, hown, hts, hKF, hnm⟩ := E
  obtain ⟨hR, hl, ho, hs, hloc, hce, hsl, hfr, hlo⟩ := S
  obtain rfl : len = 2 := by simpa [okl] using hok
  simp only [stp] at he
  obtain ⟨x, t, rfl, he1⟩ := i1_some he
  obtain ⟨h1, he2⟩ := gd_some he1
  simp only [Bool.and_eq_true, beq_iff_eq, decide_eq_true_eq] at h1
  obtain ⟨⟨⟨⟨⟨hm, hty⟩, x0⟩, x1⟩, h0⟩, h5⟩ := h1
  obtain rfl : ty = .int := by cases ty <;> first | rfl | exact absurd hty (by decide)
  have hmo := exec_mono _ _ _ _ _ _ _ _ he2
  have mo1 : ck h + 1 ≤ ck hf := hmo.1
  have mo2 : cu h + x.toInt.toNat ≤ cu hf := hmo.2
  have hw : (Cond.arrayClass (newarray.typeOf .int)).before args s = true := hts _ (good_at (wAt_eq okArr) rfl)
  refine va_newaK (h := H.size) (N := x.toInt.toNat) hx hb hw rfl hd rfl (nlt0 x0) rfl (by show x.toInt.toNat * 4 ≤ _; omega) (by omega) (by omega) rfl fun H1 cA2 e1 z oq _ hnm2 => ?_
  obtain rfl : cA2 = cI := Option.some.inj (hnm2.symm.trans (tyI hKF).2)
  have hR1 : Rep D cA2 cA base (up1 A (site y pc ls h) H.size) (mk h (site y pc ls h) 20 x.toInt.toNat x.toInt.toNat) s H1 :=
    hR.make h0 (site_ok (by simpa using h5)) (Or.inr ⟨by omega, by omega⟩) z oq ⟨fun c2 e1 e2 => by omega, fun _ => e1, fun e1 _ => by omega⟩
  have P : ∀ r, tg h r ≠ 0 → tg (mk h (site y pc ls h) 20 x.toInt.toNat x.toInt.toNat) r = tg h r ∧ up1 A (site y pc ls h) H.size r = A r := made h0
  have o3 := okS.to' P (okS_cons.mp hs).2
  have w := ih _ _ (.ref (site y pc ls h) :: t) _ (up1 A (site y pc ls h) H.size) _ _ locs (cells + 1) (slots + x.toInt.toNat) he2 ⟨hR1, hl.to' P ho, (okS.to' P ho).1, okS_cons.mpr ⟨by show tg (mk _ _ _ _ _) _ ≠ 0; rw [tg_mk, if_pos rfl]; omega, o3.1⟩, hloc, (by show cells + 1 + ck hf ≤ R.cells + (ck h + 1); omega), (by show slots + x.toInt.toNat + cu hf ≤ R.slots + (cu h + x.toInt.toNat); omega), hfr, hlo⟩ (K.step (Pres.make h0) (by show cells + 1 + ck h = cells + (ck h + 1); omega) (by show slots + x.toInt.toNat + cu h = slots + (cu h + x.toInt.toNat); omega))
  rw [List.map_cons, o3.2] at w
  have e : cvv (up1 A (site y pc ls h) H.size) (.ref (site y pc ls h)) = .ref H.size := by
    show Value.ref (up1 A _ _ _) = _
    unfold up1
    rw [if_pos rfl]
  rw [e] at w
  exact w
theorem sim_anewarray {n : Nat} (E : EnvM D cI cA p s m args meth c y) (ih : IH D cI cA base p l e R s m args below meth c Q y vf hf n) {pc len : Nat} {ls st : List Value} {h : Hp} {A : Nat → Nat} {arr : Array Slot} {H : Heap} {locs : List Loc} {cells slots : Nat}  {j : Nat} 
    (hd : decode (mB y) pc = .ok (.anewarray j, len)) (hok : okl (.anewarray j) len = true) (he : stp y pc len ls st h (exec n y) (fun y a h' => exec n y 0 (ent y a) [] h') (.anewarray j) = some (vf, hf)) (S : Stt D cI cA base s R y hf A h ls st arr H locs cells slots) (K : Fin D cI cA base p l e R s m args below meth c Q y vf hf A h cells slots) :
    W p l e R s m args below meth c H locs cells slots Q (F0 m pc arr (st.map (cvv A))) := by
  obtain ⟨hx, hb, hml, hown, hts, hKF, hnm⟩ := E
  obtain ⟨hR, hl, ho, hs, hloc, hce, hsl, hfr, hlo⟩ := S
  obtain rfl : len = 3 := by simpa [okl] using hok
  simp only [stp] at he
  split at he
  · rename_i ty hq
    obtain ⟨x, t, rfl, he1⟩ := i1_some he
    obtain ⟨h1, he2⟩ := gd_some he1
    simp only [Bool.and_eq_true, beq_iff_eq, decide_eq_true_eq] at h1
    obtain ⟨⟨⟨⟨hm, x0⟩, x1⟩, h0⟩, h5⟩ := h1
    obtain ⟨n1, n2, t1, t2⟩ := anw_row hq
    have hmo := exec_mono _ _ _ _ _ _ _ _ he2
    have mo1 : ck h + 1 ≤ ck hf := hmo.1
    have mo2 : cu h + x.toInt.toNat ≤ cu hf := hmo.2
    have hov : (Cond.arrayOver (.object (aName ty))).before args s = true := va_AO.use (hKF.2 _ n2)
    refine W.anew hx hb hown (hts _ n1) hov rfl hd rfl (nlt0 x0) (by rw [toNatN]; omega) (by omega) (by rw [toNatN]; omega) fun cA2 kA comp f1 f2 f3 f4 => ?_
    rw [toNatN]
    generalize hH1 : H.push ({ cls := cA2, slots := Array.replicate x.toInt.toNat .null, vm := .none } : Cell) = H1
    have z1 : H1.size = H.size + 1 := by rw [← hH1, Array.size_push]
    have e1 : H1[H.size]? = some (arrV cA2 x.toInt.toNat (fun _ => .null)) := by rw [← hH1, Array.getElem?_push_size, ← arrV_new]
    have o1 : ∀ q : Nat, q < H.size → H1[q]? = H[q]? := fun q hq => by rw [← hH1, Array.getElem?_push, if_neg (Nat.ne_of_lt hq)]
    obtain ⟨_, _, _, _, _, k4⟩ := (tyA hKF t1 t2).2
    obtain rfl : cA2 = cA ty := Option.some.inj (f1.symm.trans k4)
    have hR1 : Rep D cI cA base (up1 A (site y pc ls h) H.size) (mk h (site y pc ls h) ty x.toInt.toNat x.toInt.toNat) s H1 :=
      hR.make h0 (site_ok (by simpa using h5)) (Or.inr ⟨by omega, by omega⟩) z1 o1 ⟨fun c2 e1 e2 => by omega, fun e => by omega, fun _ _ => e1⟩
    have P : ∀ r, tg h r ≠ 0 → tg (mk h (site y pc ls h) ty x.toInt.toNat x.toInt.toNat) r = tg h r ∧ up1 A (site y pc ls h) H.size r = A r := made h0
    have o3 := okS.to' P (okS_cons.mp hs).2
    have w := ih _ _ (.ref (site y pc ls h) :: t) _ (up1 A (site y pc ls h) H.size) _ _ locs (cells + 1) (slots + x.toInt.toNat) he2 ⟨hR1, hl.to' P ho, (okS.to' P ho).1, okS_cons.mpr ⟨by show tg (mk _ _ _ _ _) _ ≠ 0; rw [tg_mk, if_pos rfl]; omega, o3.1⟩, hloc, (by show cells + 1 + ck hf ≤ R.cells + (ck h + 1); omega), (by show slots + x.toInt.toNat + cu hf ≤ R.slots + (cu h + x.toInt.toNat); omega), hfr, hlo⟩ (K.step (Pres.make h0) (by show cells + 1 + ck h = cells + (ck h + 1); omega) (by show slots + x.toInt.toNat + cu h = slots + (cu h + x.toInt.toNat); omega))
    rw [List.map_cons, o3.2] at w
    have e : cvv (up1 A (site y pc ls h) H.size) (.ref (site y pc ls h)) = .ref H.size := by
      show Value.ref (up1 A _ _ _) = _
      unfold up1
      rw [if_pos rfl]
    rw [e] at w
    exact w
  · cases he
end SIMB
end
section
/-! Calls. -/
theorem good_in {ws : List Jvm.Cond} (h : ∀ w ∈ ws, w ∈ goodWs) : GoodIn goodWs ws := fun w hw => ⟨h w hw, good_of_word (List.mem_filter.mp (h w hw)).2⟩
theorem cod_in {y : Nat} (hy : y < 208) : (.code (mY y) (mB y) (mL y) (mR y) : Jvm.Cond) ∈ goodWs := good_at (cod_all y hy) rfl
theorem wsM_in {y : Nat} (hy : y < 208) : ∀ w ∈ wsM y, w ∈ goodWs := by
  intro w hw
  rcases List.mem_cons.mp hw with h | h
  · rw [h]; exact cod_in hy
  · exact h
theorem on_cn {o : Nat} (h : o < 13) : on o = cn o := by
  have k : (List.range 13).all (fun o => decide (on o = cn o)) = true := by decide +kernel
  exact of_decide_eq_true (range_all k h)
theorem cod_ok {y : Nat} (hy : y < 208) (h1 : y ≠ 1) : (.initialized (mY y).cls : Jvm.Cond) ∈ goodWs ∧ ((mY y).cls ≠ "java/lang/invoke/MethodHandle" ∧ (mY y).cls ≠ "java/lang/invoke/VarHandle") ∧ (parseMethodDescriptor (mY y).desc).map (fun d => d.parameters.length) = some (mA y) ∧ plainFor (mY y) = true := by
  have h := range_all okCode_all hy
  rw [Bool.or_eq_true, beq_iff_eq] at h
  rcases h with h | h
  · exact absurd h h1
  · simp only [okCode, Bool.and_eq_true, decide_eq_true_eq] at h
    exact ⟨good_at (wAt_eq h.1.1.1) rfl, h.1.1.2, h.1.2, h.2⟩
theorem cat_le (v : Value) : v.category ≤ 2 := by cases v <;> first | exact Nat.le_refl _ | exact Nat.le_succ _
theorem cat_sum : ∀ l : List Value, (l.map (fun v => v.category)).sum ≤ 2 * l.length
  | [] => Nat.le_refl _
  | v :: l => by
    have h1 := cat_sum l
    have h2 := cat_le v
    simp only [List.map_cons, List.sum_cons, List.length_cons]
    omega
theorem cal_row {o j k z : Nat} (h : cal o j = some (k, z)) : ∃ x, okCal (o, j, k, z, x) = true ∧ (o, j, k, z, x) ∈ calTab := by
  unfold cal at h
  obtain ⟨q, hq, he⟩ := Option.map_eq_some_iff.mp h
  have h1 := List.find?_some hq
  have h2 := List.mem_of_find?_eq_some hq
  have h3 := List.all_eq_true.mp okCal_all q h2
  simp only [Bool.and_eq_true, beq_iff_eq] at h1
  obtain ⟨a, b, c, d, x⟩ := q
  cases he
  obtain ⟨rfl, rfl⟩ := h1
  exact ⟨x, h3, h2⟩
theorem cal5_all : calTab.all (fun q => q.2.2.1 != 5 || mA q.2.2.2.1 == 1) = true := by decide +kernel
theorem cal5 {o j z : Nat} (h : cal o j = some (5, z)) : mA z = 1 := by
  obtain ⟨x, -, hx⟩ := cal_row h
  have := List.all_eq_true.mp cal5_all _ hx
  simpa using this
theorem rvo_list (z : Nat) (A : Nat → Nat) (v : Value) (l : List Value) : (rvo z A v).toList ++ l.map (cvv A) = (back z v l).map (cvv A) := by
  unfold rvo back
  by_cases h : mR z = none
  · rw [if_pos h, if_pos h]; rfl
  · rw [if_neg h, if_neg h]; rfl
theorem take_drop {k : Nat} {st rest : List Value} (h : st.drop k = rest) : st = (takeA k st).reverse ++ rest := by
  unfold takeA
  rw [List.reverse_reverse, ← h, List.take_append_drop]
theorem takeA_len {k : Nat} {st : List Value} (h : k ≤ st.length) : (takeA k st).length = k := by
  unfold takeA
  rw [List.length_reverse, List.length_take]
  omega
theorem okS_take {k : Nat} {st : List Value} {h : Hp} (hs : okS h st) : okS h (takeA k st) := by
  intro v hv
  exact hs v (List.mem_of_mem_take (List.mem_reverse.mp hv))
theorem okS_drop {k : Nat} {st : List Value} {h : Hp} (hs : okS h st) : okS h (st.drop k) := fun v hv => hs v (List.mem_of_mem_drop hv)
theorem lsR.toZ {z y0 : Nat} {A A1 : Nat → Nat} {h h1 : Hp} {ls : List Value} {arr : Array Slot} (P : Pres z A A1 h h1) (hl : okS h ls) (hg : mv z = true → ng ls = true) (hr : lsR y0 A ls arr) : lsR y0 A1 ls arr := by
  have e := (okS.to P hl hg).2
  have key : ∀ k, k < ls.length → cvv A1 (gt ls k) = cvv A (gt ls k) := by
    intro k hk
    have := congrArg (fun l : List Value => l[k]?) e
    simp only [List.getElem?_map] at this
    unfold gt
    rw [List.getElem?_eq_getElem hk] at this ⊢
    simpa using this
  refine ⟨⟨hr.1.1, hr.1.2.1, fun q hq => ?_⟩, hr.2⟩
  obtain ⟨q1, q2, q3⟩ := mem_held.mp hq
  exact hr.1.2.2 q (mem_held.mpr ⟨q1, q2, by rw [q3]; exact key _ q1⟩)
section SIMC
variable {D : va_G} {cI : ClassId} {cA : Nat → ClassId} {base : Nat} {p : Program} {l : Launch} {e : Env} {R : Room} {s : State} {m : MethodId} {args : Array Value} {below : List Frame} {meth : Method} {c : Code} {Q : State → Prop} {y : Nat} {vf : Value} {hf : Hp}
/-- what a call of the method z is to give -/
def RunP (D : va_G) (cI : ClassId) (cA : Nat → ClassId) (base : Nat) (p : Program) (l : Launch) (e : Env) (R : Room) (s : State) (m : MethodId) (args : Array Value) (below : List Frame) (meth : Method) (c : Code) (y z pc : Nat) (A : Nat → Nat) (h : Hp) (arr : Array Slot) (H : Heap) (locs : List Loc) (cells slots : Nat) (st rest a : List Value) : Prop :=
  ∀ (h2 : Hp) (v : Value), z < 208 → z ≠ 1 → Met l (mY z) (wsM z) (rmM z (ck h2 - ck h) (cu h2 - cu h)) (Pm D cI cA base A h a) (Qm D cI cA base z A h h2 v) (ck h2 - ck h) (cu h2 - cu h) (fun q => base ≤ q) → mF z + 1 ≤ R.frames ∧ 8 + (mL z + 11) + mLc z ≤ R.locals →
    (∀ l2 : List Value, 2 * (F0 m pc arr l2).monitorRoom + ((rest.map (cvv A)).map fun v => v.category).sum ≤ 8) → cells + (ck h2 - ck h) ≤ R.cells ∧ slots + (cu h2 - cu h) ≤ R.slots →
    va_Run p l e R s m args below meth c H locs cells slots (ck h2 - ck h) (cu h2 - cu h) (F0 m pc arr (st.map (cvv A))) (rest.map (cvv A)) (Qm D cI cA base z A h h2 v (a.map (cvv A)).toArray) (fun q => base ≤ q)
theorem cll_on {n z pc : Nat} {ls st rest a : List Value} {h : Hp} {A : Nat → Nat} {arr : Array Slot} {H : Heap} {locs : List Loc} {cells slots : Nat} (M : MetP D cI cA base l n) (ih : IH D cI cA base p l e R s m args below meth c Q y vf hf n)
    (he : cll y pc z ls rest h (exec n y) (fun y a h' => exec n y 0 (ent y a) [] h') a = some (vf, hf)) (S : Stt D cI cA base s R y hf A h ls st arr H locs cells slots) (K : Fin D cI cA base p l e R s m args below meth c Q y vf hf A h cells slots)
    (hoa : okS h a) (hor : okS h rest) (hr : RunP D cI cA base p l e R s m args below meth c y z pc A h arr H locs cells slots st rest a) : W p l e R s m args below meth c H locs cells slots Q (F0 m pc arr (st.map (cvv A))) := by
  obtain ⟨hR, hl, ho, hs, hloc, hce, hsl, hfr, hlo⟩ := S
  unfold cll at he
  obtain ⟨hg, he⟩ := gd_some he
  simp only [okc, Bool.and_eq_true, decide_eq_true_eq, Bool.or_eq_true, bne_iff_ne, Bool.not_eq_true'] at hg
  obtain ⟨⟨⟨⟨⟨⟨⟨hm1, hm2⟩, hz⟩, hz1⟩, hlen⟩, hnl⟩, hlay⟩, hmv⟩ := hg
  split at he
  · rename_i v h2 heq
    have mo1 := exec_mono _ _ _ _ _ _ _ _ heq
    have mo2 := exec_mono _ _ _ _ _ _ _ _ he
    have M1 := M z a h h2 v A hz hz1 heq hoa (fun hn w hw => by
      rcases hnl with hnl | hnl
      · rw [hn] at hnl; cases hnl
      · have := List.all_eq_true.mp hnl w hw
        simpa using this) hlay
    have hmz : mv z = true → (mv y = true ∧ ng ls = true) ∧ ng rest = true := fun q => by
      rcases hmv with h1 | h1
      · rw [q] at h1; cases h1
      · exact h1
    have hr := hr h2 v hz hz1 M1 ⟨by omega, by omega⟩ (fun l2 => lv_room (by
      have h1 := cat_sum (rest.map (cvv A))
      rw [List.length_map] at h1
      omega)) ⟨by omega, by omega⟩
    intro T hT X
    obtain ⟨v0, st0, t, T', L, h0, X', hL, e1, e2, ⟨A', q1, q2, q3, q4⟩, st⟩ := hr T hT X
    have q5 : v0 = rvo z A' v := by cases q4; rfl
    have hR2 : Rep D cI cA base A' h2 s T'.heap := by
      rw [e1]
      refine Rep.moved ?_ q2
      rw [← e2]
      exact Vm.Alike.symm X'.warmed.alike
    have P2 : Pres y A A' h h2 := fun r hr hgy => q1 r hr (fun q => hgy (hmz q).1.1)
    have o3 := okS.to q1 hor (fun q => (hmz q).2)
    have o4 := okS.to q1 ho (fun q => (hmz q).1.2)
    have hob : okS h2 (back z v rest) := by
      unfold back
      split
      · exact o3.1
      · exact okS_cons.mpr ⟨q3, o3.1⟩
    have hlocs : ∀ q ∈ locs ++ L, base ≤ q.base := by
      intro q hq
      rcases List.mem_append.mp hq with h1 | h1
      · exact hloc q h1
      · exact hL q h1
    have w := ih (pc + 3) ls (back z v rest) h2 A' arr T'.heap (locs ++ L) (cells + (ck h2 - ck h)) (slots + (cu h2 - cu h)) he
      ⟨hR2, hl.toZ q1 ho (fun q => (hmz q).1.2), o4.1, hob, hlocs, by omega, by omega, hfr, hlo⟩ (K.step P2 (by omega) (by omega))
    rw [← rvo_list, o3.2, ← q5] at w
    obtain ⟨t2, a1, b1⟩ := w T' rfl X'
    exact ⟨t2, st t2 a1, b1⟩
  · cases he
theorem Pm_blind {A : Nat → Nat} {h : Hp} {a : List Value} : FrameBlind (Pm D cI cA base A h a) := fun a U g mk q => ⟨q.1, Rep.moved (u := U) (U := U.calling g mk a) (Vm.Alike.refl U.vm) q.2.1, KF.moved (U := U.calling g mk a) (State.WarmedH.refl U) q.2.2⟩
theorem Pm_at {A : Nat → Nat} {h : Hp} {H : Heap} {a : List Value} (hR : Rep D cI cA base A h s H) (hKF : KF D cI cA s) : ∀ U : State, U.heap = H → s.WarmedH U.vm → Pm D cI cA base A h a (a.map (cvv A)).toArray U := fun U hU hW => ⟨rfl, by rw [hU]; exact Rep.moved hW.alike hR, KF.moved hW hKF⟩
theorem Pm_S {A : Nat → Nat} {h : Hp} {H : Heap} {a : List Value} (hR : Rep D cI cA base A h s H) (hKF : KF D cI cA s) : PreS s H (Pm D cI cA base A h a) (a.map (cvv A)) := ⟨Pm_blind, Pm_at hR hKF⟩
theorem Pm_V {A : Nat → Nat} {h : Hp} {H : Heap} {a : List Value} {r ci : Nat} (hR : Rep D cI cA base A h s H) (hKF : KF D cI cA s) (ht : tg h r = ci + 1) (hci : ci < 13) : PreV s H (cn ci) (A r) (Pm D cI cA base A h (.ref r :: a)) (a.map (cvv A)) := by
  refine ⟨Pm_blind, ?_, Pm_at hR hKF⟩
  obtain ⟨cell, q1, q2, q3, q4⟩ := (hR.2.1 r (by omega)).1 ci ht hci
  obtain ⟨hS, hfc, kC, hkC, hkind⟩ := hKF.1.1 ci _ (cl_at hci)
  exact ⟨cell, q1, by rw [q3]; rfl, by rw [q2]; exact hfc⟩
/-- the receiver on the stack -/
theorem onobj_some {z : Nat} {st : List Value} {f : Nat → List Value → List Value → Rs} {q : Value × Hp} (h : onobj z st f = some q) : ∃ r rest, st = (takeA (mA z) st).reverse ++ .ref r :: rest ∧ mA z ≤ st.length ∧ st.drop (mA z) = .ref r :: rest ∧ f r (takeA (mA z) st) rest = some q := by
  obtain ⟨r, t, h1, h2⟩ := r1_some h
  obtain ⟨h3, h4⟩ := gd_some h2
  exact ⟨r, t, take_drop h1, of_decide_eq_true h3, h1, h4⟩
theorem stk_map {A : Nat → Nat} {as rest : List Value} {r : Nat} {st : List Value} (h : st = as.reverse ++ .ref r :: rest) : st.map (cvv A) = (as.map (cvv A)).reverse ++ .ref (A r) :: rest.map (cvv A) := by
  rw [h, List.map_append, List.map_reverse]
  rfl
theorem stk_mapS {A : Nat → Nat} {as rest : List Value} {st : List Value} (h : st = as.reverse ++ rest) : st.map (cvv A) = (as.map (cvv A)).reverse ++ rest.map (cvv A) := by
  rw [h, List.map_append, List.map_reverse]
theorem sim_static {n : Nat} (E : EnvM D cI cA p s m args meth c y) (M : MetP D cI cA base l n) (ih : IH D cI cA base p l e R s m args below meth c Q y vf hf n) {pc len : Nat} {ls st : List Value} {h : Hp} {A : Nat → Nat} {arr : Array Slot} {H : Heap} {locs : List Loc} {cells slots : Nat}  {j : Nat} 
    (hd : decode (mB y) pc = .ok (.invokestatic j, len)) (hok : okl (.invokestatic j) len = true) (he : stp y pc len ls st h (exec n y) (fun y a h' => exec n y 0 (ent y a) [] h') (.invokestatic j) = some (vf, hf)) (S : Stt D cI cA base s R y hf A h ls st arr H locs cells slots) (K : Fin D cI cA base p l e R s m args below meth c Q y vf hf A h cells slots) :
    W p l e R s m args below meth c H locs cells slots Q (F0 m pc arr (st.map (cvv A))) := by
  obtain ⟨hx, hb, hml, hown, hts, hKF, hnm⟩ := E
  obtain ⟨hR, hl, ho, hs, hloc, hce, hsl, hfr, hlo⟩ := S
  obtain rfl : len = 3 := by simpa [okl] using hok
  simp only [stp] at he
  split at he
  · rename_i z hq
    obtain ⟨h1, he⟩ := gd_some he
    have h1 := of_decide_eq_true h1
    refine cll_on M ih he ⟨hR, hl, ho, hs, hloc, hce, hsl, hfr, hlo⟩ K (okS_take hs) (okS_drop hs) fun h2 v hz hz1 M1 hr1 hr2 hr3 => ?_
    obtain ⟨x, ok, -⟩ := cal_row hq
    obtain ⟨n1, n2, n3, -⟩ := cod_ok hz hz1
    simp only [okCal, Bool.and_eq_true] at ok
    have hG : GoodIn goodWs (va_wsS (on (mO y)) j (mY z) (wsM z)) := good_in (by
      intro w hw
      simp only [va_wsS, List.cons_append, List.nil_append, List.mem_cons] at hw
      rcases hw with rfl | rfl | rfl | hw
      · exact good_at (wAt_eq ok.1) rfl
      · exact good_at (wAt_eq ok.2) rfl
      · exact n1
      · exact wsM_in hz w hw)
    exact va_runS (Ts := goodWs) (nL := mL y) ⟨hx, hb, hml, hown, hts⟩ M1 (va_cwS (mA z) hts hG rfl rfl rfl ⟨n2.1, n2.2, n3⟩ hr1) (Pm_S hR hKF) rfl (by rw [List.length_map]; exact takeA_len h1) hl.1.1 (stk_mapS (take_drop rfl)) (hr2 _) hd hr3
  · rename_i z hq
    obtain ⟨h1, he⟩ := gd_some he
    have h1 := of_decide_eq_true h1
    refine cll_on M ih he ⟨hR, hl, ho, hs, hloc, hce, hsl, hfr, hlo⟩ K (okS_take hs) (okS_drop hs) fun h2 v hz hz1 M1 hr1 hr2 hr3 => ?_
    obtain ⟨x, ok, -⟩ := cal_row hq
    obtain ⟨n1, n2, n3, -⟩ := cod_ok hz hz1
    simp only [okCal, Bool.and_eq_true] at ok
    exact va_runSN (Ts := goodWs) (nL := mL y) ⟨hx, hb, hml, hown, hts⟩ M1 ⟨va_cnB (mA z) hts (good_in (wsM_in hz)) rfl rfl rfl (hKF.2 _ (nest_at (wAt_eq ok.1) rfl)) (hts _ n1) ⟨n2.1, n2.2, n3⟩ hr1, hts _ (good_at (wAt_eq ok.2) rfl), trivial⟩ (Pm_S hR hKF) rfl (by rw [List.length_map]; exact takeA_len h1) hl.1.1 (stk_mapS (take_drop rfl)) (hr2 _) hd hr3
  · rename_i hq
    split at he
    · rename_i nn dp d sp r t
      obtain ⟨h1, he⟩ := gd_some he
      simp only [Bool.and_eq_true, beq_iff_eq, decide_eq_true_eq] at h1
      obtain ⟨⟨⟨⟨⟨⟨⟨⟨⟨tr, td⟩, x1⟩, x2⟩, x3⟩, x4⟩, x5⟩, x6⟩, x7⟩, x8⟩ := h1
      obtain ⟨x, ok, -⟩ := cal_row hq
      simp only [okCal] at ok
      have o5 := (okS_cons.mp (okS_cons.mp (okS_cons.mp (okS_cons.mp (okS_cons.mp hs).2).2).2).2).2
      have hcr := (hR.2.1 r (by omega)).2.1 tr
      have hcd := (hR.2.1 d (by omega)).2.1 td
      obtain ⟨_, k1, hk1, cm1, hkk1⟩ := (tyI hKF).1 (ln h r) (fun j => .int (I (iv h r (j : Nat))))
      obtain ⟨_, k2, hk2, cm2, hkk2⟩ := (tyI hKF).1 (ln h d) (fun j => .int (I (iv h d (j : Nat))))
      intro T hT X
      obtain ⟨vm', X', step⟩ := X.arraycopy hx hown (hts _ (good_at (wAt_eq ok) rfl)) (hts _ (good_at (wAt_eq okCopyN) rfl)) (hts _ (good_at (wAt_eq okCopyS) rfl)) (hts _ (good_at (wAt_eq okCopyI) rfl)) (src := A r) (dst := A d) (srcPos := sp) (destPos := dp) (n := nn) (by rw [hT]; exact hcr) (by rw [hT]; exact hcd)
        (fun _ h => by cases h) (fun _ h => by cases h) (fun h => by cases h) (fun h => by cases h) hk1 hk2 hkk1 hkk2 (by rfl) (nlt0 x2) (nlt0 x3) (nlt0 x1)
        (by show ¬ _ > ((arrV cI (ln h r) _).slots.size : Int); rw [arrV_size]; omega)
        (by show ¬ _ > ((arrV cI (ln h d) _).slots.size : Int); rw [arrV_size]; omega)
        (fun vm₁ _ i hi => by
          have ht : i < nn.toInt.toNat := hi
          have e : (arrV cI (ln h r) (fun j => .int (I (iv h r (j : Nat))))).slots.getD (sp.toNatClampNeg + i) .null = .int (I (iv h r ((sp.toNatClampNeg + i : Nat) : Int))) := by
            rw [Array.getD_eq_getD_getElem?, arrV_read _ _ (by rw [toNatN]; omega)]
            rfl
          rw [e]
          exact ⟨rfl, trivial⟩)
        (g := F0 m pc arr (.int nn :: .int dp :: .ref (A d) :: .int sp :: .ref (A r) :: t.map (cvv A))) rfl (by rw [hml]; exact hl.1.1) (rest := t.map (cvv A)) rfl (by rw [hb]; exact hd) (by omega) (by
          have h1 := cat_sum (t.map (cvv A))
          rw [List.length_map] at h1
          have e : nativeFrameWords "java/lang/System" "arraycopy" 5 + 11 ≤ 72 := by decide +kernel
          show 2 * 0 + _ + (_ + 11) ≤ _
          omega)
      have e1 : copied (arrV cI (ln h r) (fun j => .int (I (iv h r (j : Nat))))) (arrV cI (ln h d) (fun j => .int (I (iv h d (j : Nat))))) sp dp nn = arrV cI (ln h d) (fun j => .int (va_cpy (fun j : Nat => I (iv h r (j : Nat))) (fun j : Nat => I (iv h d (j : Nat))) sp.toNatClampNeg dp.toNatClampNeg nn.toNatClampNeg j)) := va_copied (fun z => .int z) cI cI _ _ (by simp only [toNatN]; omega)
      rw [e1] at X' step
      generalize hcc : arrV cI (ln h d) (fun j => .int (va_cpy (fun j : Nat => I (iv h r (j : Nat))) (fun j : Nat => I (iv h d (j : Nat))) sp.toNatClampNeg dp.toNatClampNeg nn.toNatClampNeg j)) = cc at X' step
      have hl0 : A d < H.size := (Array.getElem?_eq_some_iff.mp hcd).1
      have hheap : ((T.setVm vm').setCell (A d) cc).heap = H.setIfInBounds (A d) cc := by rw [← hT]; rfl
      have oq : ∀ q : Nat, q ≠ A d → (H.setIfInBounds (A d) cc)[q]? = H[q]? := fun q hq => by simp [Array.getElem?_setIfInBounds, Ne.symm hq]
      have hR1 : Rep D cI cA base A (setR h d (cpy (iv h r) (iv h d) sp.toInt dp.toInt nn.toInt)) s (H.setIfInBounds (A d) cc) := by
        refine hR.setArr td rfl (fun _ => rfl) (fun _ => rfl) (fun q hq z => by rw [iv_setR, if_neg hq]) (fun _ _ => rfl) (by simp) oq ?_
        have e2 : (H.setIfInBounds (A d) cc)[A d]? = some cc := by simp [Array.getElem?_setIfInBounds, hl0]
        rw [e2, ← hcc]
        congr 2
        funext j
        rw [iv_setR, if_pos rfl]
        unfold va_cpy cpy
        simp only [toNatN]
        by_cases hj : dp.toInt ≤ (j : Int) ∧ (j : Int) < dp.toInt + nn.toInt
        · rw [if_pos hj, if_pos (by omega)]
          congr 3
          omega
        · rw [if_neg hj, if_neg (by omega)]
      obtain ⟨t2, a1, b1⟩ := ih _ _ t _ A arr (H.setIfInBounds (A d) cc) (locs ++ ((arrV cI (ln h r) (fun j => .int (I (iv h r (j : Nat))))).stretch sp.toNatClampNeg nn.toNatClampNeg).zipIdx.map fun q => ⟨A d, dp.toNatClampNeg + q.2⟩) cells slots he ⟨hR1, hl, okS_tags (fun _ => rfl) ho, okS_tags (fun _ => rfl) o5, fun q hq => (by
          rcases List.mem_append.mp hq with h1 | h1
          · exact hloc q h1
          · obtain ⟨z, -, hz⟩ := List.mem_map.mp h1
            rw [← hz]
            exact hR.2.2.1 d (by omega) (by omega)), hce, hsl, hfr, hlo⟩ (K.step (Pres.tags (fun _ => rfl)) rfl rfl) _ hheap X'
      exact ⟨t2, step t2 a1, b1⟩
    · cases he
  · cases he
theorem sim_special {n : Nat} (E : EnvM D cI cA p s m args meth c y) (M : MetP D cI cA base l n) (ih : IH D cI cA base p l e R s m args below meth c Q y vf hf n) {pc len : Nat} {ls st : List Value} {h : Hp} {A : Nat → Nat} {arr : Array Slot} {H : Heap} {locs : List Loc} {cells slots : Nat}  {j : Nat} 
    (hd : decode (mB y) pc = .ok (.invokespecial j, len)) (hok : okl (.invokespecial j) len = true) (he : stp y pc len ls st h (exec n y) (fun y a h' => exec n y 0 (ent y a) [] h') (.invokespecial j) = some (vf, hf)) (S : Stt D cI cA base s R y hf A h ls st arr H locs cells slots) (K : Fin D cI cA base p l e R s m args below meth c Q y vf hf A h cells slots) :
    W p l e R s m args below meth c H locs cells slots Q (F0 m pc arr (st.map (cvv A))) := by
  obtain ⟨hx, hb, hml, hown, hts, hKF, hnm⟩ := E
  obtain ⟨hR, hl, ho, hs, hloc, hce, hsl, hfr, hlo⟩ := S
  obtain rfl : len = 3 := by simpa [okl] using hok
  simp only [stp] at he
  split at he
  · rename_i z hq
    obtain ⟨r, t, rfl, he⟩ := r1_some he
    obtain ⟨h1, he⟩ := gd_some he
    simp only [Bool.and_eq_true, decide_eq_true_eq] at h1
    obtain ⟨x, ok, -⟩ := cal_row hq
    simp only [okCal] at ok
    refine W.objInit hx hb hown (hts _ (good_at (wAt_eq ok) rfl)) (hts _ (good_at (wAt_eq okObj_0) rfl)) (hts _ (good_at (wAt_eq okObj_1) rfl)) rfl (by rw [hml]; exact hl.1.1) (a := A r) (rest := t.map (cvv A)) rfl hd (by omega) (by
      have h1 := cat_sum (t.map (cvv A))
      rw [List.length_map] at h1
      show 2 * 0 + _ + 12 ≤ _
      omega) ?_
    exact ih _ _ t _ _ _ _ _ _ _ he ⟨hR, hl, ho, (okS_cons.mp hs).2, hloc, hce, hsl, hfr, hlo⟩ K
  · rename_i z hq
    obtain ⟨r, t, h1, h2, h3, he⟩ := onobj_some he
    have o1 := okS_cons.mp (h3 ▸ okS_drop (k := mA z) hs)
    refine cll_on M ih he ⟨hR, hl, ho, hs, hloc, hce, hsl, hfr, hlo⟩ K (okS_cons.mpr ⟨o1.1, okS_take hs⟩) o1.2 fun h2 v hz hz1 M1 hr1 hr2 hr3 => ?_
    obtain ⟨x, ok, -⟩ := cal_row hq
    obtain ⟨n1, n2, n3, -⟩ := cod_ok hz hz1
    simp only [okCal, Bool.and_eq_true, decide_eq_true_eq] at ok
    have ew : wsM z = Cond.code (mY z) (mB z) (mL z) none :: goodWs := by unfold wsM; rw [ok.2]
    exact va_runI (Ts := goodWs) (nL := mL y) ⟨hx, hb, hml, hown, hts⟩ M1 (cwI (mA z) hts (good_in (wsM_in hz)) ew rfl rfl (hts _ n1) (hts _ (good_at (wAt_eq ok.1.1.1) rfl)) (hts _ (good_at (wAt_eq ok.1.1.2) rfl)) ok.1.2 ⟨n2.1, n2.2, n3⟩ hr1) (Pm_S (a := .ref r :: takeA (mA z) st) hR hKF) rfl (by rw [List.length_map]; exact takeA_len (by assumption)) hl.1.1 (stk_map h1) (hr2 _) hd hr3
  · rename_i z hq
    obtain ⟨r, t, h1, h2, h3, he⟩ := onobj_some he
    have o1 := okS_cons.mp (h3 ▸ okS_drop (k := mA z) hs)
    refine cll_on M ih he ⟨hR, hl, ho, hs, hloc, hce, hsl, hfr, hlo⟩ K (okS_cons.mpr ⟨o1.1, okS_take hs⟩) o1.2 fun h2 v hz hz1 M1 hr1 hr2 hr3 => ?_
    obtain ⟨x, ok, -⟩ := cal_row hq
    obtain ⟨n1, n2, n3, -⟩ := cod_ok hz hz1
    simp only [okCal, Bool.and_eq_true, decide_eq_true_eq] at ok
    have ew : wsM z = Cond.code (mY z) (mB z) (mL z) none :: goodWs := by unfold wsM; rw [ok.2]
    exact va_runIN (Ts := goodWs) (nL := mL y) ⟨hx, hb, hml, hown, hts⟩ M1 ⟨va_cnB (mA z) hts (good_in (wsM_in hz)) ew rfl rfl (hKF.2 _ (nest_at (wAt_eq ok.1.1.1) rfl)) (hts _ n1) ⟨n2.1, n2.2, n3⟩ hr1, ok.1.2, hts _ (good_at (wAt_eq ok.1.1.2) rfl)⟩ (Pm_S (a := .ref r :: takeA (mA z) st) hR hKF) rfl (by rw [List.length_map]; exact takeA_len (by assumption)) hl.1.1 (stk_map h1) (hr2 _) hd hr3
  · rename_i z hq
    obtain ⟨r, t, h1, h2, h3, he⟩ := onobj_some he
    obtain ⟨ht, he⟩ := gd_some he
    have ht : tg h r = mO y + 1 := by simpa using ht
    have o1 := okS_cons.mp (h3 ▸ okS_drop (k := mA z) hs)
    refine cll_on M ih he ⟨hR, hl, ho, hs, hloc, hce, hsl, hfr, hlo⟩ K (okS_cons.mpr ⟨o1.1, okS_take hs⟩) o1.2 fun h2 v hz hz1 M1 hr1 hr2 hr3 => ?_
    obtain ⟨x, ok, hin⟩ := cal_row hq
    obtain ⟨n1, n2, n3, -⟩ := cod_ok hz hz1
    simp only [okCal, Bool.and_eq_true, decide_eq_true_eq] at ok
    have hsup := List.all_eq_true.mp supX_all _ hin
    simp only [bne_self_eq_false, Bool.false_or, List.any_eq_true, Bool.and_eq_true, beq_iff_eq] at hsup
    obtain ⟨q, hqm, ⟨g1, g2⟩, g3⟩ := hsup
    have hsu := List.all_eq_true.mp okSup_all q hqm
    simp only [okSup, Bool.and_eq_true, decide_eq_true_eq] at hsu
    rw [g1, g3] at hsu
    have hG : GoodIn goodWs (va_wsSU (on (mO y)) j (mY z) (wsM z)) := good_in (by
      intro w hw
      simp only [va_wsSU, List.cons_append, List.nil_append, List.mem_cons] at hw
      rcases hw with rfl | rfl | rfl | rfl | rfl | hw
      · exact good_at (wAt_eq ok.1.1) rfl
      · exact good_at (wAt_eq hsu.1.1.1) rfl
      · exact good_at (wAt_eq hsu.1.1.2) rfl
      · exact good_at (wAt_eq ok.1.2) rfl
      · exact n1
      · exact wsM_in hz w hw)
    exact va_runSU (Ts := goodWs) (nL := mL y) (hKF.1.1 (mO y) _ (cl_at ok.2)).2 ⟨hx, hb, hml, hown, hts⟩ M1 (va_cwSU (mA z) hts hG rfl rfl rfl ⟨hsu.1.2, n3⟩ hr1) (Pm_V hR hKF ht ok.2) rfl (by rw [List.length_map]; exact takeA_len (by assumption)) hl.1.1 (stk_map h1) (hr2 _) hd hr3
  · cases he
theorem sim_virtual {n : Nat} (E : EnvM D cI cA p s m args meth c y) (M : MetP D cI cA base l n) (ih : IH D cI cA base p l e R s m args below meth c Q y vf hf n) {pc len : Nat} {ls st : List Value} {h : Hp} {A : Nat → Nat} {arr : Array Slot} {H : Heap} {locs : List Loc} {cells slots : Nat}  {j : Nat} 
    (hd : decode (mB y) pc = .ok (.invokevirtual j, len)) (hok : okl (.invokevirtual j) len = true) (he : stp y pc len ls st h (exec n y) (fun y a h' => exec n y 0 (ent y a) [] h') (.invokevirtual j) = some (vf, hf)) (S : Stt D cI cA base s R y hf A h ls st arr H locs cells slots) (K : Fin D cI cA base p l e R s m args below meth c Q y vf hf A h cells slots) :
    W p l e R s m args below meth c H locs cells slots Q (F0 m pc arr (st.map (cvv A))) := by
  obtain ⟨hx, hb, hml, hown, hts, hKF, hnm⟩ := E
  obtain ⟨hR, hl, ho, hs, hloc, hce, hsl, hfr, hlo⟩ := S
  obtain rfl : len = 3 := by simpa [okl] using hok
  simp only [stp] at he
  split at he
  · rename_i z hq
    obtain ⟨r, t, h1, h2, h3, he⟩ := onobj_some he
    obtain ⟨ht, he⟩ := gd_some he
    have ht : tg h r = mO z + 1 := by simpa using ht
    have o1 := okS_cons.mp (h3 ▸ okS_drop (k := mA z) hs)
    refine cll_on M ih he ⟨hR, hl, ho, hs, hloc, hce, hsl, hfr, hlo⟩ K (okS_cons.mpr ⟨o1.1, okS_take hs⟩) o1.2 fun h2 v hz hz1 M1 hr1 hr2 hr3 => ?_
    obtain ⟨x, ok, -⟩ := cal_row hq
    obtain ⟨n1, n2, n3, -⟩ := cod_ok hz hz1
    simp only [okCal, Bool.and_eq_true, decide_eq_true_eq] at ok
    have ec : (mY z).cls = cn (mO z) := on_cn ok.2
    have hG : GoodIn goodWs (wsV (on (mO y)) j (cn (mO z)) (mY z) (wsM z)) := good_in (by
      intro w hw
      rw [← ec] at hw
      simp only [wsV, List.cons_append, List.nil_append, List.mem_cons] at hw
      rcases hw with rfl | rfl | rfl | rfl | hw
      · exact good_at (wAt_eq ok.1.1.1) rfl
      · exact good_at (wAt_eq ok.1.1.2) rfl
      · exact good_at (wAt_eq ok.1.2) rfl
      · exact n1
      · exact wsM_in hz w hw)
    exact va_runV (Ts := goodWs) (nL := mL y) ⟨hx, hb, hml, hown, hts⟩ M1 (cwV (mA z) hts hG rfl rfl rfl ⟨ec, n2.1, n2.2, n3⟩ hr1) (Pm_V hR hKF ht ok.2) rfl (by rw [List.length_map]; exact takeA_len (by assumption)) hl.1.1 (stk_map h1) (hr2 _) hd hr3
  · rename_i y1 hq
    obtain ⟨r, t, h1, h2, h3, he⟩ := onobj_some he
    have o1 := okS_cons.mp (h3 ▸ okS_drop (k := mA y1) hs)
    split at he
    · rename_i z hv
      refine cll_on M ih he ⟨hR, hl, ho, hs, hloc, hce, hsl, hfr, hlo⟩ K (okS_cons.mpr ⟨o1.1, okS_take hs⟩) o1.2 fun h2 v hz hz1 M1 hr1 hr2 hr3 => ?_
      obtain ⟨n1, n2, n3, -⟩ := cod_ok hz hz1
      unfold vir at hv
      obtain ⟨q0, hq0, he0⟩ := Option.map_eq_some_iff.mp hv
      have g1 := List.find?_some hq0
      have g2 := List.mem_of_find?_eq_some hq0
      rw [virX_all] at g2
      obtain ⟨q, g3, rfl⟩ := List.mem_map.mp g2
      have ok := List.all_eq_true.mp okVir_all q g3
      obtain ⟨o', j', t', z', y0, oc, w1, w2, w3⟩ := q
      simp only [Bool.and_eq_true, beq_iff_eq] at g1
      obtain ⟨⟨i1, i2⟩, i3⟩ := g1
      have he0 : z' = z := he0
      simp only [i1, i2, i3, he0] at ok
      simp only [okVir, Bool.and_eq_true, decide_eq_true_eq] at ok
      obtain ⟨⟨⟨⟨⟨⟨⟨⟨k1, k2⟩, k3⟩, k4⟩, k5⟩, k6⟩, k7⟩, k8⟩, k9⟩ := ok
      have hy0 : y0 ≠ 1 := fun e => by rw [e] at k7; rw [k8] at k7; revert k7; decide
      obtain ⟨-, m2, m3, -⟩ := cod_ok k6 hy0
      have ht : tg h r = (tg h r - 1) + 1 := by omega
      have hG : GoodIn goodWs (va_wsO (on (mO y)) j (cn (tg h r - 1)) (mY y0).cls ⟨on oc, (mY y0).name, (mY y0).desc⟩ (mY z) (wsM z)) := good_in (by
        intro w hw
        simp only [va_wsO, List.cons_append, List.nil_append, List.mem_cons] at hw
        rcases hw with rfl | rfl | rfl | rfl | rfl | rfl | hw
        · exact good_at (wAt_eq k1) rfl
        · exact good_at (wAt_eq k2) rfl
        · exact good_at (wAt_eq k4) rfl
        · exact good_at (wAt_eq k3) rfl
        · exact good_at (wAt_eq k5) rfl
        · exact n1
        · exact wsM_in hz w hw)
      exact va_runU (Ts := goodWs) (nL := mL y) ⟨hx, hb, hml, hown, hts⟩ M1 (va_cwO (mA y0) hts hG rfl rfl rfl (cod_in k6) ⟨m2.1, m2.2, m3⟩ hr1) (Pm_V hR hKF ht (by omega)) rfl (by rw [List.length_map]; rw [takeA_len (by assumption), cal5 hq, k7, k8]) hl.1.1 (stk_map h1) (hr2 _) hd hr3
    · cases he
  · cases he
end SIMC
end
section
/-! The machine over roles and the machine agree: every method of the tables. -/
theorem lg_sl_cons (v : Value) (l : List Value) : lg_sl (v :: l) = (if v.category = 2 then [.val v, .second] else [.val v]) ++ lg_sl l := rfl
theorem isL_iff {v : Value} : isL v = true ↔ v.category = 2 := by
  unfold isL
  exact beq_iff_eq
theorem lay_len (A : Nat → Nat) : ∀ a : List Value, (lg_sl (a.map (cvv A))).length = (lay a).length
  | [] => rfl
  | v :: l => by
    rw [List.map_cons, lg_sl_cons, lay, cvv_cat, List.length_append, lay_len A l]
    by_cases h : isL v = true
    · rw [if_pos h, if_pos (isL_iff.mp h)]
      simp only [List.length_cons, List.length_nil]
      omega
    · rw [if_neg h, if_neg (fun q => h (isL_iff.mpr q))]
      simp only [List.length_cons, List.length_nil]
      omega
theorem lay_sl (A : Nat → Nat) : ∀ (a : List Value) (k : Nat) (v : Value), (lay a)[k]? = some v → v ≠ .retAddr 0 → (lg_sl (a.map (cvv A)))[k]? = some (.val (cvv A v))
  | [], k, v, h, _ => by simp [lay] at h
  | x :: l, k, v, h, hv => by
    rw [List.map_cons, lg_sl_cons, cvv_cat]
    rw [lay] at h
    by_cases hx : isL x = true
    · rw [if_pos hx] at h
      rw [if_pos (isL_iff.mp hx)]
      cases k with
      | zero => cases h; rfl
      | succ k =>
        cases k with
        | zero => cases h; exact absurd rfl hv
        | succ k => exact lay_sl A l k v h hv
    · rw [if_neg hx] at h
      rw [if_neg (fun q => hx (isL_iff.mpr q))]
      cases k with
      | zero => cases h; rfl
      | succ k => exact lay_sl A l k v h hv
theorem lay_mem : ∀ (a : List Value) (v : Value), v ∈ lay a → v ∈ a ∨ v = .retAddr 0
  | [], v, h => by cases h
  | x :: l, v, h => by
    rw [lay] at h
    by_cases hx : isL x = true
    · rw [if_pos hx] at h
      rcases List.mem_cons.mp h with h | h
      · exact Or.inl (h ▸ List.mem_cons_self)
      · rcases List.mem_cons.mp h with h | h
        · exact Or.inr h
        · exact (lay_mem l v h).imp (List.mem_cons_of_mem _) id
    · rw [if_neg hx] at h
      rcases List.mem_cons.mp h with h | h
      · exact Or.inl (h ▸ List.mem_cons_self)
      · exact (lay_mem l v h).imp (List.mem_cons_of_mem _) id
theorem ent_mem {z : Nat} {a : List Value} {v : Value} (h : v ∈ ent z a) : v ∈ a ∨ v = .retAddr 0 := by
  rcases List.mem_append.mp h with h | h
  · exact lay_mem a v h
  · exact Or.inr (List.eq_of_mem_replicate h)
theorem ent_len {z : Nat} {a : List Value} (h : (lay a).length ≤ mL z) : (ent z a).length = mL z := by
  unfold ent
  rw [List.length_append, List.length_replicate]
  omega
theorem lsR_ent {z : Nat} {a : List Value} (A : Nat → Nat) (h : (lay a).length ≤ mL z) (hn : nol z = true → ∀ w ∈ a, isL w = false) : lsR z A (ent z a) ((lg_sl (a.map (cvv A)) ++ List.replicate (mL z - (lg_sl (a.map (cvv A))).length) Slot.unset).toArray) := by
  have h1 := lv_entry (a.map (cvv A)) (n := mL z) (by rw [lay_len]; exact h)
  refine ⟨⟨h1.1, h1.2.1, fun q hq => ?_⟩, ent_len h, fun hz v hv => ?_⟩
  · obtain ⟨q1, q2, q3⟩ := mem_held.mp hq
    have hk : q.1 < (lay a).length := by
      apply Nat.lt_of_not_le
      intro hle
      apply q2
      unfold gt ent
      rw [List.getElem?_append_right hle]
      cases hr : (List.replicate (mL z - (lay a).length) (Value.retAddr 0))[q.1 - (lay a).length]? with
      | none => rfl
      | some w =>
        have := List.mem_of_getElem? hr
        rw [List.eq_of_mem_replicate this]
        rfl
    have e : gt (ent z a) q.1 = (lay a)[q.1] := by
      unfold gt ent
      rw [List.getElem?_append_left hk, List.getElem?_eq_getElem hk]
      rfl
    have h2 := lay_sl A a q.1 (lay a)[q.1] (List.getElem?_eq_getElem hk) (by rw [← e]; exact q2)
    rw [q3, e, List.getElem?_toArray, List.getElem?_append_left (by rw [lay_len]; exact hk), h2]
  · rcases ent_mem hv with h2 | h2
    · exact hn hz v h2
    · rw [h2]; rfl
section MAIN
variable {D : va_G} {cI : ClassId} {cA : Nat → ClassId} {base : Nat} {l : Launch}
theorem met_of {n : Nat} (hI : ∀ (p : Program) (e : Env) (R : Room) (s : State) (m : MethodId) (args : Array Value) (below : List Frame) (meth : Method) (c : Code) (Q : State → Prop) (y : Nat) (vf : Value) (hf : Hp), EnvM D cI cA p s m args meth c y → IH D cI cA base p l e R s m args below meth c Q y vf hf n) : MetP D cI cA base l n := by
  intro z a h h' v A hz hz1 he hoa hnl hlay
  obtain ⟨-, -, -, hpl⟩ := cod_ok hz hz1
  refine va_MetF hpl rfl fun p e s m args below meth c s₁ B hml hP => ?_
  obtain ⟨hargs, hR, hKF⟩ := hP
  have hws := atoms_spec (ws := wsM z) B.pre
  have E : EnvM D cI cA p s m args meth c z := ⟨B.exec, B.bytes, hml, findClass_of_methodNamed B.named, fun w hw => hws w (List.mem_cons_of_mem _ hw), hKF, (name_of_methodNamed B.named B.method).1⟩
  subst hargs
  have mo := exec_mono _ _ _ _ _ _ _ _ he
  rw [lg_entry_eq]
  refine hI p e _ s m _ below meth c _ z v h' E 0 (ent z a) [] h A _ s.heap [] 0 0 he ⟨hR, lsR_ent A hlay hnl, fun w hw => ?_, fun _ hw => by (cases hw), fun _ hq => by (cases hq), ?_, ?_, Nat.le_refl _, Nat.le_refl _⟩ ?_
  · rcases ent_mem hw with h2 | h2
    · exact hoa w h2
    · rw [h2]; exact trivial
  · show 0 + ck h' ≤ (ck h' - ck h) + ck h
    omega
  · show 0 + cu h' ≤ (cu h' - cu h) + cu h
    omega
  · intro A' H' locs' cells' slots' pc' arr' hP' hR' hov hlo hc hs hret
    obtain rfl : cells' = ck h' - ck h := by omega
    obtain rfl : slots' = cu h' - cu h := by omega
    have fin : ∀ (t : State), t.heap = H' → s.WarmedH t.vm → Rep D cI cA base A' h' t t.heap := fun t ht hW => by rw [ht]; exact Rep.moved hW.alike hR'
    unfold retI at hret
    unfold rst
    rcases hret with ⟨h1, hd⟩ | ⟨x, rfl, hd, h1 | ⟨h1, h2⟩⟩ | ⟨x, rfl, hd, h1⟩ | ⟨h1, hd, h2⟩
    · rw [if_pos h1]
      exact W.vret B.exec B.bytes (B.returns.trans h1) (fun t ht hW => ⟨A', hP', fin t ht hW, hov, by unfold rvo; rw [if_pos h1]⟩) hlo hd B.notSynchronized
    · rw [if_neg (by rw [h1]; exact fun q => by cases q)]
      exact W.iret B.exec B.bytes (B.returns.trans h1) (fun t ht hW => ⟨A', hP', fin t ht hW, hov, by unfold rvo; rw [if_neg (by rw [h1]; exact fun q => by cases q)]; rfl⟩) hlo hd B.notSynchronized
    · rw [if_neg (by rw [h1]; exact fun q => by cases q)]
      exact W.zret B.exec B.bytes (B.returns.trans h1) (fit_int (Or.inr ⟨rfl, h2⟩)).1 (fun t ht hW => ⟨A', hP', fin t ht hW, hov, by unfold rvo; rw [if_neg (by rw [h1]; exact fun q => by cases q)]; rfl⟩) hlo hd B.notSynchronized
    · rw [if_neg (by rw [h1]; exact fun q => by cases q)]
      exact W.lret B.exec B.bytes (B.returns.trans h1) (fun t ht hW => ⟨A', hP', fin t ht hW, hov, by unfold rvo; rw [if_neg (by rw [h1]; exact fun q => by cases q)]; rfl⟩) hlo hd B.notSynchronized
    · have hne : ¬ mR z = none := by
        rcases h2 with ⟨n, h2⟩ | ⟨n, h2⟩ <;> rw [h2] <;> exact fun q => by cases q
      rw [if_neg hne]
      have hv : cvv A' v = .null ∨ ∃ a, cvv A' v = .ref a := by
        rcases isR_some h1 with rfl | ⟨x, rfl⟩
        · exact Or.inl rfl
        · exact Or.inr ⟨_, rfl⟩
      have hq : ∀ t : State, t.heap = H' → s.WarmedH t.vm → Qm D cI cA base z A h h' v (a.map (cvv A)).toArray s (.returned (some (cvv A' v))) t := fun t ht hW => ⟨A', hP', fin t ht hW, hov, by unfold rvo; rw [if_neg hne]⟩
      rcases h2 with ⟨n, h2⟩ | ⟨n, h2⟩
      · exact W.aret B.exec B.bytes (B.returns.trans h2) (Or.inl ⟨n, rfl⟩) hv hq hlo hd B.notSynchronized
      · exact W.aret B.exec B.bytes (B.returns.trans h2) (Or.inr ⟨n, rfl⟩) hv hq hlo hd B.notSynchronized
theorem sim_all (D : va_G) (cI : ClassId) (cA : Nat → ClassId) (base : Nat) (l : Launch) : ∀ (n : Nat) (p : Program) (e : Env) (R : Room) (s : State) (m : MethodId) (args : Array Value) (below : List Frame) (meth : Method) (c : Code) (Q : State → Prop) (y : Nat) (vf : Value) (hf : Hp), EnvM D cI cA p s m args meth c y → IH D cI cA base p l e R s m args below meth c Q y vf hf n := by
  intro n
  induction n with
  | zero =>
    intro p e R s m args below meth c Q y vf hf E pc ls st h A arr H locs cells slots he
    simp [exec] at he
  | succ n ih =>
    intro p e R s m args below meth c Q y vf hf E pc ls st h A arr H locs cells slots he S K
    have M : MetP D cI cA base l n := met_of ih
    have I1 := ih p e R s m args below meth c Q y vf hf E
    rw [exec] at he
    split at he
    · rename_i i len hd
      obtain ⟨hok, he⟩ := gd_some he
      by_cases hp : plainI i = true
      · exact sim_plain E I1 hd hok he S K hp
      · cases i <;> first
          | exact absurd rfl hp
          | exact sim_getfield E I1 hd hok he S K
          | exact sim_putfield E I1 hd hok he S K
          | exact sim_getstatic E I1 hd hok he S K
          | exact sim_iaload E I1 hd hok he S K
          | exact sim_iastore E I1 hd hok he S K
          | exact sim_aaload E I1 hd hok he S K
          | exact sim_aastore E I1 hd hok he S K
          | exact sim_arraylength E I1 hd hok he S K
          | exact sim_new E I1 hd hok he S K
          | exact sim_newarray E I1 hd hok he S K
          | exact sim_anewarray E I1 hd hok he S K
          | exact sim_ldc E I1 hd hok he S K
          | exact sim_ldc_w E I1 hd hok he S K
          | exact sim_ldc2_w E I1 hd hok he S K
          | exact sim_static E M I1 hd hok he S K
          | exact sim_special E M I1 hd hok he S K
          | exact sim_virtual E M I1 hd hok he S K
    · cases he
end MAIN
end
section
/-! Runs: from a place the method comes to its end, and then P. -/
theorem gd_t {r : Rs} : gd true r = r := rfl
/-- more steps do no harm -/
theorem stp_le {y pc len : Nat} {ls st : List Value} {h : Hp} {go go2 : Go} {call call2 : Nat → List Value → Hp → Rs} {i : Instr} {r : Value × Hp}
    (hg : ∀ pc' ls' st' h1 r, go pc' ls' st' h1 = some r → go2 pc' ls' st' h1 = some r) (hc : ∀ z a h1 r, call z a h1 = some r → call2 z a h1 = some r) (he : stp y pc len ls st h go call i = some r) : stp y pc len ls st h go2 call2 i = some r := by
  have hgd : ∀ (b : Bool) pc' ls' st' h1, gd b (go pc' ls' st' h1) = some r → gd b (go2 pc' ls' st' h1) = some r := by
    intro b pc1 ls1 st1 h1 q
    obtain ⟨rfl, q⟩ := gd_some q
    exact hg _ _ _ _ _ q
  have hj : ∀ off ls' st' h1, jmp pc off (fun t => go t ls' st' h1) = some r → jmp pc off (fun t => go2 t ls' st' h1) = some r := fun off ls1 st1 h1 q => hgd _ _ _ _ _ q
  have hbr : ∀ c x z (t1 t2 : Nat) l1 s1 h1 l2 s2 h2, brn c x z (go t1 l1 s1 h1) (go t2 l2 s2 h2) = some r → brn c x z (go2 t1 l1 s1 h1) (go2 t2 l2 s2 h2) = some r := by
    intro c x z t1 t2 l1 s1 h1 l2 s2 h2 q
    cases c <;> simp only [brn] at q ⊢ <;> split at q <;> rename_i hcc <;> (first | rw [if_pos hcc] | rw [if_neg hcc]) <;> exact hg _ _ _ _ _ q
  have hcll : ∀ z lz sz a, cll y pc z lz sz h go call a = some r → cll y pc z lz sz h go2 call2 a = some r := by
    intro z lz sz a q
    unfold cll at q ⊢
    obtain ⟨q1, q⟩ := gd_some q
    split at q
    · rename_i w h2 heq
      rw [hc _ _ _ _ heq, q1]
      exact hg _ _ _ _ _ q
    · cases q
  cases i <;> simp only [stp] at he ⊢
  case iconst n =>
    exact hg _ _ _ _ _ he
  case bipush n =>
    exact hg _ _ _ _ _ he
  case sipush n =>
    exact hg _ _ _ _ _ he
  case lconst n =>
    exact hg _ _ _ _ _ he
  case aconst_null =>
    exact hg _ _ _ _ _ he
  case ldc j =>
    split at he
    · exact hg _ _ _ _ _ he
    · cases he
  case ldc_w j =>
    split at he
    · exact hg _ _ _ _ _ he
    · cases he
  case ldc2_w j =>
    split at he
    · exact hg _ _ _ _ _ he
    · cases he
  case iload k =>
    exact hgd _ _ _ _ _ he
  case iload_n k =>
    exact hgd _ _ _ _ _ he
  case lload k =>
    exact hgd _ _ _ _ _ he
  case lload_n k =>
    exact hgd _ _ _ _ _ he
  case aload k =>
    exact hgd _ _ _ _ _ he
  case aload_n k =>
    exact hgd _ _ _ _ _ he
  case istore k =>
    obtain ⟨x, t, rfl, he⟩ := i1_some he
    exact hgd _ _ _ _ _ he
  case istore_n k =>
    obtain ⟨x, t, rfl, he⟩ := i1_some he
    exact hgd _ _ _ _ _ he
  case astore k =>
    obtain ⟨x, t, rfl, he⟩ := v1_some he
    exact hgd _ _ _ _ _ he
  case astore_n k =>
    obtain ⟨x, t, rfl, he⟩ := v1_some he
    exact hgd _ _ _ _ _ he
  case lstore k =>
    obtain ⟨x, t, rfl, he⟩ := l1_some he
    exact hgd _ _ _ _ _ he
  case lstore_n k =>
    obtain ⟨x, t, rfl, he⟩ := l1_some he
    exact hgd _ _ _ _ _ he
  case iinc k j =>
    split at he
    · exact hgd _ _ _ _ _ he
    · cases he
  case iadd =>
    obtain ⟨x, z, t, rfl, he⟩ := i2_some he
    exact hg _ _ _ _ _ he
  case isub =>
    obtain ⟨x, z, t, rfl, he⟩ := i2_some he
    exact hg _ _ _ _ _ he
  case imul =>
    obtain ⟨x, z, t, rfl, he⟩ := i2_some he
    exact hg _ _ _ _ _ he
  case ishl =>
    obtain ⟨x, z, t, rfl, he⟩ := i2_some he
    exact hg _ _ _ _ _ he
  case ishr =>
    obtain ⟨x, z, t, rfl, he⟩ := i2_some he
    exact hg _ _ _ _ _ he
  case iushr =>
    obtain ⟨x, z, t, rfl, he⟩ := i2_some he
    exact hg _ _ _ _ _ he
  case iand =>
    obtain ⟨x, z, t, rfl, he⟩ := i2_some he
    exact hg _ _ _ _ _ he
  case ior =>
    obtain ⟨x, z, t, rfl, he⟩ := i2_some he
    exact hg _ _ _ _ _ he
  case ixor =>
    obtain ⟨x, z, t, rfl, he⟩ := i2_some he
    exact hg _ _ _ _ _ he
  case idiv =>
    obtain ⟨x, z, t, rfl, he⟩ := i2_some he
    exact hgd _ _ _ _ _ he
  case irem =>
    obtain ⟨x, z, t, rfl, he⟩ := i2_some he
    exact hgd _ _ _ _ _ he
  case ineg =>
    obtain ⟨x, t, rfl, he⟩ := i1_some he
    exact hg _ _ _ _ _ he
  case i2l =>
    obtain ⟨x, t, rfl, he⟩ := i1_some he
    exact hg _ _ _ _ _ he
  case i2b =>
    obtain ⟨x, t, rfl, he⟩ := i1_some he
    exact hg _ _ _ _ _ he
  case i2s =>
    obtain ⟨x, t, rfl, he⟩ := i1_some he
    exact hg _ _ _ _ _ he
  case ldiv =>
    obtain ⟨x, z, t, rfl, he⟩ := l2_some he
    exact hgd _ _ _ _ _ he
  case lrem =>
    obtain ⟨x, z, t, rfl, he⟩ := l2_some he
    exact hgd _ _ _ _ _ he
  case lcmp =>
    obtain ⟨x, z, t, rfl, he⟩ := l2_some he
    exact hg _ _ _ _ _ he
  case dup =>
    obtain ⟨x, t, rfl, he⟩ := v1_some he
    exact hgd _ _ _ _ _ he
  case dup2 =>
    obtain ⟨x, t, rfl, he⟩ := v1_some he
    obtain ⟨x2, t2, rfl, he⟩ := v1_some (st := t) he
    exact hgd _ _ _ _ _ he
  case goto off =>
    exact hj _ _ _ _ he
  case ifCond cc off =>
    obtain ⟨x, t, rfl, he⟩ := i1_some he
    obtain ⟨q1, he⟩ := gd_some he
    show gd _ _ = _
    rw [q1]
    exact hbr _ _ _ _ _ _ _ _ _ _ _ he
  case if_icmp cc off =>
    obtain ⟨x, z, t, rfl, he⟩ := i2_some he
    obtain ⟨q1, he⟩ := gd_some he
    show gd _ _ = _
    rw [q1]
    exact hbr _ _ _ _ _ _ _ _ _ _ _ he
  case ifnull off =>
    split at he
    · exact hj _ _ _ _ he
    · exact hg _ _ _ _ _ he
    · cases he
  case ifnonnull off =>
    split at he
    · exact hg _ _ _ _ _ he
    · exact hj _ _ _ _ he
    · cases he
  case tableswitch d lo hi offs =>
    obtain ⟨x, t, rfl, he⟩ := i1_some he
    show (if _ then _ else _) = _
    change (if _ then _ else _) = some r at he
    split at he
    · rename_i hcc
      rw [if_pos hcc]
      exact hj _ _ _ _ he
    · rename_i hcc
      rw [if_neg hcc]
      split at he
      · exact hj _ _ _ _ he
      · cases he
  case lookupswitch d ps =>
    obtain ⟨x, t, rfl, he⟩ := i1_some he
    obtain ⟨q1, he⟩ := gd_some he
    show gd _ _ = _
    rw [q1]
    exact hj _ _ _ _ he
  case getfield j =>
    split at he
    · obtain ⟨x, t, rfl, he⟩ := r1_some he
      obtain ⟨q1, he⟩ := gd_some he
      show gd _ _ = _
      rw [q1]
      show (if _ then _ else _) = _
      split at he
      · rename_i hcc
        rw [if_pos hcc]
        exact hgd _ _ _ _ _ he
      · rename_i hcc
        rw [if_neg hcc]
        exact hg _ _ _ _ _ he
    · cases he
  case putfield j =>
    split at he
    · obtain ⟨q1, he⟩ := gd_some he
      rw [q1, gd_t]
      split at he
      · exact hgd _ _ _ _ _ he
      · obtain ⟨q2, he⟩ := gd_some he
        show gd _ _ = _
        rw [q2]
        show (if _ then _ else _) = _
        split at he
        · rename_i hcc
          rw [if_pos hcc]
          exact hg _ _ _ _ _ he
        · rename_i hcc
          rw [if_neg hcc]
          exact hgd _ _ _ _ _ he
      · cases he
    · cases he
  case getstatic j =>
    split at he
    · exact hgd _ _ _ _ _ he
    · cases he
  case iaload =>
    obtain ⟨x, i, t, rfl, he⟩ := ri_some he
    exact hgd _ _ _ _ _ he
  case iastore =>
    obtain ⟨x, i, z, t, rfl, he⟩ := rii_some he
    exact hgd _ _ _ _ _ he
  case aaload =>
    obtain ⟨x, i, t, rfl, he⟩ := ri_some he
    exact hgd _ _ _ _ _ he
  case aastore =>
    obtain ⟨x, i, z, t, rfl, he⟩ := rir_some he
    obtain ⟨q2, he⟩ := gd_some he
    show gd _ _ = _
    rw [q2]
    show (if _ then _ else _) = _
    split at he
    · rename_i hcc
      rw [if_pos hcc]
      exact hg _ _ _ _ _ he
    · rename_i hcc
      rw [if_neg hcc]
      exact hgd _ _ _ _ _ he
  case arraylength =>
    obtain ⟨x, t, rfl, he⟩ := r1_some he
    exact hgd _ _ _ _ _ he
  case new j =>
    split at he
    · exact hgd _ _ _ _ _ he
    · cases he
  case newarray j =>
    obtain ⟨x, t, rfl, he⟩ := i1_some he
    exact hgd _ _ _ _ _ he
  case anewarray j =>
    split at he
    · obtain ⟨x, t, rfl, he⟩ := i1_some he
      exact hgd _ _ _ _ _ he
    · cases he
  case invokestatic j =>
    split at he
    · obtain ⟨q1, he⟩ := gd_some he
      rw [q1]
      exact hcll _ _ _ _ he
    · obtain ⟨q1, he⟩ := gd_some he
      rw [q1]
      exact hcll _ _ _ _ he
    · split at he
      · exact hgd _ _ _ _ _ he
      · cases he
    · cases he
  case invokespecial j =>
    have hon : ∀ z sz (f f2 : Nat → List Value → List Value → Rs), (∀ r0 a s, f r0 a s = some r → f2 r0 a s = some r) → onobj z sz f = some r → onobj z sz f2 = some r := by
      intro z sz f f2 hf q
      obtain ⟨r0, t, e, q⟩ := r1_some q
      obtain ⟨q1, q⟩ := gd_some q
      unfold onobj
      rw [e]
      show gd _ _ = _
      rw [q1]
      exact hf _ _ _ q
    split at he
    · obtain ⟨x, t, rfl, he⟩ := r1_some he
      exact hgd _ _ _ _ _ he
    · exact hon _ _ _ _ (fun _ _ _ q => hcll _ _ _ _ q) he
    · exact hon _ _ _ _ (fun _ _ _ q => hcll _ _ _ _ q) he
    · refine hon _ _ _ _ (fun _ _ _ q => ?_) he
      obtain ⟨q1, q⟩ := gd_some q
      rw [q1]
      exact hcll _ _ _ _ q
    · cases he
  case invokevirtual j =>
    have hon : ∀ z sz (f f2 : Nat → List Value → List Value → Rs), (∀ r0 a s, f r0 a s = some r → f2 r0 a s = some r) → onobj z sz f = some r → onobj z sz f2 = some r := by
      intro z sz f f2 hf q
      obtain ⟨r0, t, e, q⟩ := r1_some q
      obtain ⟨q1, q⟩ := gd_some q
      unfold onobj
      rw [e]
      show gd _ _ = _
      rw [q1]
      exact hf _ _ _ q
    split at he
    · refine hon _ _ _ _ (fun _ _ _ q => ?_) he
      obtain ⟨q1, q⟩ := gd_some q
      rw [q1]
      exact hcll _ _ _ _ q
    · refine hon _ _ _ _ (fun _ _ _ q => ?_) he
      split at q
      · exact hcll _ _ _ _ q
      · cases q
    · cases he
  case ireturn =>
    exact he
  case lreturn =>
    exact he
  case areturn =>
    exact he
  case return_ =>
    exact he
  all_goals (cases he)
theorem exec_le : ∀ (n k y pc : Nat) (ls st : List Value) (h : Hp) (r : Value × Hp), n ≤ k → exec n y pc ls st h = some r → exec k y pc ls st h = some r := by
  intro n
  induction n with
  | zero => intro k y pc ls st h r _ he; simp [exec] at he
  | succ n ih =>
    intro k y pc ls st h r hk he
    cases k with
    | zero => omega
    | succ k =>
      rw [exec] at he ⊢
      split at he
      · obtain ⟨q1, he⟩ := gd_some he
        rw [q1]
        exact stp_le (fun _ _ _ _ _ q => ih k _ _ _ _ _ _ (by omega) q) (fun _ _ _ _ q => ih k _ _ _ _ _ _ (by omega) q) he
      · cases he
def R (m pc : Nat) (ls st : List Value) (h : Hp) (P : Value → Hp → Prop) : Prop := ∃ (n : Nat) (v : Value) (h' : Hp), exec n m pc ls st h = some (v, h') ∧ P v h'
theorem R.imp {m pc : Nat} {ls st : List Value} {h : Hp} {P Q : Value → Hp → Prop} (hr : R m pc ls st h P) (hq : ∀ v h', P v h' → Q v h') : R m pc ls st h Q := by
  obtain ⟨n, v, h', e, p⟩ := hr
  exact ⟨n, v, h', e, hq _ _ p⟩
def Dd (m pc : Nat) (i : Instr) (len : Nat) : Prop := decode (mB m) pc = .ok (i, len) ∧ okl i len = true
def Dall (m : Nat) (l : List (Nat × Instr × Nat)) : Bool := l.all (fun q => decide (decode (mB m) q.1 = .ok (q.2.1, q.2.2)) && okl q.2.1 q.2.2)
theorem Dat {m : Nat} {l : List (Nat × Instr × Nat)} (h : Dall m l = true) (k : Nat) {pc len : Nat} {i : Instr} (hq : l[k]? = some (pc, i, len)) : Dd m pc i len := by
  have h1 := List.all_eq_true.mp h _ (List.mem_of_getElem? hq)
  rw [Bool.and_eq_true, decide_eq_true_eq] at h1
  exact h1
theorem R_go {m pc len pc' : Nat} {ls st ls' st' : List Value} {h h' : Hp} {i : Instr} {P : Value → Hp → Prop} (hd : Dd m pc i len) (he : ∀ go call, stp m pc len ls st h go call i = go pc' ls' st' h') (k : R m pc' ls' st' h' P) : R m pc ls st h P := by
  obtain ⟨n, v, h2, e, p⟩ := k
  refine ⟨n + 1, v, h2, ?_, p⟩
  rw [exec, hd.1]
  show gd _ _ = _
  rw [hd.2, he]
  exact e
theorem R_end {m pc len : Nat} {ls st : List Value} {h h' : Hp} {v : Value} {i : Instr} {P : Value → Hp → Prop} (hd : Dd m pc i len) (he : ∀ go call, stp m pc len ls st h go call i = some (v, h')) (k : P v h') : R m pc ls st h P := by
  refine ⟨1, v, h', ?_, k⟩
  rw [exec, hd.1]
  show gd _ _ = _
  rw [hd.2, he]
  rfl
def okg (m y : Nat) (ls s a : List Value) : Bool := okc m y && decide (s.length ≤ 4) && (!nol y || a.all (fun v => !isL v)) && decide ((lay a).length ≤ mL y) && (!mv y || (mv m && ng ls && ng s))
theorem R_cll {m pc len y : Nat} {ls st s a e : List Value} {h : Hp} {i : Instr} {P : Value → Hp → Prop} (hd : Dd m pc i len) (he : ∀ go call, stp m pc len ls st h go call i = cll m pc y ls s h go call a) (hg : okg m y ls s a = true) (hent : ent y a = e)
    (k : R y 0 e [] h (fun v h2 => R m (pc + 3) ls (back y v s) h2 P)) : R m pc ls st h P := by
  obtain ⟨n, v, h2, e1, n2, v2, h3, e2, p⟩ := k
  refine ⟨n + n2 + 1, v2, h3, ?_, p⟩
  rw [exec, hd.1]
  show gd _ _ = _
  rw [hd.2, he]
  show gd true _ = _
  unfold gd cll
  rw [if_pos rfl]
  have hg2 : (okc m y && decide (s.length ≤ 4) && (!nol y || a.all (fun v => !isL v)) && decide ((lay a).length ≤ mL y) && (!mv y || (mv m && ng ls && ng s))) = true := hg
  rw [hg2]
  show (match exec (n + n2) y 0 (ent y a) [] h with | some (v, h') => exec (n + n2) m (pc + 3) ls (back y v s) h' | none => none) = _
  rw [hent, exec_le n (n + n2) _ _ _ _ _ _ (by omega) e1]
  exact exec_le n2 (n + n2) _ _ _ _ _ _ (by omega) e2
/-! numbers -/
def J (z : Int) : Int64 := Int64.ofInt z
abbrev rng (z : Int) : Prop := -2147483648 ≤ z ∧ z < 2147483648
def wr (z : Int) : Int := (I z).toInt
theorem I_toInt {z : Int} (h : rng z) : (I z).toInt = z := Int32.toInt_ofInt_of_le h.1 h.2
theorem wr_eq {z : Int} (h : rng z) : wr z = z := I_toInt h
theorem wr_rng (z : Int) : rng (wr z) := ⟨Int32.le_toInt _, Int32.toInt_lt _⟩
theorem I_wr (z : Int) : I (wr z) = I z := by unfold wr I; exact Int32.ofInt_toInt _
theorem I_add (a b : Int) : I a + I b = I (a + b) := (Int32.ofInt_add a b).symm
theorem I_sub (a b : Int) : I a - I b = I (a - b) := (Int32.ofInt_sub a b).symm
theorem I_mul (a b : Int) : I a * I b = I (a * b) := (Int32.ofInt_mul a b).symm
theorem I_neg (a : Int) : -I a = I (-a) := (Int32.ofInt_neg a).symm
theorem I_inj {a b : Int} (ha : rng a) (hb : rng b) : I a = I b ↔ a = b := by
  constructor
  · intro h
    have := congrArg Int32.toInt h
    rwa [I_toInt ha, I_toInt hb] at this
  · intro h; rw [h]
theorem I_lt {a b : Int} (ha : rng a) (hb : rng b) : I a < I b ↔ a < b := by
  rw [Int32.lt_iff_toInt_lt, I_toInt ha, I_toInt hb]
theorem I_div {a b : Int} (ha : 0 ≤ a ∧ a < 2147483648) (hb : 0 < b ∧ b < 2147483648) : I a / I b = I (a / b) := by
  apply Int32.toInt_inj.mp
  have h1 : 0 ≤ a / b := Int.ediv_nonneg ha.1 (by omega)
  have h2 : a / b ≤ a := Int.ediv_le_self _ ha.1
  rw [Int32.toInt_div, I_toInt ⟨by omega, ha.2⟩, I_toInt ⟨by omega, hb.2⟩, I_toInt ⟨by omega, by omega⟩, Int.tdiv_eq_ediv_of_nonneg ha.1]
  exact Int.bmod_eq_of_le (by omega) (by omega)
theorem I_mod {a b : Int} (ha : 0 ≤ a ∧ a < 2147483648) (hb : 0 < b ∧ b < 2147483648) : I a % I b = I (a % b) := by
  apply Int32.toInt_inj.mp
  have h1 : 0 ≤ a % b := Int.emod_nonneg _ (by omega)
  have h2 : a % b < b := Int.emod_lt_of_pos _ hb.1
  rw [Int32.toInt_mod, I_toInt ⟨by omega, ha.2⟩, I_toInt ⟨by omega, hb.2⟩, I_toInt ⟨by omega, by omega⟩, Int.tmod_eq_emod_of_nonneg ha.1]
def band (a b : Int) : Int := (I a &&& I b).toInt
def bor (a b : Int) : Int := (I a ||| I b).toInt
def bxor (a b : Int) : Int := (I a ^^^ I b).toInt
def shl (a k : Int) : Int := (I a <<< (I k &&& 31)).toInt
def shr (a k : Int) : Int := (I a >>> (I k &&& 31)).toInt
def ushr (a k : Int) : Int := (((I a).toUInt32 >>> ((I k).toUInt32 &&& Int32.toUInt32 31)).toInt32).toInt
def b8 (a : Int) : Int := ((I a).toInt8.toInt32).toInt
def b16 (a : Int) : Int := ((I a).toInt16.toInt32).toInt
theorem I_of (x : Int32) : I x.toInt = x := Int32.ofInt_toInt _

theorem R_iconst {m pc : Nat} {ls st : List Value} {h : Hp} {P : Value → Hp → Prop} {n : Int} (hd : Dd m pc (.iconst n) 1) (k : R m (pc + 1) ls (.int (I n) :: st) h P) : R m pc ls (st) h P := R_go hd (fun _ _ => rfl) k
theorem R_bipush {m pc : Nat} {ls st : List Value} {h : Hp} {P : Value → Hp → Prop} {n a : Int} (hd : Dd m pc (.bipush n) 2) (hn : (Int8.ofInt n).toInt32 = I a) (k : R m (pc + 2) ls (.int (I a) :: st) h P) : R m pc ls (st) h P := by
  rw [← hn] at k
  exact R_go hd (fun _ _ => rfl) k
theorem R_sipush {m pc : Nat} {ls st : List Value} {h : Hp} {P : Value → Hp → Prop} {n a : Int} (hd : Dd m pc (.sipush n) 3) (hn : (Int16.ofInt n).toInt32 = I a) (k : R m (pc + 3) ls (.int (I a) :: st) h P) : R m pc ls (st) h P := by
  rw [← hn] at k
  exact R_go hd (fun _ _ => rfl) k
theorem R_lconst {m pc : Nat} {ls st : List Value} {h : Hp} {P : Value → Hp → Prop} {n : _root_.Fin 2} (hd : Dd m pc (.lconst n) 1) (k : R m (pc + 1) ls (.long (J (n : Nat)) :: st) h P) : R m pc ls (st) h P := R_go hd (fun _ _ => rfl) k
theorem R_null {m pc : Nat} {ls st : List Value} {h : Hp} {P : Value → Hp → Prop} (hd : Dd m pc (.aconst_null) 1) (k : R m (pc + 1) ls (.null :: st) h P) : R m pc ls (st) h P := R_go hd (fun _ _ => rfl) k
theorem R_ldc {m pc : Nat} {ls st : List Value} {h : Hp} {P : Value → Hp → Prop} {j : Nat} {a : Int} (hd : Dd m pc (.ldc j) 2) (hv : ldct (mO m) j = some (I a)) (k : R m (pc + 2) ls (.int (I a) :: st) h P) : R m pc ls (st) h P := R_go hd (fun _ _ => by simp only [stp, hv]) k
theorem R_ldc_w {m pc : Nat} {ls st : List Value} {h : Hp} {P : Value → Hp → Prop} {j : Nat} {a : Int} (hd : Dd m pc (.ldc_w j) 3) (hv : ldct (mO m) j = some (I a)) (k : R m (pc + 3) ls (.int (I a) :: st) h P) : R m pc ls (st) h P := R_go hd (fun _ _ => by simp only [stp, hv]) k
theorem R_ldc2_w {m pc : Nat} {ls st : List Value} {h : Hp} {P : Value → Hp → Prop} {j : Nat} {a : Int} (hd : Dd m pc (.ldc2_w j) 3) (hv : ld2t (mO m) j = some (J a)) (k : R m (pc + 3) ls (.long (J a) :: st) h P) : R m pc ls (st) h P := R_go hd (fun _ _ => by simp only [stp, hv]) k
theorem R_iload {m pc : Nat} {ls st : List Value} {h : Hp} {P : Value → Hp → Prop} {kk : Nat} {x : Int32} (hd : Dd m pc (.iload kk) 2) (hg : gt ls kk = .int x) (k : R m (pc + 2) ls (.int x :: st) h P) : R m pc ls (st) h P := R_go hd (fun _ _ => by simp only [stp, hg]; rfl) k
theorem R_lload {m pc : Nat} {ls st : List Value} {h : Hp} {P : Value → Hp → Prop} {kk : Nat} {x : Int64} (hd : Dd m pc (.lload kk) 2) (hg : gt ls kk = .long x) (k : R m (pc + 2) ls (.long x :: st) h P) : R m pc ls (st) h P := R_go hd (fun _ _ => by simp only [stp, hg]; rfl) k
theorem R_aload {m pc : Nat} {ls st : List Value} {h : Hp} {P : Value → Hp → Prop} {kk : Nat} {x : Value} (hd : Dd m pc (.aload kk) 2) (hg : gt ls kk = x) (hx : isR x = true) (k : R m (pc + 2) ls (x :: st) h P) : R m pc ls (st) h P := R_go hd (fun _ _ => by simp only [stp, hg, hx]; rfl) k
theorem R_iload_n {m pc : Nat} {ls st : List Value} {h : Hp} {P : Value → Hp → Prop} {kk : _root_.Fin 4} {x : Int32} (hd : Dd m pc (.iload_n kk) 1) (hg : gt ls (kk : Nat) = .int x) (k : R m (pc + 1) ls (.int x :: st) h P) : R m pc ls (st) h P := R_go hd (fun _ _ => by simp only [stp, hg]; rfl) k
theorem R_lload_n {m pc : Nat} {ls st : List Value} {h : Hp} {P : Value → Hp → Prop} {kk : _root_.Fin 4} {x : Int64} (hd : Dd m pc (.lload_n kk) 1) (hg : gt ls (kk : Nat) = .long x) (k : R m (pc + 1) ls (.long x :: st) h P) : R m pc ls (st) h P := R_go hd (fun _ _ => by simp only [stp, hg]; rfl) k
theorem R_aload_n {m pc : Nat} {ls st : List Value} {h : Hp} {P : Value → Hp → Prop} {kk : _root_.Fin 4} {x : Value} (hd : Dd m pc (.aload_n kk) 1) (hg : gt ls (kk : Nat) = x) (hx : isR x = true) (k : R m (pc + 1) ls (x :: st) h P) : R m pc ls (st) h P := R_go hd (fun _ _ => by simp only [stp, hg, hx]; rfl) k
theorem R_istore {m pc : Nat} {ls st : List Value} {h : Hp} {P : Value → Hp → Prop} {kk : Nat} {x : Int32} {ls1 : List Value} (hd : Dd m pc (.istore kk) 2) (hg : okst m ls kk = true) (hl : ls.set kk (.int x) = ls1) (k : R m (pc + 2) ls1 (st) h P) : R m pc ls (.int x :: st) h P := by
  rw [← hl] at k
  exact R_go hd (fun _ _ => by simp only [stp, i1, hg]; rfl) k
theorem R_astore {m pc : Nat} {ls st : List Value} {h : Hp} {P : Value → Hp → Prop} {kk : Nat} {x : Value} {ls1 : List Value} (hd : Dd m pc (.astore kk) 2) (hg : okst m ls kk = true) (hx : isR x = true) (hl : ls.set kk x = ls1) (k : R m (pc + 2) ls1 (st) h P) : R m pc ls (x :: st) h P := by
  rw [← hl] at k
  exact R_go hd (fun _ _ => by simp only [stp, v1, hg, hx]; rfl) k
theorem R_lstore {m pc : Nat} {ls st : List Value} {h : Hp} {P : Value → Hp → Prop} {kk : Nat} {x : Int64} {ls1 : List Value} (hd : Dd m pc (.lstore kk) 2) (hg : (!nol m && okst m ls kk && decide (kk + 1 < ls.length)) = true) (hl : (ls.set kk (.long x)).set (kk + 1) (.retAddr 0) = ls1) (k : R m (pc + 2) ls1 (st) h P) : R m pc ls (.long x :: st) h P := by
  rw [← hl] at k
  exact R_go hd (fun _ _ => by simp only [stp, l1, hg]; rfl) k
theorem R_istore_n {m pc : Nat} {ls st : List Value} {h : Hp} {P : Value → Hp → Prop} {kk : _root_.Fin 4} {x : Int32} {ls1 : List Value} (hd : Dd m pc (.istore_n kk) 1) (hg : okst m ls (kk : Nat) = true) (hl : ls.set (kk : Nat) (.int x) = ls1) (k : R m (pc + 1) ls1 (st) h P) : R m pc ls (.int x :: st) h P := by
  rw [← hl] at k
  exact R_go hd (fun _ _ => by simp only [stp, i1, hg]; rfl) k
theorem R_astore_n {m pc : Nat} {ls st : List Value} {h : Hp} {P : Value → Hp → Prop} {kk : _root_.Fin 4} {x : Value} {ls1 : List Value} (hd : Dd m pc (.astore_n kk) 1) (hg : okst m ls (kk : Nat) = true) (hx : isR x = true) (hl : ls.set (kk : Nat) x = ls1) (k : R m (pc + 1) ls1 (st) h P) : R m pc ls (x :: st) h P := by
  rw [← hl] at k
  exact R_go hd (fun _ _ => by simp only [stp, v1, hg, hx]; rfl) k
theorem R_lstore_n {m pc : Nat} {ls st : List Value} {h : Hp} {P : Value → Hp → Prop} {kk : _root_.Fin 4} {x : Int64} {ls1 : List Value} (hd : Dd m pc (.lstore_n kk) 1) (hg : (!nol m && okst m ls (kk : Nat) && decide ((kk : Nat) + 1 < ls.length)) = true) (hl : (ls.set (kk : Nat) (.long x)).set ((kk : Nat) + 1) (.retAddr 0) = ls1) (k : R m (pc + 1) ls1 (st) h P) : R m pc ls (.long x :: st) h P := by
  rw [← hl] at k
  exact R_go hd (fun _ _ => by simp only [stp, l1, hg]; rfl) k
theorem R_iinc {m pc : Nat} {ls st : List Value} {h : Hp} {P : Value → Hp → Prop} {j : Nat} {c : Int} {x : Int} {ls1 : List Value} (hd : Dd m pc (.iinc j c) 3) (hx : gt ls j = .int (I x)) (hg : okst m ls j = true) (hl : ls.set j (.int (I (x + c))) = ls1) (k : R m (pc + 3) ls1 (st) h P) : R m pc ls (st) h P := by
  rw [← hl, ← I_add] at k
  exact R_go hd (fun _ _ => by simp only [stp, hx, hg]; rfl) k
theorem R_iadd {m pc : Nat} {ls st : List Value} {h : Hp} {P : Value → Hp → Prop} {a b : Int} (hd : Dd m pc (.iadd) 1) (k : R m (pc + 1) ls (.int (I (a + b)) :: st) h P) : R m pc ls (.int (I b) :: .int (I a) :: st) h P := by
  rw [← I_add] at k
  exact R_go hd (fun _ _ => rfl) k
theorem R_isub {m pc : Nat} {ls st : List Value} {h : Hp} {P : Value → Hp → Prop} {a b : Int} (hd : Dd m pc (.isub) 1) (k : R m (pc + 1) ls (.int (I (a - b)) :: st) h P) : R m pc ls (.int (I b) :: .int (I a) :: st) h P := by
  rw [← I_sub] at k
  exact R_go hd (fun _ _ => rfl) k
theorem R_imul {m pc : Nat} {ls st : List Value} {h : Hp} {P : Value → Hp → Prop} {a b : Int} (hd : Dd m pc (.imul) 1) (k : R m (pc + 1) ls (.int (I (a * b)) :: st) h P) : R m pc ls (.int (I b) :: .int (I a) :: st) h P := by
  rw [← I_mul] at k
  exact R_go hd (fun _ _ => rfl) k
theorem R_idiv {m pc : Nat} {ls st : List Value} {h : Hp} {P : Value → Hp → Prop} {a b : Int} (hd : Dd m pc (.idiv) 1) (ha : 0 ≤ a ∧ a < 2147483648) (hb : 0 < b ∧ b < 2147483648) (k : R m (pc + 1) ls (.int (I (a / b)) :: st) h P) : R m pc ls (.int (I b) :: .int (I a) :: st) h P := by
  rw [← I_div ha hb] at k
  have hne : (I b != 0) = true := by
    rw [bne_iff_ne]
    exact fun q => by
      have := (I_inj ⟨by omega, hb.2⟩ (b := 0) ⟨by decide, by decide⟩).mp q
      omega
  exact R_go hd (fun _ _ => by simp only [stp, i2, hne]; rfl) k
theorem R_irem {m pc : Nat} {ls st : List Value} {h : Hp} {P : Value → Hp → Prop} {a b : Int} (hd : Dd m pc (.irem) 1) (ha : 0 ≤ a ∧ a < 2147483648) (hb : 0 < b ∧ b < 2147483648) (k : R m (pc + 1) ls (.int (I (a % b)) :: st) h P) : R m pc ls (.int (I b) :: .int (I a) :: st) h P := by
  rw [← I_mod ha hb] at k
  have hne : (I b != 0) = true := by
    rw [bne_iff_ne]
    exact fun q => by
      have := (I_inj ⟨by omega, hb.2⟩ (b := 0) ⟨by decide, by decide⟩).mp q
      omega
  exact R_go hd (fun _ _ => by simp only [stp, i2, hne]; rfl) k
theorem R_iand {m pc : Nat} {ls st : List Value} {h : Hp} {P : Value → Hp → Prop} {a b : Int} (hd : Dd m pc (.iand) 1) (k : R m (pc + 1) ls (.int (I (band a b)) :: st) h P) : R m pc ls (.int (I b) :: .int (I a) :: st) h P := by
  have e : I (band a b) = I a &&& I b := I_of _
  rw [e] at k
  exact R_go hd (fun _ _ => rfl) k
theorem R_ior {m pc : Nat} {ls st : List Value} {h : Hp} {P : Value → Hp → Prop} {a b : Int} (hd : Dd m pc (.ior) 1) (k : R m (pc + 1) ls (.int (I (bor a b)) :: st) h P) : R m pc ls (.int (I b) :: .int (I a) :: st) h P := by
  have e : I (bor a b) = I a ||| I b := I_of _
  rw [e] at k
  exact R_go hd (fun _ _ => rfl) k
theorem R_ixor {m pc : Nat} {ls st : List Value} {h : Hp} {P : Value → Hp → Prop} {a b : Int} (hd : Dd m pc (.ixor) 1) (k : R m (pc + 1) ls (.int (I (bxor a b)) :: st) h P) : R m pc ls (.int (I b) :: .int (I a) :: st) h P := by
  have e : I (bxor a b) = I a ^^^ I b := I_of _
  rw [e] at k
  exact R_go hd (fun _ _ => rfl) k
theorem R_ishl {m pc : Nat} {ls st : List Value} {h : Hp} {P : Value → Hp → Prop} {a b : Int} (hd : Dd m pc (.ishl) 1) (k : R m (pc + 1) ls (.int (I (shl a b)) :: st) h P) : R m pc ls (.int (I b) :: .int (I a) :: st) h P := by
  unfold shl at k
  rw [I_of] at k
  exact R_go hd (fun _ _ => rfl) k
theorem R_ishr {m pc : Nat} {ls st : List Value} {h : Hp} {P : Value → Hp → Prop} {a b : Int} (hd : Dd m pc (.ishr) 1) (k : R m (pc + 1) ls (.int (I (shr a b)) :: st) h P) : R m pc ls (.int (I b) :: .int (I a) :: st) h P := by
  unfold shr at k
  rw [I_of] at k
  exact R_go hd (fun _ _ => rfl) k
theorem R_iushr {m pc : Nat} {ls st : List Value} {h : Hp} {P : Value → Hp → Prop} {a b : Int} (hd : Dd m pc (.iushr) 1) (k : R m (pc + 1) ls (.int (I (ushr a b)) :: st) h P) : R m pc ls (.int (I b) :: .int (I a) :: st) h P := by
  unfold ushr at k
  rw [I_of] at k
  exact R_go hd (fun _ _ => rfl) k
theorem R_ineg {m pc : Nat} {ls st : List Value} {h : Hp} {P : Value → Hp → Prop} {a : Int} (hd : Dd m pc (.ineg) 1) (k : R m (pc + 1) ls (.int (I (-a)) :: st) h P) : R m pc ls (.int (I a) :: st) h P := by
  rw [← I_neg] at k
  exact R_go hd (fun _ _ => rfl) k
theorem R_i2b {m pc : Nat} {ls st : List Value} {h : Hp} {P : Value → Hp → Prop} {a : Int} (hd : Dd m pc (.i2b) 1) (k : R m (pc + 1) ls (.int (I (b8 a)) :: st) h P) : R m pc ls (.int (I a) :: st) h P := by
  unfold b8 at k
  rw [I_of] at k
  exact R_go hd (fun _ _ => rfl) k
theorem R_i2s {m pc : Nat} {ls st : List Value} {h : Hp} {P : Value → Hp → Prop} {a : Int} (hd : Dd m pc (.i2s) 1) (k : R m (pc + 1) ls (.int (I (b16 a)) :: st) h P) : R m pc ls (.int (I a) :: st) h P := by
  unfold b16 at k
  rw [I_of] at k
  exact R_go hd (fun _ _ => rfl) k
theorem J_toInt {z : Int} (h : -9223372036854775808 ≤ z ∧ z < 9223372036854775808) : (J z).toInt = z := Int64.toInt_ofInt_of_le h.1 h.2
theorem I_long {a : Int} (h : rng a) : (I a).toInt64 = J a := by
  apply Int64.toInt_inj.mp
  rw [Int32.toInt_toInt64, I_toInt h, J_toInt ⟨by omega, by omega⟩]
theorem R_i2l {m pc : Nat} {ls st : List Value} {h : Hp} {P : Value → Hp → Prop} {a : Int} (hd : Dd m pc (.i2l) 1) (ha : rng a) (k : R m (pc + 1) ls (.long (J a) :: st) h P) : R m pc ls (.int (I a) :: st) h P := by
  rw [← I_long ha] at k
  exact R_go hd (fun _ _ => rfl) k
theorem J_div {a b : Int} (ha : 0 ≤ a ∧ a < 2147483648) (hb : 0 < b ∧ b < 2147483648) : J a / J b = J (a / b) := by
  apply Int64.toInt_inj.mp
  have h1 : 0 ≤ a / b := Int.ediv_nonneg ha.1 (by omega)
  have h2 : a / b ≤ a := Int.ediv_le_self _ ha.1
  rw [Int64.toInt_div, J_toInt ⟨by omega, by omega⟩, J_toInt ⟨by omega, by omega⟩, J_toInt ⟨by omega, by omega⟩, Int.tdiv_eq_ediv_of_nonneg ha.1]
  exact Int.bmod_eq_of_le (by omega) (by omega)
theorem J_mod {a b : Int} (ha : 0 ≤ a ∧ a < 2147483648) (hb : 0 < b ∧ b < 2147483648) : J a % J b = J (a % b) := by
  apply Int64.toInt_inj.mp
  have h1 : 0 ≤ a % b := Int.emod_nonneg _ (by omega)
  have h2 : a % b < b := Int.emod_lt_of_pos _ hb.1
  rw [Int64.toInt_mod, J_toInt ⟨by omega, by omega⟩, J_toInt ⟨by omega, by omega⟩, J_toInt ⟨by omega, by omega⟩, Int.tmod_eq_emod_of_nonneg ha.1]
abbrev lrg (z : Int) : Prop := -9223372036854775808 ≤ z ∧ z < 9223372036854775808
theorem J_inj {a b : Int} (ha : lrg a) (hb : lrg b) : J a = J b ↔ a = b := by
  constructor
  · intro h
    have := congrArg Int64.toInt h
    rwa [J_toInt ha, J_toInt hb] at this
  · intro h; rw [h]
theorem J_lt {a b : Int} (ha : lrg a) (hb : lrg b) : J a < J b ↔ a < b := by
  rw [Int64.lt_iff_toInt_lt, J_toInt ha, J_toInt hb]
def lcp (a b : Int) : Int := (lg_cmp (J a) (J b)).toInt
theorem R_ldiv {m pc : Nat} {ls st : List Value} {h : Hp} {P : Value → Hp → Prop} {a b : Int} (hd : Dd m pc (.ldiv) 1) (ha : 0 ≤ a ∧ a < 2147483648) (hb : 0 < b ∧ b < 2147483648) (k : R m (pc + 1) ls (.long (J (a / b)) :: st) h P) : R m pc ls (.long (J b) :: .long (J a) :: st) h P := by
  rw [← J_div ha hb] at k
  have hne : (J b != 0) = true := by
    rw [bne_iff_ne]
    exact fun q => by
      have := (J_inj ⟨by omega, by omega⟩ (b := 0) ⟨by decide, by decide⟩).mp q
      omega
  exact R_go hd (fun _ _ => by simp only [stp, l2, hne]; rfl) k
theorem R_lrem {m pc : Nat} {ls st : List Value} {h : Hp} {P : Value → Hp → Prop} {a b : Int} (hd : Dd m pc (.lrem) 1) (ha : 0 ≤ a ∧ a < 2147483648) (hb : 0 < b ∧ b < 2147483648) (k : R m (pc + 1) ls (.long (J (a % b)) :: st) h P) : R m pc ls (.long (J b) :: .long (J a) :: st) h P := by
  rw [← J_mod ha hb] at k
  have hne : (J b != 0) = true := by
    rw [bne_iff_ne]
    exact fun q => by
      have := (J_inj ⟨by omega, by omega⟩ (b := 0) ⟨by decide, by decide⟩).mp q
      omega
  exact R_go hd (fun _ _ => by simp only [stp, l2, hne]; rfl) k
theorem R_lcmp {m pc : Nat} {ls st : List Value} {h : Hp} {P : Value → Hp → Prop} {a b : Int} (hd : Dd m pc (.lcmp) 1) (k : R m (pc + 1) ls (.int (I (lcp a b)) :: st) h P) : R m pc ls (.long (J b) :: .long (J a) :: st) h P := by
  unfold lcp at k
  rw [I_of] at k
  exact R_go hd (fun _ _ => rfl) k
theorem R_dup {m pc : Nat} {ls st : List Value} {h : Hp} {P : Value → Hp → Prop} {v : Value} (hd : Dd m pc (.dup) 1) (hv : (!isL v && (isI v || isR v)) = true) (k : R m (pc + 1) ls (v :: v :: st) h P) : R m pc ls (v :: st) h P := R_go hd (fun _ _ => by simp only [stp, v1, hv]; rfl) k
theorem R_dup2 {m pc : Nat} {ls st : List Value} {h : Hp} {P : Value → Hp → Prop} {v w : Value} (hd : Dd m pc (.dup2) 1) (hv : (!isL v && (isI v || isR v) && (!isL w && (isI w || isR w))) = true) (k : R m (pc + 1) ls (v :: w :: v :: w :: st) h P) : R m pc ls (v :: w :: st) h P := R_go hd (fun _ _ => by simp only [stp, v1, hv]; rfl) k
theorem jmp_go {pc t : Nat} {off : Int} {go : Nat → Rs} (h : (pc : Int) + off = (t : Int)) : jmp pc off go = go t := by
  unfold jmp
  have e : ((pc : Int) + off).toNat = t := by omega
  have e2 : decide (0 ≤ (pc : Int) + off) = true := decide_eq_true (by omega)
  rw [e, e2]
  rfl
theorem R_goto {m pc : Nat} {ls st : List Value} {h : Hp} {P : Value → Hp → Prop} {t : Nat} {off : Int} (hd : Dd m pc (.goto off) 3) (ht : (pc : Int) + off = (t : Int)) (k : R m t ls st h P) : R m pc ls st h P := R_go hd (fun _ _ => by simp only [stp]; exact jmp_go ht) k
theorem R_ic_eq {m pc : Nat} {ls st : List Value} {h : Hp} {P : Value → Hp → Prop} {a b off : Int} {t : Nat} (hd : Dd m pc (.if_icmp .eq off) 3) (ht : (pc : Int) + off = (t : Int)) (ha : rng a) (hb : rng b) (k1 : a = b → R m t ls st h P) (k2 : ¬ a = b → R m (pc + 3) ls st h P) : R m pc ls (.int (I b) :: .int (I a) :: st) h P := by
  have e1 : ((pc : Int) + off).toNat = t := by omega
  have e2 : decide (0 ≤ (pc : Int) + off) = true := decide_eq_true (by omega)
  by_cases q : a = b
  · exact R_go hd (fun go call => by
      have q2 := (I_inj ha hb).mpr q
      simp only [stp, i2, e2, e1, gd, brn]
      exact (if_pos trivial).trans (if_pos q2)) (k1 q)
  · exact R_go hd (fun go call => by
      have q2 := fun z => q ((I_inj ha hb).mp z)
      simp only [stp, i2, e2, e1, gd, brn]
      exact (if_pos trivial).trans (if_neg q2)) (k2 q)
theorem R_if_eq {m pc : Nat} {ls st : List Value} {h : Hp} {P : Value → Hp → Prop} {a off : Int} {t : Nat} (hd : Dd m pc (.ifCond .eq off) 3) (ht : (pc : Int) + off = (t : Int)) (ha : rng a) (k1 : a = 0 → R m t ls st h P) (k2 : ¬ a = 0 → R m (pc + 3) ls st h P) : R m pc ls (.int (I a) :: st) h P := by
  have e1 : ((pc : Int) + off).toNat = t := by omega
  have e2 : decide (0 ≤ (pc : Int) + off) = true := decide_eq_true (by omega)
  have b0 : rng 0 := ⟨by decide, by decide⟩
  by_cases q : a = 0
  · exact R_go hd (fun go call => by
      have q2 := (I_inj ha (b0)).mpr q
      simp only [stp, i1, e2, e1, gd, brn]
      exact (if_pos trivial).trans (if_pos q2)) (k1 q)
  · exact R_go hd (fun go call => by
      have q2 := fun z => q ((I_inj ha (b0)).mp z)
      simp only [stp, i1, e2, e1, gd, brn]
      exact (if_pos trivial).trans (if_neg q2)) (k2 q)
theorem R_ic_ne {m pc : Nat} {ls st : List Value} {h : Hp} {P : Value → Hp → Prop} {a b off : Int} {t : Nat} (hd : Dd m pc (.if_icmp .ne off) 3) (ht : (pc : Int) + off = (t : Int)) (ha : rng a) (hb : rng b) (k1 : a = b → R m (pc + 3) ls st h P) (k2 : ¬ a = b → R m t ls st h P) : R m pc ls (.int (I b) :: .int (I a) :: st) h P := by
  have e1 : ((pc : Int) + off).toNat = t := by omega
  have e2 : decide (0 ≤ (pc : Int) + off) = true := decide_eq_true (by omega)
  by_cases q : a = b
  · exact R_go hd (fun go call => by
      have q2 := (I_inj ha hb).mpr q
      simp only [stp, i2, e2, e1, gd, brn]
      exact (if_pos trivial).trans (if_pos q2)) (k1 q)
  · exact R_go hd (fun go call => by
      have q2 := fun z => q ((I_inj ha hb).mp z)
      simp only [stp, i2, e2, e1, gd, brn]
      exact (if_pos trivial).trans (if_neg q2)) (k2 q)
theorem R_if_ne {m pc : Nat} {ls st : List Value} {h : Hp} {P : Value → Hp → Prop} {a off : Int} {t : Nat} (hd : Dd m pc (.ifCond .ne off) 3) (ht : (pc : Int) + off = (t : Int)) (ha : rng a) (k1 : a = 0 → R m (pc + 3) ls st h P) (k2 : ¬ a = 0 → R m t ls st h P) : R m pc ls (.int (I a) :: st) h P := by
  have e1 : ((pc : Int) + off).toNat = t := by omega
  have e2 : decide (0 ≤ (pc : Int) + off) = true := decide_eq_true (by omega)
  have b0 : rng 0 := ⟨by decide, by decide⟩
  by_cases q : a = 0
  · exact R_go hd (fun go call => by
      have q2 := (I_inj ha (b0)).mpr q
      simp only [stp, i1, e2, e1, gd, brn]
      exact (if_pos trivial).trans (if_pos q2)) (k1 q)
  · exact R_go hd (fun go call => by
      have q2 := fun z => q ((I_inj ha (b0)).mp z)
      simp only [stp, i1, e2, e1, gd, brn]
      exact (if_pos trivial).trans (if_neg q2)) (k2 q)
theorem R_ic_lt {m pc : Nat} {ls st : List Value} {h : Hp} {P : Value → Hp → Prop} {a b off : Int} {t : Nat} (hd : Dd m pc (.if_icmp .lt off) 3) (ht : (pc : Int) + off = (t : Int)) (ha : rng a) (hb : rng b) (k1 : a < b → R m t ls st h P) (k2 : ¬ a < b → R m (pc + 3) ls st h P) : R m pc ls (.int (I b) :: .int (I a) :: st) h P := by
  have e1 : ((pc : Int) + off).toNat = t := by omega
  have e2 : decide (0 ≤ (pc : Int) + off) = true := decide_eq_true (by omega)
  by_cases q : a < b
  · exact R_go hd (fun go call => by
      have q2 := (I_lt ha hb).mpr q
      simp only [stp, i2, e2, e1, gd, brn]
      exact (if_pos trivial).trans (if_pos q2)) (k1 q)
  · exact R_go hd (fun go call => by
      have q2 := fun z => q ((I_lt ha hb).mp z)
      simp only [stp, i2, e2, e1, gd, brn]
      exact (if_pos trivial).trans (if_neg q2)) (k2 q)
theorem R_if_lt {m pc : Nat} {ls st : List Value} {h : Hp} {P : Value → Hp → Prop} {a off : Int} {t : Nat} (hd : Dd m pc (.ifCond .lt off) 3) (ht : (pc : Int) + off = (t : Int)) (ha : rng a) (k1 : a < 0 → R m t ls st h P) (k2 : ¬ a < 0 → R m (pc + 3) ls st h P) : R m pc ls (.int (I a) :: st) h P := by
  have e1 : ((pc : Int) + off).toNat = t := by omega
  have e2 : decide (0 ≤ (pc : Int) + off) = true := decide_eq_true (by omega)
  have b0 : rng 0 := ⟨by decide, by decide⟩
  by_cases q : a < 0
  · exact R_go hd (fun go call => by
      have q2 := (I_lt ha (b0)).mpr q
      simp only [stp, i1, e2, e1, gd, brn]
      exact (if_pos trivial).trans (if_pos q2)) (k1 q)
  · exact R_go hd (fun go call => by
      have q2 := fun z => q ((I_lt ha (b0)).mp z)
      simp only [stp, i1, e2, e1, gd, brn]
      exact (if_pos trivial).trans (if_neg q2)) (k2 q)
theorem R_ic_ge {m pc : Nat} {ls st : List Value} {h : Hp} {P : Value → Hp → Prop} {a b off : Int} {t : Nat} (hd : Dd m pc (.if_icmp .ge off) 3) (ht : (pc : Int) + off = (t : Int)) (ha : rng a) (hb : rng b) (k1 : a < b → R m (pc + 3) ls st h P) (k2 : ¬ a < b → R m t ls st h P) : R m pc ls (.int (I b) :: .int (I a) :: st) h P := by
  have e1 : ((pc : Int) + off).toNat = t := by omega
  have e2 : decide (0 ≤ (pc : Int) + off) = true := decide_eq_true (by omega)
  by_cases q : a < b
  · exact R_go hd (fun go call => by
      have q2 := (I_lt ha hb).mpr q
      simp only [stp, i2, e2, e1, gd, brn]
      exact (if_pos trivial).trans (if_pos q2)) (k1 q)
  · exact R_go hd (fun go call => by
      have q2 := fun z => q ((I_lt ha hb).mp z)
      simp only [stp, i2, e2, e1, gd, brn]
      exact (if_pos trivial).trans (if_neg q2)) (k2 q)
theorem R_if_ge {m pc : Nat} {ls st : List Value} {h : Hp} {P : Value → Hp → Prop} {a off : Int} {t : Nat} (hd : Dd m pc (.ifCond .ge off) 3) (ht : (pc : Int) + off = (t : Int)) (ha : rng a) (k1 : a < 0 → R m (pc + 3) ls st h P) (k2 : ¬ a < 0 → R m t ls st h P) : R m pc ls (.int (I a) :: st) h P := by
  have e1 : ((pc : Int) + off).toNat = t := by omega
  have e2 : decide (0 ≤ (pc : Int) + off) = true := decide_eq_true (by omega)
  have b0 : rng 0 := ⟨by decide, by decide⟩
  by_cases q : a < 0
  · exact R_go hd (fun go call => by
      have q2 := (I_lt ha (b0)).mpr q
      simp only [stp, i1, e2, e1, gd, brn]
      exact (if_pos trivial).trans (if_pos q2)) (k1 q)
  · exact R_go hd (fun go call => by
      have q2 := fun z => q ((I_lt ha (b0)).mp z)
      simp only [stp, i1, e2, e1, gd, brn]
      exact (if_pos trivial).trans (if_neg q2)) (k2 q)
theorem R_ic_gt {m pc : Nat} {ls st : List Value} {h : Hp} {P : Value → Hp → Prop} {a b off : Int} {t : Nat} (hd : Dd m pc (.if_icmp .gt off) 3) (ht : (pc : Int) + off = (t : Int)) (ha : rng a) (hb : rng b) (k1 : b < a → R m t ls st h P) (k2 : ¬ b < a → R m (pc + 3) ls st h P) : R m pc ls (.int (I b) :: .int (I a) :: st) h P := by
  have e1 : ((pc : Int) + off).toNat = t := by omega
  have e2 : decide (0 ≤ (pc : Int) + off) = true := decide_eq_true (by omega)
  by_cases q : b < a
  · exact R_go hd (fun go call => by
      have q2 := (I_lt hb ha).mpr q
      simp only [stp, i2, e2, e1, gd, brn]
      exact (if_pos trivial).trans (if_pos q2)) (k1 q)
  · exact R_go hd (fun go call => by
      have q2 := fun z => q ((I_lt hb ha).mp z)
      simp only [stp, i2, e2, e1, gd, brn]
      exact (if_pos trivial).trans (if_neg q2)) (k2 q)
theorem R_if_gt {m pc : Nat} {ls st : List Value} {h : Hp} {P : Value → Hp → Prop} {a off : Int} {t : Nat} (hd : Dd m pc (.ifCond .gt off) 3) (ht : (pc : Int) + off = (t : Int)) (ha : rng a) (k1 : 0 < a → R m t ls st h P) (k2 : ¬ 0 < a → R m (pc + 3) ls st h P) : R m pc ls (.int (I a) :: st) h P := by
  have e1 : ((pc : Int) + off).toNat = t := by omega
  have e2 : decide (0 ≤ (pc : Int) + off) = true := decide_eq_true (by omega)
  have b0 : rng 0 := ⟨by decide, by decide⟩
  by_cases q : 0 < a
  · exact R_go hd (fun go call => by
      have q2 := (I_lt (b0) ha).mpr q
      simp only [stp, i1, e2, e1, gd, brn]
      exact (if_pos trivial).trans (if_pos q2)) (k1 q)
  · exact R_go hd (fun go call => by
      have q2 := fun z => q ((I_lt (b0) ha).mp z)
      simp only [stp, i1, e2, e1, gd, brn]
      exact (if_pos trivial).trans (if_neg q2)) (k2 q)
theorem R_ic_le {m pc : Nat} {ls st : List Value} {h : Hp} {P : Value → Hp → Prop} {a b off : Int} {t : Nat} (hd : Dd m pc (.if_icmp .le off) 3) (ht : (pc : Int) + off = (t : Int)) (ha : rng a) (hb : rng b) (k1 : b < a → R m (pc + 3) ls st h P) (k2 : ¬ b < a → R m t ls st h P) : R m pc ls (.int (I b) :: .int (I a) :: st) h P := by
  have e1 : ((pc : Int) + off).toNat = t := by omega
  have e2 : decide (0 ≤ (pc : Int) + off) = true := decide_eq_true (by omega)
  by_cases q : b < a
  · exact R_go hd (fun go call => by
      have q2 := (I_lt hb ha).mpr q
      simp only [stp, i2, e2, e1, gd, brn]
      exact (if_pos trivial).trans (if_pos q2)) (k1 q)
  · exact R_go hd (fun go call => by
      have q2 := fun z => q ((I_lt hb ha).mp z)
      simp only [stp, i2, e2, e1, gd, brn]
      exact (if_pos trivial).trans (if_neg q2)) (k2 q)
theorem R_if_le {m pc : Nat} {ls st : List Value} {h : Hp} {P : Value → Hp → Prop} {a off : Int} {t : Nat} (hd : Dd m pc (.ifCond .le off) 3) (ht : (pc : Int) + off = (t : Int)) (ha : rng a) (k1 : 0 < a → R m (pc + 3) ls st h P) (k2 : ¬ 0 < a → R m t ls st h P) : R m pc ls (.int (I a) :: st) h P := by
  have e1 : ((pc : Int) + off).toNat = t := by omega
  have e2 : decide (0 ≤ (pc : Int) + off) = true := decide_eq_true (by omega)
  have b0 : rng 0 := ⟨by decide, by decide⟩
  by_cases q : 0 < a
  · exact R_go hd (fun go call => by
      have q2 := (I_lt (b0) ha).mpr q
      simp only [stp, i1, e2, e1, gd, brn]
      exact (if_pos trivial).trans (if_pos q2)) (k1 q)
  · exact R_go hd (fun go call => by
      have q2 := fun z => q ((I_lt (b0) ha).mp z)
      simp only [stp, i1, e2, e1, gd, brn]
      exact (if_pos trivial).trans (if_neg q2)) (k2 q)
theorem R_ifnull0 {m pc : Nat} {ls st : List Value} {h : Hp} {P : Value → Hp → Prop} {t : Nat} {off : Int} (hd : Dd m pc (.ifnull off) 3) (ht : (pc : Int) + off = (t : Int)) (k : R m t ls st h P) : R m pc ls (.null :: st) h P := R_go hd (fun _ _ => by simp only [stp]; exact jmp_go ht) k
theorem R_ifnull1 {m pc : Nat} {ls st : List Value} {h : Hp} {P : Value → Hp → Prop} {r : Nat} {off : Int} (hd : Dd m pc (.ifnull off) 3) (k : R m (pc + 3) ls st h P) : R m pc ls (.ref r :: st) h P := R_go hd (fun _ _ => rfl) k
theorem R_ifnn0 {m pc : Nat} {ls st : List Value} {h : Hp} {P : Value → Hp → Prop} {off : Int} (hd : Dd m pc (.ifnonnull off) 3) (k : R m (pc + 3) ls st h P) : R m pc ls (.null :: st) h P := R_go hd (fun _ _ => rfl) k
theorem R_ifnn1 {m pc : Nat} {ls st : List Value} {h : Hp} {P : Value → Hp → Prop} {r t : Nat} {off : Int} (hd : Dd m pc (.ifnonnull off) 3) (ht : (pc : Int) + off = (t : Int)) (k : R m t ls st h P) : R m pc ls (.ref r :: st) h P := R_go hd (fun _ _ => by simp only [stp]; exact jmp_go ht) k
theorem R_tsw {m pc : Nat} {ls st : List Value} {h : Hp} {P : Value → Hp → Prop} {d lo hi : Int} {offs : Array Int} {len : Nat} {a : Int} {td : Nat} {ts : List Nat} (hd : Dd m pc (.tableswitch d lo hi offs) len) (ha : rng a) (hn : offs.size = ts.length) (hlo : hi = lo + (ts.length : Int) - 1) (hts : ((List.range ts.length).all (fun i => decide ((pc : Int) + offs[i]! = (ts[i]! : Nat)))) = true) (htd : (pc : Int) + d = (td : Int))
    (k : ∀ i : Nat, i < ts.length → a = lo + (i : Int) → R m ts[i]! ls st h P) (kd : a < lo ∨ hi < a → R m td ls st h P) : R m pc ls (.int (I a) :: st) h P := by
  by_cases q : a < lo ∨ hi < a
  · exact R_go hd (fun go call => by
      simp only [stp, i1, I_toInt ha, if_pos q]
      exact jmp_go htd) (kd q)
  · have hi2 : (a - lo).toNat < ts.length := by omega
    have h3 := range_all hts hi2
    rw [decide_eq_true_eq, getElem!_pos offs _ (by omega)] at h3
    refine R_go hd (fun go call => ?_) (k (a - lo).toNat hi2 (by omega))
    simp only [stp, i1, I_toInt ha, if_neg q]
    rw [Array.getElem?_eq_getElem (by omega)]
    exact jmp_go h3
theorem R_geti {m pc : Nat} {ls st : List Value} {h : Hp} {P : Value → Hp → Prop} {j ci kk r : Nat} (hd : Dd m pc (.getfield j) 3) (hf : fld (mO m) j = some (ci, kk)) (hr : rfs ci kk = false) (ht : tagok ci (tg h r) = true) (k : R m (pc + 3) ls (.int (I (iv h r (kk : Nat))) :: st) h P) : R m pc ls (.ref r :: st) h P := by
  refine R_go hd (fun go call => ?_) k
  simp only [stp, hf, r1, ht, gd, hr]
  rfl
theorem R_getr {m pc : Nat} {ls st : List Value} {h : Hp} {P : Value → Hp → Prop} {j ci kk r q : Nat} (hd : Dd m pc (.getfield j) 3) (hf : fld (mO m) j = some (ci, kk)) (hr : rfs ci kk = true) (ht : tagok ci (tg h r) = true) (hl : fl h r kk = true) (hq : child r kk = q) (hz : tg h q ≠ 0) (k : R m (pc + 3) ls (.ref q :: st) h P) : R m pc ls (.ref r :: st) h P := by
  subst hq
  refine R_go hd (fun go call => ?_) k
  have e : (fl h r kk && tg h (child r kk) != 0) = true := by rw [hl]; exact bne_iff_ne.mpr hz
  simp only [stp, hf, r1, ht, hr, e]
  rfl
theorem R_puti {m pc : Nat} {ls st : List Value} {h : Hp} {P : Value → Hp → Prop} {j ci kk r : Nat} {a v : Int} (hd : Dd m pc (.putfield j) 3) (hf : fld (mO m) j = some (ci, kk)) (hp : pok m ci kk = true) (hr : rfs ci kk = false) (ht : tagok ci (tg h r) = true) (hb : (cTy ci kk == .int || bz (I a)) = true) (hv : wr a = v) (k : R m (pc + 3) ls (st) (setI h r (kk : Nat) v) P) : R m pc ls (.int (I a) :: .ref r :: st) h P := by
  subst hv
  refine R_go hd (fun go call => ?_) k
  simp only [stp, hf, hp, gd, ht, hr, hb]
  rfl
theorem R_putr {m pc : Nat} {ls st : List Value} {h : Hp} {P : Value → Hp → Prop} {j ci kk r q : Nat} (hd : Dd m pc (.putfield j) 3) (hf : fld (mO m) j = some (ci, kk)) (hp : pok m ci kk = true) (hr : rfs ci kk = true) (ht : tagok ci (tg h r) = true) (hq : child r kk = q) (k : R m (pc + 3) ls (st) (setF h r kk) P) : R m pc ls (.ref q :: .ref r :: st) h P := by
  subst hq
  refine R_go hd (fun go call => ?_) k
  simp only [stp, hf, hp, gd, ht, hr]
  rfl
theorem R_putm {m pc : Nat} {ls st : List Value} {h : Hp} {P : Value → Hp → Prop} {j ci kk r q : Nat} (hd : Dd m pc (.putfield j) 3) (hf : fld (mO m) j = some (ci, kk)) (hp : pok m ci kk = true) (hr : rfs ci kk = true) (ht : tagok ci (tg h r) = true) (hq : child r kk = q) (hne : q ≠ 38) (hg : (mv m && gw q && !gw r && decide (q < 37 ∨ 38 < q) && tg h 38 == 20 && ng ls && ng st) = true) (k : R m (pc + 3) ls (st) (mov h r kk q 38) P) : R m pc ls (.ref 38 :: .ref r :: st) h P := by
  subst hq
  refine R_go hd (fun go call => ?_) k
  simp only [Bool.and_eq_true] at hg
  obtain ⟨⟨⟨⟨⟨⟨g1, g2⟩, g3⟩, g4⟩, g5⟩, g6⟩, g7⟩ := hg
  simp only [stp, hf, hp, gd, ht, hr, g1, g2, g3, g4, g5, g6, g7, if_neg (Ne.symm hne)]
  rfl
theorem R_getst {m pc : Nat} {ls st : List Value} {h : Hp} {P : Value → Hp → Prop} {j r : Nat} (hd : Dd m pc (.getstatic j) 3) (hf : stf (mO m) j = some r) (ht : tg h r = 30) (k : R m (pc + 3) ls (.ref r :: st) h P) : R m pc ls (st) h P := by
  refine R_go hd (fun go call => ?_) k
  simp only [stp, hf, ht]
  rfl
theorem inr_I {i : Int} {n : Nat} (h1 : 0 ≤ i) (h2 : i < n) (h3 : (n : Int) ≤ 2147483648) : inr (I i) n = true ∧ (I i).toInt = i := by
  have e : (I i).toInt = i := I_toInt ⟨by omega, by omega⟩
  refine ⟨?_, e⟩
  unfold inr
  rw [e, decide_eq_true h1, decide_eq_true h2]
  rfl
theorem R_iaload {m pc : Nat} {ls st : List Value} {h : Hp} {P : Value → Hp → Prop} {r : Nat} {i : Int} (hd : Dd m pc (.iaload) 1) (ht : tg h r = 20 ∨ tg h r = 30) (hn : (ln h r : Int) ≤ 2147483648) (h1 : 0 ≤ i) (h2 : i < ln h r) (k : R m (pc + 1) ls (.int (I (iv h r i)) :: st) h P) : R m pc ls (.int (I i) :: .ref r :: st) h P := by
  obtain ⟨e1, e2⟩ := inr_I h1 h2 hn
  have e3 : ((tg h r == 20 || tg h r == 30) && inr (I i) (ln h r)) = true := by rw [e1]; rcases ht with q | q <;> rw [q] <;> rfl
  rw [← e2] at k
  refine R_go hd (fun go call => ?_) k
  simp only [stp, ri, e3]
  rw [e2]
  rfl
theorem R_iastore {m pc : Nat} {ls st : List Value} {h : Hp} {P : Value → Hp → Prop} {r : Nat} {i a v : Int} (hd : Dd m pc (.iastore) 1) (ht : tg h r = 20) (hn : (ln h r : Int) ≤ 2147483648) (h1 : 0 ≤ i) (h2 : i < ln h r) (hv : wr a = v) (k : R m (pc + 1) ls (st) (setI h r i v) P) : R m pc ls (.int (I a) :: .int (I i) :: .ref r :: st) h P := by
  obtain ⟨e1, e2⟩ := inr_I h1 h2 hn
  subst hv
  have e3 : (tg h r == 20 && inr (I i) (ln h r)) = true := by rw [e1, ht]; rfl
  refine R_go hd (fun go call => ?_) k
  simp only [stp, rii, e3, e2]
  rfl
theorem R_aaload {m pc : Nat} {ls st : List Value} {h : Hp} {P : Value → Hp → Prop} {r q : Nat} {i : Int} (hd : Dd m pc (.aaload) 1) (ht : 21 ≤ tg h r ∧ tg h r ≤ 25) (hn : (ln h r : Int) ≤ 2147483648) (h1 : 0 ≤ i) (h2 : i < ln h r) (hl : fl h r i.toNat = true) (hq : child r i.toNat = q) (hz : tg h q ≠ 0) (k : R m (pc + 1) ls (.ref q :: st) h P) : R m pc ls (.int (I i) :: .ref r :: st) h P := by
  obtain ⟨e1, e2⟩ := inr_I h1 h2 hn
  subst hq
  refine R_go hd (fun go call => ?_) k
  have e3 : (decide (21 ≤ tg h r) && decide (tg h r ≤ 25) && inr (I i) (ln h r) && fl h r (I i).toInt.toNat && tg h (child r (I i).toInt.toNat) != 0) = true := by
    rw [e1, e2, hl, decide_eq_true ht.1, decide_eq_true ht.2]
    exact bne_iff_ne.mpr hz
  simp only [stp, ri, e3]
  rw [e2]
  rfl
theorem R_aastore {m pc : Nat} {ls st : List Value} {h : Hp} {P : Value → Hp → Prop} {r q : Nat} {i : Int} (hd : Dd m pc (.aastore) 1) (he : elok (tg h r) (tg h q) = true) (hn : (ln h r : Int) ≤ 2147483648) (h1 : 0 ≤ i) (h2 : i < ln h r) (hq : child r i.toNat = q) (k : R m (pc + 1) ls (st) (setF h r i.toNat) P) : R m pc ls (.ref q :: .int (I i) :: .ref r :: st) h P := by
  obtain ⟨e1, e2⟩ := inr_I h1 h2 hn
  refine R_go hd (fun go call => ?_) k
  simp only [stp, rir, he, e1, e2, gd]
  rw [if_pos hq.symm]
  rfl
theorem R_aastorem {m pc : Nat} {ls st : List Value} {h : Hp} {P : Value → Hp → Prop} {r q : Nat} {i : Int} (hd : Dd m pc (.aastore) 1) (he : elok (tg h r) (tg h 37) = true) (hn : (ln h r : Int) ≤ 2147483648) (h1 : 0 ≤ i) (h2 : i < ln h r) (hq : child r i.toNat = q) (hg : (tg h r == 21 && mv m && gw q && !gw r && decide (q < 37) && ng ls && ng st) = true) (k : R m (pc + 1) ls (st) (mov h r i.toNat q 37) P) : R m pc ls (.ref 37 :: .int (I i) :: .ref r :: st) h P := by
  obtain ⟨e1, e2⟩ := inr_I h1 h2 hn
  subst hq
  simp only [Bool.and_eq_true] at hg
  obtain ⟨⟨⟨⟨⟨⟨g1, g2⟩, g3⟩, g4⟩, g5⟩, g6⟩, g7⟩ := hg
  have hne : ¬ 37 = child r i.toNat := Ne.symm (child_ne _ _).1
  refine R_go hd (fun go call => ?_) k
  simp only [stp, rir, he, e1, e2, gd, g1, g2, g3, g4, g5, g6, g7, if_neg hne]
  rfl
theorem R_alen {m pc : Nat} {ls st : List Value} {h : Hp} {P : Value → Hp → Prop} {r : Nat} (hd : Dd m pc (.arraylength) 1) (ht : (20 ≤ tg h r ∧ tg h r ≤ 25) ∨ tg h r = 30) (k : R m (pc + 1) ls (.int (I (ln h r : Nat)) :: st) h P) : R m pc ls (.ref r :: st) h P := by
  have e : (decide (20 ≤ tg h r) && decide (tg h r ≤ 25) || tg h r == 30) = true := by
    rcases ht with q | q
    · rw [decide_eq_true q.1, decide_eq_true q.2]; rfl
    · rw [q]; rfl
  refine R_go hd (fun go call => ?_) k
  simp only [stp, r1, e]
  rfl
theorem R_new {m pc : Nat} {ls st : List Value} {h : Hp} {P : Value → Hp → Prop} {j ci q : Nat} (hd : Dd m pc (.new j) 3) (hf : newt (mO m) j = some ci) (hm : mv m = true) (hq : site m pc ls h = q) (h0 : tg h q = 0) (h5 : q < 500) (k : R m (pc + 3) ls (.ref q :: st) (mk h q (ci + 1) 0 (cSz ci)) P) : R m pc ls (st) h P := by
  subst hq
  have e : (mv m && tg h (site m pc ls h) == 0 && decide (site m pc ls h < 500)) = true := by rw [hm, h0, decide_eq_true h5]; rfl
  refine R_go hd (fun go call => ?_) k
  simp only [stp, hf, e]
  rfl
theorem R_newa {m pc : Nat} {ls st : List Value} {h : Hp} {P : Value → Hp → Prop} {q : Nat} {a : Int} (hd : Dd m pc (.newarray .int) 2) (hm : mv m = true) (hq : site m pc ls h = q) (h0 : tg h q = 0) (h5 : q < 500) (h1 : 0 ≤ a) (h2 : a < 1000000) (k : R m (pc + 2) ls (.ref q :: st) (mk h q 20 a.toNat a.toNat) P) : R m pc ls (.int (I a) :: st) h P := by
  subst hq
  have e0 : (I a).toInt = a := I_toInt ⟨by omega, by omega⟩
  have e : (mv m && ArrayType.int == .int && decide (0 ≤ (I a).toInt) && decide ((I a).toInt < 1000000) && tg h (site m pc ls h) == 0 && decide (site m pc ls h < 500)) = true := by
    rw [hm, h0, e0, decide_eq_true h5, decide_eq_true h1, decide_eq_true h2]
    rfl
  refine R_go hd (fun go call => ?_) k
  simp only [stp, i1, e]
  rw [e0]
  rfl
theorem R_anew {m pc : Nat} {ls st : List Value} {h : Hp} {P : Value → Hp → Prop} {j t : Nat} {q : Nat} {a : Int} (hd : Dd m pc (.anewarray j) 3) (hf : anwt (mO m) j = some t) (hm : mv m = true) (hq : site m pc ls h = q) (h0 : tg h q = 0) (h5 : q < 500) (h1 : 0 ≤ a) (h2 : a < 1000000) (k : R m (pc + 3) ls (.ref q :: st) (mk h q t a.toNat a.toNat) P) : R m pc ls (.int (I a) :: st) h P := by
  subst hq
  have e0 : (I a).toInt = a := I_toInt ⟨by omega, by omega⟩
  have e : (mv m && decide (0 ≤ (I a).toInt) && decide ((I a).toInt < 1000000) && tg h (site m pc ls h) == 0 && decide (site m pc ls h < 500)) = true := by
    rw [hm, h0, e0, decide_eq_true h5, decide_eq_true h1, decide_eq_true h2]
    rfl
  refine R_go hd (fun go call => ?_) k
  simp only [stp, hf, i1, e]
  rw [e0]
  rfl
theorem R_ireturn {m pc : Nat} {ls st : List Value} {h : Hp} {P : Value → Hp → Prop} {x : Int32} (hd : Dd m pc .ireturn 1) (hr : (mR m == some .int || (mR m == some .boolean && bz x)) = true) (k : P (.int x) h) : R m pc ls [.int x] h P := R_end hd (fun _ _ => by simp only [stp, hr]; rfl) k
theorem R_lreturn {m pc : Nat} {ls st : List Value} {h : Hp} {P : Value → Hp → Prop} {x : Int64} (hd : Dd m pc .lreturn 1) (hr : (mR m == some .long) = true) (k : P (.long x) h) : R m pc ls [.long x] h P := R_end hd (fun _ _ => by simp only [stp, hr]; rfl) k
theorem R_areturn {m pc : Nat} {ls st : List Value} {h : Hp} {P : Value → Hp → Prop} {v : Value} (hd : Dd m pc .areturn 1) (hr : (isR v && (match mR m with | some (.object _) => true | some (.array _) => true | _ => false)) = true) (k : P v h) : R m pc ls [v] h P := R_end hd (fun _ _ => by simp only [stp]; exact (congrArg (fun b => gd b _) hr).trans rfl) k
theorem R_return {m pc : Nat} {ls st : List Value} {h : Hp} {P : Value → Hp → Prop} (hd : Dd m pc .return_ 1) (hr : (mR m == none) = true) (k : P .null h) : R m pc ls [] h P := R_end hd (fun _ _ => by simp only [stp, hr]; rfl) k
theorem R_call0 {m pc : Nat} {ls st : List Value} {h : Hp} {P : Value → Hp → Prop} {j y : Nat} {s a e : List Value} (hd : Dd m pc (.invokestatic j) 3) (hc : cal (mO m) j = some (0, y)) (hs : decide (mA y ≤ st.length) = true) (h1 : st.drop (mA y) = s) (h2 : takeA (mA y) st = a) (hg : okg m y ls s a = true) (hent : ent y a = e)
    (k : R y 0 e [] h (fun v h2 => R m (pc + 3) ls (back y v s) h2 P)) : R m pc ls st h P := R_cll hd (fun go call => by
  simp only [stp, hc, h1, h2, hs, gd]
  rfl) hg hent k
theorem R_call3 {m pc : Nat} {ls st : List Value} {h : Hp} {P : Value → Hp → Prop} {j y : Nat} {s a e : List Value} (hd : Dd m pc (.invokestatic j) 3) (hc : cal (mO m) j = some (3, y)) (hs : decide (mA y ≤ st.length) = true) (h1 : st.drop (mA y) = s) (h2 : takeA (mA y) st = a) (hg : okg m y ls s a = true) (hent : ent y a = e)
    (k : R y 0 e [] h (fun v h2 => R m (pc + 3) ls (back y v s) h2 P)) : R m pc ls st h P := R_cll hd (fun go call => by
  simp only [stp, hc, h1, h2, hs, gd]
  rfl) hg hent k
theorem R_call1 {m pc : Nat} {ls st : List Value} {h : Hp} {P : Value → Hp → Prop} {j y r : Nat} {s a e : List Value} (hd : Dd m pc (.invokevirtual j) 3) (hc : cal (mO m) j = some (1, y)) (ht : tg h r = mO y + 1) (hs : decide (mA y ≤ st.length) = true) (h1 : st.drop (mA y) = .ref r :: s) (h2 : takeA (mA y) st = a) (hg : okg m y ls s (.ref r :: a) = true) (hent : ent y (.ref r :: a) = e)
    (k : R y 0 e [] h (fun v h2 => R m (pc + 3) ls (back y v s) h2 P)) : R m pc ls st h P := R_cll hd (fun go call => by
  have e1 : (tg h r == mO y + 1) = true := beq_iff_eq.mpr ht
  simp only [stp, hc, onobj, r1, h1, h2, hs, gd, e1]
  rfl) hg hent k
theorem R_call2 {m pc : Nat} {ls st : List Value} {h : Hp} {P : Value → Hp → Prop} {j y r : Nat} {s a e : List Value} (hd : Dd m pc (.invokespecial j) 3) (hc : cal (mO m) j = some (2, y)) (hs : decide (mA y ≤ st.length) = true) (h1 : st.drop (mA y) = .ref r :: s) (h2 : takeA (mA y) st = a) (hg : okg m y ls s (.ref r :: a) = true) (hent : ent y (.ref r :: a) = e)
    (k : R y 0 e [] h (fun v h2 => R m (pc + 3) ls (back y v s) h2 P)) : R m pc ls st h P := R_cll hd (fun go call => by
  simp only [stp, hc, onobj, r1, h1, h2, hs, gd]
  rfl) hg hent k
theorem R_call4 {m pc : Nat} {ls st : List Value} {h : Hp} {P : Value → Hp → Prop} {j y r : Nat} {s a e : List Value} (hd : Dd m pc (.invokespecial j) 3) (hc : cal (mO m) j = some (4, y)) (hs : decide (mA y ≤ st.length) = true) (h1 : st.drop (mA y) = .ref r :: s) (h2 : takeA (mA y) st = a) (hg : okg m y ls s (.ref r :: a) = true) (hent : ent y (.ref r :: a) = e)
    (k : R y 0 e [] h (fun v h2 => R m (pc + 3) ls (back y v s) h2 P)) : R m pc ls st h P := R_cll hd (fun go call => by
  simp only [stp, hc, onobj, r1, h1, h2, hs, gd]
  rfl) hg hent k
theorem R_call6 {m pc : Nat} {ls st : List Value} {h : Hp} {P : Value → Hp → Prop} {j y r : Nat} {s a e : List Value} (hd : Dd m pc (.invokespecial j) 3) (hc : cal (mO m) j = some (6, y)) (ht : tg h r = mO m + 1) (hs : decide (mA y ≤ st.length) = true) (h1 : st.drop (mA y) = .ref r :: s) (h2 : takeA (mA y) st = a) (hg : okg m y ls s (.ref r :: a) = true) (hent : ent y (.ref r :: a) = e)
    (k : R y 0 e [] h (fun v h2 => R m (pc + 3) ls (back y v s) h2 P)) : R m pc ls st h P := R_cll hd (fun go call => by
  have e1 : (tg h r == mO m + 1) = true := beq_iff_eq.mpr ht
  simp only [stp, hc, onobj, r1, h1, h2, hs, gd, e1]
  rfl) hg hent k
theorem R_call5 {m pc : Nat} {ls st : List Value} {h : Hp} {P : Value → Hp → Prop} {j y z r : Nat} {s a e : List Value} (hd : Dd m pc (.invokevirtual j) 3) (hc : cal (mO m) j = some (5, y)) (hv : vir (mO m) j (tg h r) = some z) (hs : decide (mA y ≤ st.length) = true) (h1 : st.drop (mA y) = .ref r :: s) (h2 : takeA (mA y) st = a) (hg : okg m z ls s (.ref r :: a) = true) (hent : ent z (.ref r :: a) = e)
    (k : R z 0 e [] h (fun v h2 => R m (pc + 3) ls (back z v s) h2 P)) : R m pc ls st h P := R_cll hd (fun go call => by
  simp only [stp, hc, onobj, r1, h1, h2, hs, gd, hv]
  rfl) hg hent k
theorem R_call8 {m pc : Nat} {ls st : List Value} {h : Hp} {P : Value → Hp → Prop} {j y r : Nat} (hd : Dd m pc (.invokespecial j) 3) (hc : cal (mO m) j = some (8, y)) (hg : (decide (1 ≤ mF m) && decide (20 ≤ mLc m) && decide (st.length ≤ 4)) = true) (k : R m (pc + 3) ls (st) h P) : R m pc ls (.ref r :: st) h P := R_go hd (fun _ _ => by simp only [stp, hc, r1, hg]; rfl) k
theorem R_call7 {m pc : Nat} {ls st : List Value} {h : Hp} {P : Value → Hp → Prop} {j y r d : Nat} {n dp sp : Int} (hd : Dd m pc (.invokestatic j) 3) (hc : cal (mO m) j = some (7, y)) (tr : tg h r = 20) (td : tg h d = 20) (g1 : 0 ≤ n ∧ n < 2147483648) (g2 : 0 ≤ sp ∧ sp < 2147483648) (g3 : 0 ≤ dp ∧ dp < 2147483648) (g4 : sp + n ≤ ln h r) (g5 : dp + n ≤ ln h d) (hg : (decide (st.length ≤ 4) && decide (1 ≤ mF m) && decide (80 ≤ mLc m)) = true) (k : R m (pc + 3) ls (st) (setR h d (cpy (iv h r) (iv h d) sp dp n)) P) : R m pc ls (.int (I n) :: .int (I dp) :: .ref d :: .int (I sp) :: .ref r :: st) h P := by
  have e1 : (I n).toInt = n := I_toInt ⟨by omega, by omega⟩
  have e2 : (I sp).toInt = sp := I_toInt ⟨by omega, by omega⟩
  have e3 : (I dp).toInt = dp := I_toInt ⟨by omega, by omega⟩
  simp only [Bool.and_eq_true] at hg
  refine R_go hd (fun go call => ?_) k
  have e4 : (tg h r == 20 && tg h d == 20 && decide (0 ≤ (I n).toInt) && decide (0 ≤ (I sp).toInt) && decide (0 ≤ (I dp).toInt) && decide ((I sp).toInt.toNat + (I n).toInt.toNat ≤ ln h r) && decide ((I dp).toInt.toNat + (I n).toInt.toNat ≤ ln h d) && decide (st.length ≤ 4) && decide (1 ≤ mF m) && decide (80 ≤ mLc m)) = true := by
    rw [e1, e2, e3, tr, td, hg.1.1, hg.1.2, hg.2, decide_eq_true g1.1, decide_eq_true g2.1, decide_eq_true g3.1, decide_eq_true (by omega), decide_eq_true (by omega)]
    rfl
  simp only [stp, hc, e4]
  rw [e1, e2, e3]
  rfl
end
