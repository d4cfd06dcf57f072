-- ===== PART A: goes FIRST, ahead of the names: the tables' words, and 'selects' of the private methods out of them =====
/-- a private method of a class that the tables say can be made, by its rows of tables_1 -/
def lw_okq (q : MethodName × Nat) : Prop := (q.1.cls ≠ "java/lang/invoke/MethodHandle" ∧ q.1.cls ≠ "java/lang/invoke/VarHandle") ∧ Cond.instantiable q.1.cls q.2 ∈ tables_1 ∧ Cond.privateMethod q.1 ∈ tables_1 ∧ Cond.instanceMethod q.1 ∈ tables_1
theorem lw_p0 : lw_okq (⟨"NutsUp", "refusalOfCells", "(IIII)I"⟩, 17) := ⟨⟨by decide +kernel, by decide +kernel⟩, List.mem_of_getElem? (i := 19) (by decide +kernel), List.mem_of_getElem? (i := 191) (by decide +kernel), List.mem_of_getElem? (i := 192) (by decide +kernel)⟩
theorem lw_p1 : lw_okq (⟨"NutsUp", "faulted", "(I)I"⟩, 17) := ⟨⟨by decide +kernel, by decide +kernel⟩, List.mem_of_getElem? (i := 19) (by decide +kernel), List.mem_of_getElem? (i := 201) (by decide +kernel), List.mem_of_getElem? (i := 202) (by decide +kernel)⟩
theorem lw_p2 : lw_okq (⟨"NutsUp", "widenRows", "()V"⟩, 17) := ⟨⟨by decide +kernel, by decide +kernel⟩, List.mem_of_getElem? (i := 19) (by decide +kernel), List.mem_of_getElem? (i := 297) (by decide +kernel), List.mem_of_getElem? (i := 298) (by decide +kernel)⟩
theorem lw_p3 : lw_okq (⟨"NutsUp", "noGrain", "(I)Z"⟩, 17) := ⟨⟨by decide +kernel, by decide +kernel⟩, List.mem_of_getElem? (i := 19) (by decide +kernel), List.mem_of_getElem? (i := 311) (by decide +kernel), List.mem_of_getElem? (i := 312) (by decide +kernel)⟩
theorem lw_p4 : lw_okq (⟨"NutsUp$Box", "madeRow", "(I)I"⟩, 5) := ⟨⟨by decide +kernel, by decide +kernel⟩, List.mem_of_getElem? (i := 27) (by decide +kernel), List.mem_of_getElem? (i := 319) (by decide +kernel), List.mem_of_getElem? (i := 320) (by decide +kernel)⟩
theorem lw_p5 : lw_okq (⟨"NutsUp", "noPlace", "(I)Z"⟩, 17) := ⟨⟨by decide +kernel, by decide +kernel⟩, List.mem_of_getElem? (i := 19) (by decide +kernel), List.mem_of_getElem? (i := 335) (by decide +kernel), List.mem_of_getElem? (i := 336) (by decide +kernel)⟩
theorem lw_p6 : lw_okq (⟨"NutsUp", "noBox", "()Z"⟩, 17) := ⟨⟨by decide +kernel, by decide +kernel⟩, List.mem_of_getElem? (i := 19) (by decide +kernel), List.mem_of_getElem? (i := 344) (by decide +kernel), List.mem_of_getElem? (i := 345) (by decide +kernel)⟩
theorem lw_p7 : lw_okq (⟨"NutsUp", "noLie", "(I)Z"⟩, 17) := ⟨⟨by decide +kernel, by decide +kernel⟩, List.mem_of_getElem? (i := 19) (by decide +kernel), List.mem_of_getElem? (i := 352) (by decide +kernel), List.mem_of_getElem? (i := 353) (by decide +kernel)⟩
theorem lw_p8 : lw_okq (⟨"NutsUp", "lawInForce", "()LNutsUp$Law;"⟩, 17) := ⟨⟨by decide +kernel, by decide +kernel⟩, List.mem_of_getElem? (i := 19) (by decide +kernel), List.mem_of_getElem? (i := 446) (by decide +kernel), List.mem_of_getElem? (i := 447) (by decide +kernel)⟩
theorem lw_p9 : lw_okq (⟨"NutsUp", "shakeOnce", "(LNutsUp$Law;I)I"⟩, 17) := ⟨⟨by decide +kernel, by decide +kernel⟩, List.mem_of_getElem? (i := 19) (by decide +kernel), List.mem_of_getElem? (i := 462) (by decide +kernel), List.mem_of_getElem? (i := 463) (by decide +kernel)⟩
theorem lw_p10 : lw_okq (⟨"NutsUp", "motionOf", "(LNutsUp$Law;I)LNutsUp$Motion;"⟩, 17) := ⟨⟨by decide +kernel, by decide +kernel⟩, List.mem_of_getElem? (i := 19) (by decide +kernel), List.mem_of_getElem? (i := 466) (by decide +kernel), List.mem_of_getElem? (i := 467) (by decide +kernel)⟩
theorem lw_p11 : lw_okq (⟨"NutsUp$Rule", "pairsShaken", "(III)I"⟩, 2) := ⟨⟨by decide +kernel, by decide +kernel⟩, List.mem_of_getElem? (i := 74) (by decide +kernel), List.mem_of_getElem? (i := 494) (by decide +kernel), List.mem_of_getElem? (i := 495) (by decide +kernel)⟩
theorem lw_p12 : lw_okq (⟨"NutsUp", "turned", "(I)I"⟩, 17) := ⟨⟨by decide +kernel, by decide +kernel⟩, List.mem_of_getElem? (i := 19) (by decide +kernel), List.mem_of_getElem? (i := 520) (by decide +kernel), List.mem_of_getElem? (i := 521) (by decide +kernel)⟩
theorem lw_p13 : lw_okq (⟨"NutsUp", "spooned", "(I)I"⟩, 17) := ⟨⟨by decide +kernel, by decide +kernel⟩, List.mem_of_getElem? (i := 19) (by decide +kernel), List.mem_of_getElem? (i := 532) (by decide +kernel), List.mem_of_getElem? (i := 533) (by decide +kernel)⟩
theorem lw_p14 : lw_okq (⟨"NutsUp", "soonBy", "(LNutsUp$Rule;II)I"⟩, 17) := ⟨⟨by decide +kernel, by decide +kernel⟩, List.mem_of_getElem? (i := 19) (by decide +kernel), List.mem_of_getElem? (i := 560) (by decide +kernel), List.mem_of_getElem? (i := 561) (by decide +kernel)⟩
theorem lw_p15 : lw_okq (⟨"NutsUp", "measured", "(II)I"⟩, 17) := ⟨⟨by decide +kernel, by decide +kernel⟩, List.mem_of_getElem? (i := 19) (by decide +kernel), List.mem_of_getElem? (i := 582) (by decide +kernel), List.mem_of_getElem? (i := 583) (by decide +kernel)⟩
def lw_privs_1 : List (MethodName × Nat) := [(⟨"NutsUp", "refusalOfCells", "(IIII)I"⟩, 17), (⟨"NutsUp", "faulted", "(I)I"⟩, 17), (⟨"NutsUp", "widenRows", "()V"⟩, 17), (⟨"NutsUp", "noGrain", "(I)Z"⟩, 17), (⟨"NutsUp$Box", "madeRow", "(I)I"⟩, 5), (⟨"NutsUp", "noPlace", "(I)Z"⟩, 17), (⟨"NutsUp", "noBox", "()Z"⟩, 17), (⟨"NutsUp", "noLie", "(I)Z"⟩, 17), (⟨"NutsUp", "lawInForce", "()LNutsUp$Law;"⟩, 17), (⟨"NutsUp", "shakeOnce", "(LNutsUp$Law;I)I"⟩, 17), (⟨"NutsUp", "motionOf", "(LNutsUp$Law;I)LNutsUp$Motion;"⟩, 17), (⟨"NutsUp$Rule", "pairsShaken", "(III)I"⟩, 2), (⟨"NutsUp", "turned", "(I)I"⟩, 17), (⟨"NutsUp", "spooned", "(I)I"⟩, 17), (⟨"NutsUp", "soonBy", "(LNutsUp$Rule;II)I"⟩, 17), (⟨"NutsUp", "measured", "(II)I"⟩, 17)]
theorem lw_r1 : ∀ q ∈ lw_privs_1, lw_okq q := List.forall_mem_cons.mpr ⟨lw_p0, List.forall_mem_cons.mpr ⟨lw_p1, List.forall_mem_cons.mpr ⟨lw_p2, List.forall_mem_cons.mpr ⟨lw_p3, List.forall_mem_cons.mpr ⟨lw_p4, List.forall_mem_cons.mpr ⟨lw_p5, List.forall_mem_cons.mpr ⟨lw_p6, List.forall_mem_cons.mpr ⟨lw_p7, List.forall_mem_cons.mpr ⟨lw_p8, List.forall_mem_cons.mpr ⟨lw_p9, List.forall_mem_cons.mpr ⟨lw_p10, List.forall_mem_cons.mpr ⟨lw_p11, List.forall_mem_cons.mpr ⟨lw_p12, List.forall_mem_cons.mpr ⟨lw_p13, List.forall_mem_cons.mpr ⟨lw_p14, List.forall_mem_cons.mpr ⟨lw_p15, fun _ h => absurd h List.not_mem_nil⟩⟩⟩⟩⟩⟩⟩⟩⟩⟩⟩⟩⟩⟩⟩⟩
theorem lw_p16 : lw_okq (⟨"NutsUp$Box", "sizeIn", "(II)I"⟩, 5) := ⟨⟨by decide +kernel, by decide +kernel⟩, List.mem_of_getElem? (i := 27) (by decide +kernel), List.mem_of_getElem? (i := 590) (by decide +kernel), List.mem_of_getElem? (i := 591) (by decide +kernel)⟩
theorem lw_p17 : lw_okq (⟨"NutsUp", "spread", "(LNutsUp$Law;IIII)V"⟩, 17) := ⟨⟨by decide +kernel, by decide +kernel⟩, List.mem_of_getElem? (i := 19) (by decide +kernel), List.mem_of_getElem? (i := 603) (by decide +kernel), List.mem_of_getElem? (i := 604) (by decide +kernel)⟩
theorem lw_p18 : lw_okq (⟨"NutsUp", "moved", "(LNutsUp$Law;II)I"⟩, 17) := ⟨⟨by decide +kernel, by decide +kernel⟩, List.mem_of_getElem? (i := 19) (by decide +kernel), List.mem_of_getElem? (i := 612) (by decide +kernel), List.mem_of_getElem? (i := 613) (by decide +kernel)⟩
theorem lw_p19 : lw_okq (⟨"NutsUp", "lookFar", "(LNutsUp$Motion;I)V"⟩, 17) := ⟨⟨by decide +kernel, by decide +kernel⟩, List.mem_of_getElem? (i := 19) (by decide +kernel), List.mem_of_getElem? (i := 632) (by decide +kernel), List.mem_of_getElem? (i := 633) (by decide +kernel)⟩
theorem lw_p20 : lw_okq (⟨"NutsUp", "isAsRead", "(I)Z"⟩, 17) := ⟨⟨by decide +kernel, by decide +kernel⟩, List.mem_of_getElem? (i := 19) (by decide +kernel), List.mem_of_getElem? (i := 663) (by decide +kernel), List.mem_of_getElem? (i := 664) (by decide +kernel)⟩
theorem lw_p21 : lw_okq (⟨"NutsUpModel", "against", "(IIII)I"⟩, 37) := ⟨⟨by decide +kernel, by decide +kernel⟩, List.mem_of_getElem? (i := 766) (by decide +kernel), List.mem_of_getElem? (i := 897) (by decide +kernel), List.mem_of_getElem? (i := 898) (by decide +kernel)⟩
theorem lw_p22 : lw_okq (⟨"NutsUpModel", "fails", "(I)I"⟩, 37) := ⟨⟨by decide +kernel, by decide +kernel⟩, List.mem_of_getElem? (i := 766) (by decide +kernel), List.mem_of_getElem? (i := 901) (by decide +kernel), List.mem_of_getElem? (i := 902) (by decide +kernel)⟩
theorem lw_p23 : lw_okq (⟨"NutsUpModel", "readBox", "(I)Z"⟩, 37) := ⟨⟨by decide +kernel, by decide +kernel⟩, List.mem_of_getElem? (i := 766) (by decide +kernel), List.mem_of_getElem? (i := 905) (by decide +kernel), List.mem_of_getElem? (i := 906) (by decide +kernel)⟩
theorem lw_p24 : lw_okq (⟨"NutsUpModel", "isCode", "(II)Z"⟩, 37) := ⟨⟨by decide +kernel, by decide +kernel⟩, List.mem_of_getElem? (i := 766) (by decide +kernel), List.mem_of_getElem? (i := 909) (by decide +kernel), List.mem_of_getElem? (i := 910) (by decide +kernel)⟩
theorem lw_p25 : lw_okq (⟨"NutsUpModel", "digitAt", "(II)I"⟩, 37) := ⟨⟨by decide +kernel, by decide +kernel⟩, List.mem_of_getElem? (i := 766) (by decide +kernel), List.mem_of_getElem? (i := 913) (by decide +kernel), List.mem_of_getElem? (i := 914) (by decide +kernel)⟩
theorem lw_p26 : lw_okq (⟨"NutsUpModel", "isGrain", "(I)Z"⟩, 37) := ⟨⟨by decide +kernel, by decide +kernel⟩, List.mem_of_getElem? (i := 766) (by decide +kernel), List.mem_of_getElem? (i := 921) (by decide +kernel), List.mem_of_getElem? (i := 922) (by decide +kernel)⟩
theorem lw_p27 : lw_okq (⟨"NutsUpModel", "bulk", "(I)I"⟩, 37) := ⟨⟨by decide +kernel, by decide +kernel⟩, List.mem_of_getElem? (i := 766) (by decide +kernel), List.mem_of_getElem? (i := 925) (by decide +kernel), List.mem_of_getElem? (i := 926) (by decide +kernel)⟩
theorem lw_p28 : lw_okq (⟨"NutsUpModel", "heft", "(I)I"⟩, 37) := ⟨⟨by decide +kernel, by decide +kernel⟩, List.mem_of_getElem? (i := 766) (by decide +kernel), List.mem_of_getElem? (i := 929) (by decide +kernel), List.mem_of_getElem? (i := 930) (by decide +kernel)⟩
theorem lw_p29 : lw_okq (⟨"NutsUpModel", "placeOf", "(II)I"⟩, 37) := ⟨⟨by decide +kernel, by decide +kernel⟩, List.mem_of_getElem? (i := 766) (by decide +kernel), List.mem_of_getElem? (i := 933) (by decide +kernel), List.mem_of_getElem? (i := 934) (by decide +kernel)⟩
theorem lw_p30 : lw_okq (⟨"NutsUpModel", "open", "(I)V"⟩, 37) := ⟨⟨by decide +kernel, by decide +kernel⟩, List.mem_of_getElem? (i := 766) (by decide +kernel), List.mem_of_getElem? (i := 937) (by decide +kernel), List.mem_of_getElem? (i := 938) (by decide +kernel)⟩
theorem lw_p31 : lw_okq (⟨"NutsUpModel", "isLie", "(I)Z"⟩, 37) := ⟨⟨by decide +kernel, by decide +kernel⟩, List.mem_of_getElem? (i := 766) (by decide +kernel), List.mem_of_getElem? (i := 956) (by decide +kernel), List.mem_of_getElem? (i := 957) (by decide +kernel)⟩
def lw_privs_2 : List (MethodName × Nat) := [(⟨"NutsUp$Box", "sizeIn", "(II)I"⟩, 5), (⟨"NutsUp", "spread", "(LNutsUp$Law;IIII)V"⟩, 17), (⟨"NutsUp", "moved", "(LNutsUp$Law;II)I"⟩, 17), (⟨"NutsUp", "lookFar", "(LNutsUp$Motion;I)V"⟩, 17), (⟨"NutsUp", "isAsRead", "(I)Z"⟩, 17), (⟨"NutsUpModel", "against", "(IIII)I"⟩, 37), (⟨"NutsUpModel", "fails", "(I)I"⟩, 37), (⟨"NutsUpModel", "readBox", "(I)Z"⟩, 37), (⟨"NutsUpModel", "isCode", "(II)Z"⟩, 37), (⟨"NutsUpModel", "digitAt", "(II)I"⟩, 37), (⟨"NutsUpModel", "isGrain", "(I)Z"⟩, 37), (⟨"NutsUpModel", "bulk", "(I)I"⟩, 37), (⟨"NutsUpModel", "heft", "(I)I"⟩, 37), (⟨"NutsUpModel", "placeOf", "(II)I"⟩, 37), (⟨"NutsUpModel", "open", "(I)V"⟩, 37), (⟨"NutsUpModel", "isLie", "(I)Z"⟩, 37)]
theorem lw_r2 : ∀ q ∈ lw_privs_2, lw_okq q := List.forall_mem_cons.mpr ⟨lw_p16, List.forall_mem_cons.mpr ⟨lw_p17, List.forall_mem_cons.mpr ⟨lw_p18, List.forall_mem_cons.mpr ⟨lw_p19, List.forall_mem_cons.mpr ⟨lw_p20, List.forall_mem_cons.mpr ⟨lw_p21, List.forall_mem_cons.mpr ⟨lw_p22, List.forall_mem_cons.mpr ⟨lw_p23, List.forall_mem_cons.mpr ⟨lw_p24, List.forall_mem_cons.mpr ⟨lw_p25, List.forall_mem_cons.mpr ⟨lw_p26, List.forall_mem_cons.mpr ⟨lw_p27, List.forall_mem_cons.mpr ⟨lw_p28, List.forall_mem_cons.mpr ⟨lw_p29, List.forall_mem_cons.mpr ⟨lw_p30, List.forall_mem_cons.mpr ⟨lw_p31, fun _ h => absurd h List.not_mem_nil⟩⟩⟩⟩⟩⟩⟩⟩⟩⟩⟩⟩⟩⟩⟩⟩
theorem lw_p32 : lw_okq (⟨"NutsUpModel", "readLaw", "(I)Z"⟩, 37) := ⟨⟨by decide +kernel, by decide +kernel⟩, List.mem_of_getElem? (i := 766) (by decide +kernel), List.mem_of_getElem? (i := 968) (by decide +kernel), List.mem_of_getElem? (i := 969) (by decide +kernel)⟩
theorem lw_p33 : lw_okq (⟨"NutsUpModel", "isLaw", "(I)Z"⟩, 37) := ⟨⟨by decide +kernel, by decide +kernel⟩, List.mem_of_getElem? (i := 766) (by decide +kernel), List.mem_of_getElem? (i := 979) (by decide +kernel), List.mem_of_getElem? (i := 980) (by decide +kernel)⟩
theorem lw_p34 : lw_okq (⟨"NutsUpModel", "ruling", "(IIIII)I"⟩, 37) := ⟨⟨by decide +kernel, by decide +kernel⟩, List.mem_of_getElem? (i := 766) (by decide +kernel), List.mem_of_getElem? (i := 994) (by decide +kernel), List.mem_of_getElem? (i := 995) (by decide +kernel)⟩
theorem lw_p35 : lw_okq (⟨"NutsUpModel", "isSo", "(IIIII)Z"⟩, 37) := ⟨⟨by decide +kernel, by decide +kernel⟩, List.mem_of_getElem? (i := 766) (by decide +kernel), List.mem_of_getElem? (i := 998) (by decide +kernel), List.mem_of_getElem? (i := 999) (by decide +kernel)⟩
theorem lw_p36 : lw_okq (⟨"NutsUpModel", "shaken", "(II)V"⟩, 37) := ⟨⟨by decide +kernel, by decide +kernel⟩, List.mem_of_getElem? (i := 766) (by decide +kernel), List.mem_of_getElem? (i := 1006) (by decide +kernel), List.mem_of_getElem? (i := 1007) (by decide +kernel)⟩
theorem lw_p37 : lw_okq (⟨"NutsUpModel", "pair", "(III)V"⟩, 37) := ⟨⟨by decide +kernel, by decide +kernel⟩, List.mem_of_getElem? (i := 766) (by decide +kernel), List.mem_of_getElem? (i := 1010) (by decide +kernel), List.mem_of_getElem? (i := 1011) (by decide +kernel)⟩
theorem lw_p38 : lw_okq (⟨"NutsUpModel", "closed", "()I"⟩, 37) := ⟨⟨by decide +kernel, by decide +kernel⟩, List.mem_of_getElem? (i := 766) (by decide +kernel), List.mem_of_getElem? (i := 1014) (by decide +kernel), List.mem_of_getElem? (i := 1015) (by decide +kernel)⟩
theorem lw_p39 : lw_okq (⟨"NutsUpModel", "areHard", "(II)Z"⟩, 37) := ⟨⟨by decide +kernel, by decide +kernel⟩, List.mem_of_getElem? (i := 766) (by decide +kernel), List.mem_of_getElem? (i := 1022) (by decide +kernel), List.mem_of_getElem? (i := 1023) (by decide +kernel)⟩
theorem lw_p40 : lw_okq (⟨"NutsUpModel", "turned", "(I)I"⟩, 37) := ⟨⟨by decide +kernel, by decide +kernel⟩, List.mem_of_getElem? (i := 766) (by decide +kernel), List.mem_of_getElem? (i := 1030) (by decide +kernel), List.mem_of_getElem? (i := 1031) (by decide +kernel)⟩
theorem lw_p41 : lw_okq (⟨"NutsUpModel", "spooned", "(I)I"⟩, 37) := ⟨⟨by decide +kernel, by decide +kernel⟩, List.mem_of_getElem? (i := 766) (by decide +kernel), List.mem_of_getElem? (i := 1038) (by decide +kernel), List.mem_of_getElem? (i := 1039) (by decide +kernel)⟩
theorem lw_p42 : lw_okq (⟨"NutsUpModel", "nextOf", "(III)I"⟩, 37) := ⟨⟨by decide +kernel, by decide +kernel⟩, List.mem_of_getElem? (i := 766) (by decide +kernel), List.mem_of_getElem? (i := 1046) (by decide +kernel), List.mem_of_getElem? (i := 1047) (by decide +kernel)⟩
theorem lw_p43 : lw_okq (⟨"NutsUpModel", "clearMet", "()V"⟩, 37) := ⟨⟨by decide +kernel, by decide +kernel⟩, List.mem_of_getElem? (i := 766) (by decide +kernel), List.mem_of_getElem? (i := 1054) (by decide +kernel), List.mem_of_getElem? (i := 1055) (by decide +kernel)⟩
theorem lw_p44 : lw_okq (⟨"NutsUpModel", "whySoon", "(III)I"⟩, 37) := ⟨⟨by decide +kernel, by decide +kernel⟩, List.mem_of_getElem? (i := 766) (by decide +kernel), List.mem_of_getElem? (i := 1062) (by decide +kernel), List.mem_of_getElem? (i := 1063) (by decide +kernel)⟩
theorem lw_p45 : lw_okq (⟨"NutsUpModel", "soonOf", "(III)I"⟩, 37) := ⟨⟨by decide +kernel, by decide +kernel⟩, List.mem_of_getElem? (i := 766) (by decide +kernel), List.mem_of_getElem? (i := 1066) (by decide +kernel), List.mem_of_getElem? (i := 1067) (by decide +kernel)⟩
theorem lw_p46 : lw_okq (⟨"NutsUpModel", "isOnTop", "(II)Z"⟩, 37) := ⟨⟨by decide +kernel, by decide +kernel⟩, List.mem_of_getElem? (i := 766) (by decide +kernel), List.mem_of_getElem? (i := 1070) (by decide +kernel), List.mem_of_getElem? (i := 1071) (by decide +kernel)⟩
theorem lw_p47 : lw_okq (⟨"NutsUpModel", "valueOf", "(II)I"⟩, 37) := ⟨⟨by decide +kernel, by decide +kernel⟩, List.mem_of_getElem? (i := 766) (by decide +kernel), List.mem_of_getElem? (i := 1082) (by decide +kernel), List.mem_of_getElem? (i := 1083) (by decide +kernel)⟩
def lw_privs_3 : List (MethodName × Nat) := [(⟨"NutsUpModel", "readLaw", "(I)Z"⟩, 37), (⟨"NutsUpModel", "isLaw", "(I)Z"⟩, 37), (⟨"NutsUpModel", "ruling", "(IIIII)I"⟩, 37), (⟨"NutsUpModel", "isSo", "(IIIII)Z"⟩, 37), (⟨"NutsUpModel", "shaken", "(II)V"⟩, 37), (⟨"NutsUpModel", "pair", "(III)V"⟩, 37), (⟨"NutsUpModel", "closed", "()I"⟩, 37), (⟨"NutsUpModel", "areHard", "(II)Z"⟩, 37), (⟨"NutsUpModel", "turned", "(I)I"⟩, 37), (⟨"NutsUpModel", "spooned", "(I)I"⟩, 37), (⟨"NutsUpModel", "nextOf", "(III)I"⟩, 37), (⟨"NutsUpModel", "clearMet", "()V"⟩, 37), (⟨"NutsUpModel", "whySoon", "(III)I"⟩, 37), (⟨"NutsUpModel", "soonOf", "(III)I"⟩, 37), (⟨"NutsUpModel", "isOnTop", "(II)Z"⟩, 37), (⟨"NutsUpModel", "valueOf", "(II)I"⟩, 37)]
theorem lw_r3 : ∀ q ∈ lw_privs_3, lw_okq q := List.forall_mem_cons.mpr ⟨lw_p32, List.forall_mem_cons.mpr ⟨lw_p33, List.forall_mem_cons.mpr ⟨lw_p34, List.forall_mem_cons.mpr ⟨lw_p35, List.forall_mem_cons.mpr ⟨lw_p36, List.forall_mem_cons.mpr ⟨lw_p37, List.forall_mem_cons.mpr ⟨lw_p38, List.forall_mem_cons.mpr ⟨lw_p39, List.forall_mem_cons.mpr ⟨lw_p40, List.forall_mem_cons.mpr ⟨lw_p41, List.forall_mem_cons.mpr ⟨lw_p42, List.forall_mem_cons.mpr ⟨lw_p43, List.forall_mem_cons.mpr ⟨lw_p44, List.forall_mem_cons.mpr ⟨lw_p45, List.forall_mem_cons.mpr ⟨lw_p46, List.forall_mem_cons.mpr ⟨lw_p47, fun _ h => absurd h List.not_mem_nil⟩⟩⟩⟩⟩⟩⟩⟩⟩⟩⟩⟩⟩⟩⟩⟩
theorem lw_p48 : lw_okq (⟨"NutsUpModel", "search", "(III)V"⟩, 37) := ⟨⟨by decide +kernel, by decide +kernel⟩, List.mem_of_getElem? (i := 766) (by decide +kernel), List.mem_of_getElem? (i := 1090) (by decide +kernel), List.mem_of_getElem? (i := 1091) (by decide +kernel)⟩
theorem lw_p49 : lw_okq (⟨"NutsUpModel", "comes", "(III)V"⟩, 37) := ⟨⟨by decide +kernel, by decide +kernel⟩, List.mem_of_getElem? (i := 766) (by decide +kernel), List.mem_of_getElem? (i := 1094) (by decide +kernel), List.mem_of_getElem? (i := 1095) (by decide +kernel)⟩
theorem lw_p50 : lw_okq (⟨"NutsUpModel", "actOf", "(II)I"⟩, 37) := ⟨⟨by decide +kernel, by decide +kernel⟩, List.mem_of_getElem? (i := 766) (by decide +kernel), List.mem_of_getElem? (i := 1098) (by decide +kernel), List.mem_of_getElem? (i := 1099) (by decide +kernel)⟩
theorem lw_p51 : lw_okq (⟨"NutsUpModel", "layGoes", "(II)V"⟩, 37) := ⟨⟨by decide +kernel, by decide +kernel⟩, List.mem_of_getElem? (i := 766) (by decide +kernel), List.mem_of_getElem? (i := 1110) (by decide +kernel), List.mem_of_getElem? (i := 1111) (by decide +kernel)⟩
theorem lw_p52 : lw_okq (⟨"NutsUpModel", "isRead", "()Z"⟩, 37) := ⟨⟨by decide +kernel, by decide +kernel⟩, List.mem_of_getElem? (i := 766) (by decide +kernel), List.mem_of_getElem? (i := 1138) (by decide +kernel), List.mem_of_getElem? (i := 1139) (by decide +kernel)⟩
theorem lw_p53 : lw_okq (⟨"NutsUpModel", "lost", "(I)J"⟩, 37) := ⟨⟨by decide +kernel, by decide +kernel⟩, List.mem_of_getElem? (i := 766) (by decide +kernel), List.mem_of_getElem? (i := 1166) (by decide +kernel), List.mem_of_getElem? (i := 1167) (by decide +kernel)⟩
theorem lw_p54 : lw_okq (⟨"NutsUpModel", "begins", "(I)V"⟩, 37) := ⟨⟨by decide +kernel, by decide +kernel⟩, List.mem_of_getElem? (i := 766) (by decide +kernel), List.mem_of_getElem? (i := 1178) (by decide +kernel), List.mem_of_getElem? (i := 1179) (by decide +kernel)⟩
def lw_privs_4 : List (MethodName × Nat) := [(⟨"NutsUpModel", "search", "(III)V"⟩, 37), (⟨"NutsUpModel", "comes", "(III)V"⟩, 37), (⟨"NutsUpModel", "actOf", "(II)I"⟩, 37), (⟨"NutsUpModel", "layGoes", "(II)V"⟩, 37), (⟨"NutsUpModel", "isRead", "()Z"⟩, 37), (⟨"NutsUpModel", "lost", "(I)J"⟩, 37), (⟨"NutsUpModel", "begins", "(I)V"⟩, 37)]
theorem lw_r4 : ∀ q ∈ lw_privs_4, lw_okq q := List.forall_mem_cons.mpr ⟨lw_p48, List.forall_mem_cons.mpr ⟨lw_p49, List.forall_mem_cons.mpr ⟨lw_p50, List.forall_mem_cons.mpr ⟨lw_p51, List.forall_mem_cons.mpr ⟨lw_p52, List.forall_mem_cons.mpr ⟨lw_p53, List.forall_mem_cons.mpr ⟨lw_p54, fun _ h => absurd h List.not_mem_nil⟩⟩⟩⟩⟩⟩⟩
def lw_privs : List (MethodName × Nat) := lw_privs_1 ++ (lw_privs_2 ++ (lw_privs_3 ++ (lw_privs_4)))
def lw_tbl : List Cond := k2_sels lw_privs ++ tables_1
theorem lw_privs_ok : ∀ q ∈ lw_privs, lw_okq q := by
  show ∀ q ∈ lw_privs_1 ++ (lw_privs_2 ++ (lw_privs_3 ++ (lw_privs_4))), lw_okq q
  exact List.forall_mem_append.mpr ⟨lw_r1, List.forall_mem_append.mpr ⟨lw_r2, List.forall_mem_append.mpr ⟨lw_r3, lw_r4⟩⟩⟩
-- ===== end of PART A; what follows is written by wip/whole/mk01.py
/-- classes: name, fields (declaring one, name, descriptor, final), types, which are references -/
def clsL : List (String × List (String × String × String × Bool) × List FieldType × List Bool) := [
  ("NutsUp$Box", [("NutsUp$Box", "grains", "[LNutsUp$Grain;", true), ("NutsUp$Box", "count", "I", false), ("NutsUp$Box", "lies", "I", false), ("NutsUp$Box", "number", "I", false), ("NutsUp$Box", "rows", "[I", false)], [(.array (.object "NutsUp$Grain")), .int, .int, .int, (.array .int)], [true, false, false, false, true]),
  ("NutsUp$Cause", [("NutsUp$Cause", "letter", "I", true), ("NutsUp$Cause", "digit", "I", true), ("NutsUp$Cause", "hard", "I", true)], [.int, .int, .int], [false, false, false]),
  ("NutsUp$Grain", [("NutsUp$Grain", "number", "I", true), ("NutsUp$Grain", "kind", "I", true), ("NutsUp$Grain", "size", "I", true), ("NutsUp$Grain", "weight", "I", true), ("NutsUp$Grain", "bulk", "I", true), ("NutsUp$Grain", "heft", "I", true)], [.int, .int, .int, .int, .int, .int], [false, false, false, false, false, false]),
  ("NutsUp$Law", [("NutsUp$Law", "causes", "[LNutsUp$Cause;", true), ("NutsUp$Law", "motions", "[LNutsUp$Motion;", true)], [(.array (.object "NutsUp$Cause")), (.array (.object "NutsUp$Motion"))], [true, true]),
  ("NutsUp$LongGrain", [("NutsUp$Grain", "number", "I", true), ("NutsUp$Grain", "kind", "I", true), ("NutsUp$Grain", "size", "I", true), ("NutsUp$Grain", "weight", "I", true), ("NutsUp$Grain", "bulk", "I", true), ("NutsUp$Grain", "heft", "I", true)], [.int, .int, .int, .int, .int, .int], [false, false, false, false, false, false]),
  ("NutsUp$Motion", [("NutsUp$Motion", "rule", "LNutsUp$Rule;", true), ("NutsUp$Motion", "nexts", "[I", false), ("NutsUp$Motion", "boxNumber", "I", false)], [(.object "NutsUp$Rule"), (.array .int), .int], [true, true, false]),
  ("NutsUp$OilyGrain", [("NutsUp$Grain", "number", "I", true), ("NutsUp$Grain", "kind", "I", true), ("NutsUp$Grain", "size", "I", true), ("NutsUp$Grain", "weight", "I", true), ("NutsUp$Grain", "bulk", "I", true), ("NutsUp$Grain", "heft", "I", true)], [.int, .int, .int, .int, .int, .int], [false, false, false, false, false, false]),
  ("NutsUp$Rule", [("NutsUp$Rule", "changing", "[I", true), ("NutsUp$Rule", "changes", "I", false)], [(.array .int), .int], [true, false]),
  ("NutsUp$Search", [("NutsUp$Search", "queue", "[I", false), ("NutsUp$Search", "depth", "[I", false), ("NutsUp$Search", "cameFrom", "[I", false), ("NutsUp$Search", "cameBy", "[I", false), ("NutsUp$Search", "found", "I", false)], [(.array .int), (.array .int), (.array .int), (.array .int), .int], [true, true, true, true, false]),
  ("NutsUp$Sheet", [("NutsUp$Sheet", "cells", "[I", true), ("NutsUp$Sheet", "held", "Z", false), ("NutsUp$Sheet", "sort", "I", false), ("NutsUp$Sheet", "length", "I", false)], [(.array .int), .boolean, .int, .int], [true, false, false, false]),
  ("NutsUp$Trail", [("NutsUp$Trail", "sum", "I", false)], [.int], [false]),
  ("NutsUp", [("NutsUp", "box", "LNutsUp$Box;", true), ("NutsUp", "laws", "[LNutsUp$Law;", true), ("NutsUp", "lawCount", "I", false), ("NutsUp", "inForce", "I", false), ("NutsUp", "lieNow", "I", false), ("NutsUp", "shakes", "I", false), ("NutsUp", "readGrains", "[I", true), ("NutsUp", "readPlaces", "[I", true), ("NutsUp", "readings", "I", false), ("NutsUp", "sheets", "[LNutsUp$Sheet;", true), ("NutsUp", "trail", "LNutsUp$Trail;", true), ("NutsUp", "latestFault", "I", false), ("NutsUp", "spareRule", "LNutsUp$Rule;", true), ("NutsUp", "search", "LNutsUp$Search;", true), ("NutsUp", "far", "[I", false), ("NutsUp", "leap", "[I", false), ("NutsUp", "marks", "[I", false)], [(.object "NutsUp$Box"), (.array (.object "NutsUp$Law")), .int, .int, .int, .int, (.array .int), (.array .int), .int, (.array (.object "NutsUp$Sheet")), (.object "NutsUp$Trail"), .int, (.object "NutsUp$Rule"), (.object "NutsUp$Search"), (.array .int), (.array .int), (.array .int)], [true, true, false, false, false, false, true, true, false, true, true, false, true, true, true, true, true]),
  ("NutsUpModel", [("NutsUpModel", "fault", "I", false), ("NutsUpModel", "trace", "I", false), ("NutsUpModel", "sorts", "[I", true), ("NutsUpModel", "sheetLong", "[I", true), ("NutsUpModel", "cells", "[I", true), ("NutsUpModel", "grains", "I", false), ("NutsUpModel", "lies", "I", false), ("NutsUpModel", "lieNow", "I", false), ("NutsUpModel", "shakes", "I", false), ("NutsUpModel", "size", "[I", true), ("NutsUpModel", "weight", "[I", true), ("NutsUpModel", "kind", "[I", true), ("NutsUpModel", "at", "I", false), ("NutsUpModel", "readMany", "I", false), ("NutsUpModel", "readA", "[I", true), ("NutsUpModel", "readB", "[I", true), ("NutsUpModel", "readC", "[I", true), ("NutsUpModel", "row", "[I", true), ("NutsUpModel", "laws", "I", false), ("NutsUpModel", "inForce", "I", false), ("NutsUpModel", "lawMany", "[I", true), ("NutsUpModel", "lawLetter", "[I", true), ("NutsUpModel", "lawNumber", "[I", true), ("NutsUpModel", "lawHard", "[I", true), ("NutsUpModel", "leftOut", "I", false), ("NutsUpModel", "readCauses", "[I", true), ("NutsUpModel", "changes", "I", false), ("NutsUpModel", "met", "[I", true), ("NutsUpModel", "queue", "[I", true), ("NutsUpModel", "from", "[I", true), ("NutsUpModel", "by", "[I", true), ("NutsUpModel", "queued", "I", false), ("NutsUpModel", "goes", "[I", true), ("NutsUpModel", "is", "[I", true), ("NutsUpModel", "readings", "I", false), ("NutsUpModel", "readGrain", "[I", true), ("NutsUpModel", "readPlace", "[I", true)], [.int, .int, (.array .int), (.array .int), (.array .int), .int, .int, .int, .int, (.array .int), (.array .int), (.array .int), .int, .int, (.array .int), (.array .int), (.array .int), (.array .int), .int, .int, (.array .int), (.array .int), (.array .int), (.array .int), .int, (.array .int), .int, (.array .int), (.array .int), (.array .int), (.array .int), .int, (.array .int), (.array .int), .int, (.array .int), (.array .int)], [false, false, true, true, true, false, false, false, false, true, true, true, false, false, true, true, true, true, false, false, true, true, true, true, false, true, false, true, true, true, true, false, true, true, false, true, true])]
def cR (ci : Nat) : String × List (String × String × String × Bool) × List FieldType × List Bool := (clsL[ci]?).getD ("", [], [], [])
def cn (ci : Nat) : String := (cR ci).1
def cT (ci : Nat) : u_T := fun k => ((cR ci).2.1[k]?).getD ("", "", "", false)
def cSz (ci : Nat) : Nat := (cR ci).2.1.length
def cTy (ci k : Nat) : FieldType := ((cR ci).2.2.1[k]?).getD .int
def rfs (ci k : Nat) : Bool := ((cR ci).2.2.2[k]?).getD false
abbrev classes : List vw_C := (List.range 13).map (fun ci => (cn ci, cT ci, cSz ci))
def onL : List String := ["NutsUp$Box", "NutsUp$Cause", "NutsUp$Grain", "NutsUp$Law", "NutsUp$LongGrain", "NutsUp$Motion", "NutsUp$OilyGrain", "NutsUp$Rule", "NutsUp$Search", "NutsUp$Sheet", "NutsUp$Trail", "NutsUp", "NutsUpModel", "NutsUpLaw", "java/lang/Object", "java/lang/Integer", "java/lang/Math", "java/lang/System", "java/util/Arrays"]
def on (o : Nat) : String := (onL[o]?).getD ""
def mtab0 : List (Nat × String × String × ByteArray × Nat × Option FieldType × Nat × Nat × Nat × Nat × Bool) := [
  (11, "<init>", "()V", prog_1_method_1_code, 2, none, 0, 2, 40, 77, true),
  (14, "<init>", "()V", object_method_1_code, 1, none, 0, 0, 0, 80, false),
  (0, "<init>", "()V", prog_2_method_1_code, 1, none, 0, 1, 20, 85, true),
  (10, "<init>", "()V", prog_12_method_1_code, 1, none, 0, 1, 20, 121, false),
  (7, "<init>", "()V", prog_9_method_1_code, 1, none, 0, 1, 20, 132, true),
  (8, "<init>", "()V", prog_10_method_1_code, 1, none, 0, 1, 20, 146, true),
  (9, "<init>", "()V", prog_11_method_1_code, 1, none, 0, 1, 20, 170, true),
  (11, "box", "(IIII)I", prog_1_method_2_code, 8, some Jvm.ClassFile.FieldType.int, 4, 6, 143, 244, true),
  (11, "refusalOfCells", "(IIII)I", prog_1_method_49_code, 6, some Jvm.ClassFile.FieldType.int, 4, 1, 22, 248, false),
  (11, "noSheet", "(I)Z", prog_1_method_47_code, 1, some Jvm.ClassFile.FieldType.boolean, 1, 0, 0, 251, false),
  (11, "noSort", "(I)Z", prog_1_method_48_code, 1, some Jvm.ClassFile.FieldType.boolean, 1, 0, 0, 254, false),
  (11, "faulted", "(I)I", prog_1_method_50_code, 2, some Jvm.ClassFile.FieldType.int, 1, 0, 0, 258, false),
  (9, "hasNot", "(II)Z", prog_11_method_4_code, 3, some Jvm.ClassFile.FieldType.boolean, 2, 0, 0, 262, false),
  (0, "firstFault", "([III)I", prog_2_method_2_code, 6, some Jvm.ClassFile.FieldType.int, 3, 1, 22, 265, false),
  (0, "stateBehind", "(III)I", prog_2_method_3_code, 3, some Jvm.ClassFile.FieldType.int, 3, 0, 0, 268, false),
  (0, "fill", "([III)V", prog_2_method_4_code, 7, none, 3, 5, 117, 272, true),
  (0, "kindAt", "([III)I", prog_2_method_5_code, 3, some Jvm.ClassFile.FieldType.int, 3, 0, 0, 275, false),
  (0, "grainOf", "(IIII)LNutsUp$Grain;", prog_2_method_6_code, 4, some (Jvm.ClassFile.FieldType.object "NutsUp$Grain"), 4, 4, 94, 278, true),
  (2, "<init>", "(III)V", prog_4_method_1_code, 4, none, 3, 2, 46, 282, false),
  (2, "<init>", "(IIIIII)V", prog_4_method_2_code, 7, none, 6, 1, 20, 285, false),
  (4, "<init>", "(III)V", prog_6_method_1_code, 4, none, 3, 2, 46, 319, false),
  (6, "<init>", "(III)V", prog_8_method_1_code, 4, none, 3, 3, 71, 332, false),
  (4, "<init>", "(IIIII)V", prog_6_method_2_code, 6, none, 5, 2, 46, 335, false),
  (11, "wideEnough", "([II)[I", prog_1_method_54_code, 2, some (Jvm.ClassFile.FieldType.array Jvm.ClassFile.FieldType.int), 2, 0, 0, 347, true),
  (18, "fill", "([II)V", prog_18_method_103_code, 4, none, 2, 0, 0, 350, false),
  (11, "widenRows", "()V", prog_1_method_53_code, 1, none, 0, 2, 42, 354, true),
  (8, "widen", "(I)V", prog_10_method_2_code, 2, none, 1, 1, 21, 359, true),
  (11, "ofGrain", "(II)I", prog_1_method_3_code, 4, some Jvm.ClassFile.FieldType.int, 2, 2, 48, 364, false),
  (11, "noGrain", "(I)Z", prog_1_method_43_code, 2, some Jvm.ClassFile.FieldType.boolean, 1, 0, 0, 368, false),
  (0, "rowOf", "(I)I", prog_2_method_8_code, 2, some Jvm.ClassFile.FieldType.int, 1, 1, 27, 372, false),
  (0, "madeRow", "(I)I", prog_2_method_9_code, 8, some Jvm.ClassFile.FieldType.int, 1, 0, 0, 376, false),
  (0, "placeOf", "(II)I", prog_2_method_11_code, 4, some Jvm.ClassFile.FieldType.int, 2, 1, 21, 381, false),
  (0, "grainIn", "(II)I", prog_2_method_7_code, 2, some Jvm.ClassFile.FieldType.int, 2, 0, 0, 384, false),
  (11, "at", "(I)I", prog_1_method_4_code, 2, some Jvm.ClassFile.FieldType.int, 1, 2, 48, 388, false),
  (11, "noPlace", "(I)Z", prog_1_method_44_code, 2, some Jvm.ClassFile.FieldType.boolean, 1, 0, 0, 392, false),
  (11, "lie", "()I", prog_1_method_5_code, 1, some Jvm.ClassFile.FieldType.int, 0, 1, 20, 397, false),
  (11, "noBox", "()Z", prog_1_method_42_code, 1, some Jvm.ClassFile.FieldType.boolean, 0, 0, 0, 401, false),
  (11, "lay", "(I)I", prog_1_method_6_code, 3, some Jvm.ClassFile.FieldType.int, 1, 1, 21, 405, false),
  (11, "noLie", "(I)Z", prog_1_method_45_code, 2, some Jvm.ClassFile.FieldType.boolean, 1, 0, 0, 409, false),
  (11, "of", "(II)I", prog_1_method_7_code, 3, some Jvm.ClassFile.FieldType.int, 2, 2, 48, 413, false),
  (11, "law", "(IIII)I", prog_1_method_8_code, 8, some Jvm.ClassFile.FieldType.int, 4, 4, 85, 417, true),
  (3, "firstFault", "([III)I", prog_5_method_2_code, 4, some Jvm.ClassFile.FieldType.int, 3, 2, 42, 420, false),
  (3, "goesOn", "(II)Z", prog_5_method_3_code, 2, some Jvm.ClassFile.FieldType.boolean, 2, 1, 21, 423, false),
  (1, "letterOf", "(I)I", prog_3_method_2_code, 2, some Jvm.ClassFile.FieldType.int, 1, 0, 0, 426, false),
  (3, "<init>", "([III)V", prog_5_method_1_code, 6, none, 3, 3, 60, 432, true),
  (1, "<init>", "(III)V", prog_3_method_1_code, 4, none, 3, 1, 20, 441, false),
  (5, "<init>", "()V", prog_7_method_1_code, 1, none, 0, 2, 40, 460, true),
  (11, "ofCause", "(III)I", prog_1_method_9_code, 5, some Jvm.ClassFile.FieldType.int, 3, 0, 0, 488, false),
  (11, "use", "(I)I", prog_1_method_10_code, 3, some Jvm.ClassFile.FieldType.int, 1, 0, 0, 492, false),
  (11, "cause", "(IIII)I", prog_1_method_11_code, 6, some Jvm.ClassFile.FieldType.int, 4, 2, 49, 496, false),
  (11, "noHard", "(I)Z", prog_1_method_46_code, 1, some Jvm.ClassFile.FieldType.boolean, 1, 0, 0, 499, false),
  (11, "lawInForce", "()LNutsUp$Law;", prog_1_method_52_code, 1, some (Jvm.ClassFile.FieldType.object "NutsUp$Law"), 0, 0, 0, 503, false),
  (3, "ruling", "(LNutsUp$Grain;LNutsUp$Grain;III)I", prog_5_method_4_code, 7, some Jvm.ClassFile.FieldType.int, 5, 1, 23, 507, false),
  (1, "isSo", "(LNutsUp$Grain;LNutsUp$Grain;I)Z", prog_3_method_3_code, 4, some Jvm.ClassFile.FieldType.boolean, 3, 0, 0, 511, false),
  (11, "shake", "(II)I", prog_1_method_12_code, 6, some Jvm.ClassFile.FieldType.int, 2, 5, 123, 515, true),
  (11, "shakeOnce", "(LNutsUp$Law;I)I", prog_1_method_56_code, 4, some Jvm.ClassFile.FieldType.int, 2, 4, 100, 519, true),
  (11, "motionOf", "(LNutsUp$Law;I)LNutsUp$Motion;", prog_1_method_55_code, 4, some (Jvm.ClassFile.FieldType.object "NutsUp$Motion"), 2, 3, 77, 523, true),
  (7, "learn", "(LNutsUp$Box;LNutsUp$Law;II)V", prog_9_method_2_code, 9, none, 4, 2, 49, 527, false),
  (1, "makesChange", "()Z", prog_3_method_4_code, 1, some Jvm.ClassFile.FieldType.boolean, 0, 0, 0, 532, false),
  (5, "forget", "(I)V", prog_7_method_2_code, 2, none, 1, 2, 46, 536, true),
  (18, "fill", "([IIII)V", prog_18_method_104_code, 5, none, 4, 1, 22, 540, false),
  (18, "rangeCheck", "(III)V", prog_18_method_30_code, 3, none, 3, 0, 0, 543, false),
  (7, "shaken", "(II)I", prog_9_method_3_code, 3, some Jvm.ClassFile.FieldType.int, 2, 2, 48, 547, false),
  (7, "pairsShaken", "(III)I", prog_9_method_4_code, 8, some Jvm.ClassFile.FieldType.int, 3, 1, 21, 551, false),
  (0, "lieOf", "(I)I", prog_2_method_10_code, 6, some Jvm.ClassFile.FieldType.int, 1, 1, 21, 556, false),
  (15, "bitCount", "(I)I", prog_15_method_49_code, 1, some Jvm.ClassFile.FieldType.int, 1, 0, 0, 559, false),
  (11, "doing", "(IIII)I", prog_1_method_13_code, 10, some Jvm.ClassFile.FieldType.int, 4, 5, 123, 566, true),
  (11, "allHard", "([III)Z", prog_1_method_51_code, 4, some Jvm.ClassFile.FieldType.boolean, 3, 1, 20, 569, false),
  (11, "turn", "()I", prog_1_method_14_code, 1, some Jvm.ClassFile.FieldType.int, 0, 3, 69, 573, false),
  (11, "turned", "(I)I", prog_1_method_57_code, 2, some Jvm.ClassFile.FieldType.int, 1, 2, 48, 577, false)]
def mtab1 : List (Nat × String × String × ByteArray × Nat × Option FieldType × Nat × Nat × Nat × Nat × Bool) := [
  (0, "turnedRow", "(I)I", prog_2_method_12_code, 4, some Jvm.ClassFile.FieldType.int, 1, 1, 21, 581, false),
  (11, "spoon", "()I", prog_1_method_15_code, 2, some Jvm.ClassFile.FieldType.int, 0, 3, 69, 585, false),
  (11, "spooned", "(I)I", prog_1_method_58_code, 2, some Jvm.ClassFile.FieldType.int, 1, 2, 48, 589, false),
  (0, "spoonedRow", "(I)I", prog_2_method_13_code, 2, some Jvm.ClassFile.FieldType.int, 1, 1, 21, 593, false),
  (11, "next", "(II)I", prog_1_method_16_code, 4, some Jvm.ClassFile.FieldType.int, 2, 4, 100, 597, true),
  (5, "after", "(LNutsUp$Box;I)I", prog_7_method_3_code, 3, some Jvm.ClassFile.FieldType.int, 2, 3, 70, 601, false),
  (11, "still", "(III)I", prog_1_method_17_code, 8, some Jvm.ClassFile.FieldType.int, 3, 4, 100, 608, true),
  (11, "soon", "(III)I", prog_1_method_18_code, 5, some Jvm.ClassFile.FieldType.int, 3, 4, 100, 613, true),
  (11, "soonBy", "(LNutsUp$Rule;II)I", prog_1_method_60_code, 7, some Jvm.ClassFile.FieldType.int, 3, 3, 70, 617, false),
  (11, "isTimeToMark", "(I)Z", prog_1_method_61_code, 1, some Jvm.ClassFile.FieldType.boolean, 1, 0, 0, 620, false),
  (11, "boss", "(III)I", prog_1_method_19_code, 11, some Jvm.ClassFile.FieldType.int, 3, 5, 124, 624, true),
  (11, "counted", "(I)I", prog_1_method_62_code, 1, some Jvm.ClassFile.FieldType.int, 1, 0, 0, 628, false),
  (16, "abs", "(I)I", prog_16_method_59_code, 1, some Jvm.ClassFile.FieldType.int, 1, 0, 0, 631, false),
  (11, "mix", "(II)I", prog_1_method_20_code, 3, some Jvm.ClassFile.FieldType.int, 2, 4, 90, 635, false),
  (11, "measured", "(II)I", prog_1_method_59_code, 4, some Jvm.ClassFile.FieldType.int, 2, 3, 67, 639, false),
  (0, "mixOf", "(I)I", prog_2_method_15_code, 4, some Jvm.ClassFile.FieldType.int, 1, 2, 43, 643, false),
  (0, "sizeIn", "(II)I", prog_2_method_14_code, 3, some Jvm.ClassFile.FieldType.int, 2, 1, 21, 647, false),
  (0, "partsOf", "(I)I", prog_2_method_16_code, 5, some Jvm.ClassFile.FieldType.int, 1, 2, 43, 652, false),
  (11, "plan", "(III)I", prog_1_method_21_code, 9, some Jvm.ClassFile.FieldType.int, 3, 6, 151, 656, true),
  (11, "spread", "(LNutsUp$Law;IIII)V", prog_1_method_63_code, 9, none, 5, 5, 123, 660, true),
  (8, "begin", "(II)V", prog_10_method_3_code, 3, none, 2, 2, 46, 664, false),
  (11, "moved", "(LNutsUp$Law;II)I", prog_1_method_64_code, 4, some Jvm.ClassFile.FieldType.int, 3, 4, 100, 669, true),
  (8, "reach", "(III)V", prog_10_method_4_code, 4, none, 3, 0, 0, 673, false),
  (8, "stepTo", "(II)I", prog_10_method_5_code, 5, some Jvm.ClassFile.FieldType.int, 2, 0, 0, 677, false),
  (11, "way", "(III)I", prog_1_method_22_code, 5, some Jvm.ClassFile.FieldType.int, 3, 6, 151, 681, true),
  (11, "come", "(III)I", prog_1_method_23_code, 7, some Jvm.ClassFile.FieldType.int, 3, 5, 116, 685, true),
  (11, "lookFar", "(LNutsUp$Motion;I)V", prog_1_method_65_code, 5, none, 2, 4, 92, 689, false),
  (11, "bare", "(I)I", prog_1_method_24_code, 7, some Jvm.ClassFile.FieldType.int, 1, 4, 100, 696, true),
  (11, "odds", "(IIII)J", prog_1_method_25_code, 8, some Jvm.ClassFile.FieldType.long, 4, 5, 116, 700, true),
  (11, "commonDivisor", "(II)I", prog_1_method_66_code, 6, some Jvm.ClassFile.FieldType.int, 2, 0, 0, 704, false),
  (11, "reading", "(II)I", prog_1_method_26_code, 3, some Jvm.ClassFile.FieldType.int, 2, 1, 21, 708, false),
  (11, "back", "(I)I", prog_1_method_27_code, 2, some Jvm.ClassFile.FieldType.int, 1, 0, 0, 712, false),
  (11, "fits", "(II)I", prog_1_method_28_code, 8, some Jvm.ClassFile.FieldType.int, 2, 4, 100, 716, true),
  (11, "isAsRead", "(I)Z", prog_1_method_67_code, 3, some Jvm.ClassFile.FieldType.boolean, 1, 1, 21, 720, false),
  (11, "which", "(IIIIII)I", prog_1_method_29_code, 13, some Jvm.ClassFile.FieldType.int, 6, 4, 100, 724, true),
  (11, "bears", "(II)I", prog_1_method_30_code, 8, some Jvm.ClassFile.FieldType.int, 2, 4, 100, 728, true),
  (11, "sheet", "(III)I", prog_1_method_31_code, 4, some Jvm.ClassFile.FieldType.int, 3, 2, 45, 732, false),
  (9, "renew", "(II)V", prog_11_method_2_code, 3, none, 2, 1, 23, 736, false),
  (11, "lose", "(I)I", prog_1_method_32_code, 3, some Jvm.ClassFile.FieldType.int, 1, 1, 20, 741, false),
  (11, "put", "(III)I", prog_1_method_33_code, 5, some Jvm.ClassFile.FieldType.int, 3, 1, 21, 745, false),
  (9, "cut", "(I)I", prog_11_method_3_code, 2, some Jvm.ClassFile.FieldType.int, 1, 0, 0, 749, false),
  (11, "cell", "(III)J", prog_1_method_34_code, 4, some Jvm.ClassFile.FieldType.long, 3, 2, 47, 753, false),
  (11, "copy", "(IIIII)I", prog_1_method_35_code, 8, some Jvm.ClassFile.FieldType.int, 5, 1, 80, 757, false),
  (11, "tell", "(I)I", prog_1_method_36_code, 2, some Jvm.ClassFile.FieldType.int, 1, 4, 84, 761, false),
  (4, "told", "(LNutsUp$Trail;)I", prog_6_method_3_code, 2, some Jvm.ClassFile.FieldType.int, 1, 2, 42, 768, false),
  (10, "leave", "(I)V", prog_12_method_2_code, 2, none, 1, 0, 0, 772, false),
  (2, "toldPlainly", "(LNutsUp$Trail;)I", prog_4_method_4_code, 2, some Jvm.ClassFile.FieldType.int, 1, 1, 21, 779, false),
  (6, "told", "(LNutsUp$Trail;)I", prog_8_method_2_code, 2, some Jvm.ClassFile.FieldType.int, 1, 3, 63, 783, false),
  (2, "told", "(LNutsUp$Trail;)I", prog_4_method_3_code, 2, some Jvm.ClassFile.FieldType.int, 1, 2, 42, 789, false),
  (11, "sift", "(I)I", prog_1_method_37_code, 2, some Jvm.ClassFile.FieldType.int, 1, 2, 42, 794, false),
  (6, "sifted", "(LNutsUp$Trail;)I", prog_8_method_3_code, 2, some Jvm.ClassFile.FieldType.int, 1, 1, 21, 802, false),
  (2, "sifted", "(LNutsUp$Trail;)I", prog_4_method_5_code, 2, some Jvm.ClassFile.FieldType.int, 1, 1, 21, 803, false),
  (11, "as", "(II)I", prog_1_method_38_code, 3, some Jvm.ClassFile.FieldType.int, 2, 1, 21, 807, false),
  (11, "trace", "()I", prog_1_method_39_code, 1, some Jvm.ClassFile.FieldType.int, 0, 0, 0, 811, false),
  (11, "fault", "()I", prog_1_method_40_code, 1, some Jvm.ClassFile.FieldType.int, 0, 0, 0, 815, false),
  (11, "many", "(I)I", prog_1_method_41_code, 2, some Jvm.ClassFile.FieldType.int, 1, 0, 0, 819, false),
  (12, "<init>", "()V", prog_14_method_1_code, 1, none, 0, 1, 20, 824, true),
  (12, "box", "(IIII)I", prog_14_method_14_code, 8, some Jvm.ClassFile.FieldType.int, 4, 3, 65, 941, false),
  (12, "isSheet", "(I)Z", prog_14_method_7_code, 1, some Jvm.ClassFile.FieldType.boolean, 1, 1, 22, 944, false),
  (12, "within", "(III)Z", prog_14_method_5_code, 3, some Jvm.ClassFile.FieldType.boolean, 3, 0, 0, 947, false),
  (12, "isSort", "(I)Z", prog_14_method_8_code, 1, some Jvm.ClassFile.FieldType.boolean, 1, 1, 22, 950, false),
  (12, "against", "(IIII)I", prog_14_method_9_code, 5, some Jvm.ClassFile.FieldType.int, 4, 0, 0, 954, false),
  (12, "fails", "(I)I", prog_14_method_3_code, 2, some Jvm.ClassFile.FieldType.int, 1, 0, 0, 958, false),
  (12, "readBox", "(I)Z", prog_14_method_15_code, 2, some Jvm.ClassFile.FieldType.boolean, 1, 2, 44, 962, false),
  (12, "isCode", "(II)Z", prog_14_method_13_code, 3, some Jvm.ClassFile.FieldType.boolean, 2, 0, 0, 966, false),
  (12, "digitAt", "(II)I", prog_14_method_12_code, 3, some Jvm.ClassFile.FieldType.int, 2, 1, 22, 970, false),
  (12, "ofGrain", "(II)I", prog_14_method_20_code, 3, some Jvm.ClassFile.FieldType.int, 2, 3, 71, 974, false),
  (12, "isGrain", "(I)Z", prog_14_method_10_code, 2, some Jvm.ClassFile.FieldType.boolean, 1, 0, 0, 978, false),
  (12, "bulk", "(I)I", prog_14_method_16_code, 2, some Jvm.ClassFile.FieldType.int, 1, 0, 0, 982, false),
  (12, "heft", "(I)I", prog_14_method_17_code, 2, some Jvm.ClassFile.FieldType.int, 1, 0, 0, 986, false)]
def mtab2 : List (Nat × String × String × ByteArray × Nat × Option FieldType × Nat × Nat × Nat × Nat × Bool) := [
  (12, "placeOf", "(II)I", prog_14_method_21_code, 4, some Jvm.ClassFile.FieldType.int, 2, 2, 48, 990, false),
  (12, "open", "(I)V", prog_14_method_18_code, 8, none, 1, 1, 21, 994, false),
  (12, "has", "(II)Z", prog_14_method_6_code, 2, some Jvm.ClassFile.FieldType.boolean, 2, 0, 0, 997, false),
  (12, "at", "(I)I", prog_14_method_22_code, 2, some Jvm.ClassFile.FieldType.int, 1, 2, 48, 1001, false),
  (12, "lie", "()I", prog_14_method_23_code, 1, some Jvm.ClassFile.FieldType.int, 0, 0, 0, 1005, false),
  (12, "lay", "(I)I", prog_14_method_24_code, 3, some Jvm.ClassFile.FieldType.int, 1, 1, 21, 1009, false),
  (12, "isLie", "(I)Z", prog_14_method_11_code, 2, some Jvm.ClassFile.FieldType.boolean, 1, 0, 0, 1013, false),
  (12, "of", "(II)I", prog_14_method_25_code, 3, some Jvm.ClassFile.FieldType.int, 2, 2, 48, 1017, false),
  (12, "law", "(IIII)I", prog_14_method_29_code, 8, some Jvm.ClassFile.FieldType.int, 4, 3, 68, 1021, false),
  (12, "readLaw", "(I)Z", prog_14_method_28_code, 5, some Jvm.ClassFile.FieldType.boolean, 1, 2, 44, 1025, false),
  (12, "letterOf", "(I)I", prog_14_method_27_code, 1, some Jvm.ClassFile.FieldType.int, 1, 0, 0, 1028, false),
  (12, "ofCause", "(III)I", prog_14_method_30_code, 4, some Jvm.ClassFile.FieldType.int, 3, 1, 21, 1032, false),
  (12, "isLaw", "(I)Z", prog_14_method_26_code, 2, some Jvm.ClassFile.FieldType.boolean, 1, 0, 0, 1036, false),
  (12, "use", "(I)I", prog_14_method_31_code, 3, some Jvm.ClassFile.FieldType.int, 1, 1, 21, 1040, false),
  (12, "cause", "(IIII)I", prog_14_method_35_code, 5, some Jvm.ClassFile.FieldType.int, 4, 3, 74, 1044, false),
  (12, "isHard", "(I)Z", prog_14_method_34_code, 1, some Jvm.ClassFile.FieldType.boolean, 1, 1, 22, 1047, false),
  (12, "ruling", "(IIIII)I", prog_14_method_33_code, 8, some Jvm.ClassFile.FieldType.int, 5, 2, 47, 1051, false),
  (12, "isSo", "(IIIII)Z", prog_14_method_32_code, 7, some Jvm.ClassFile.FieldType.boolean, 5, 1, 21, 1055, false),
  (12, "shake", "(II)I", prog_14_method_39_code, 4, some Jvm.ClassFile.FieldType.int, 2, 5, 124, 1059, false),
  (12, "shaken", "(II)V", prog_14_method_37_code, 5, none, 2, 4, 100, 1063, false),
  (12, "pair", "(III)V", prog_14_method_36_code, 7, none, 3, 3, 74, 1067, false),
  (12, "closed", "()I", prog_14_method_19_code, 5, some Jvm.ClassFile.FieldType.int, 0, 0, 0, 1071, false),
  (12, "doing", "(IIII)I", prog_14_method_41_code, 8, some Jvm.ClassFile.FieldType.int, 4, 5, 124, 1075, false),
  (12, "areHard", "(II)Z", prog_14_method_40_code, 4, some Jvm.ClassFile.FieldType.boolean, 2, 2, 42, 1079, false),
  (12, "turn", "()I", prog_14_method_44_code, 1, some Jvm.ClassFile.FieldType.int, 0, 3, 71, 1083, false),
  (12, "turned", "(I)I", prog_14_method_42_code, 4, some Jvm.ClassFile.FieldType.int, 1, 2, 48, 1087, false),
  (12, "spoon", "()I", prog_14_method_45_code, 1, some Jvm.ClassFile.FieldType.int, 0, 3, 71, 1091, false),
  (12, "spooned", "(I)I", prog_14_method_43_code, 4, some Jvm.ClassFile.FieldType.int, 1, 2, 48, 1095, false),
  (12, "next", "(II)I", prog_14_method_47_code, 3, some Jvm.ClassFile.FieldType.int, 2, 6, 147, 1099, false),
  (12, "nextOf", "(III)I", prog_14_method_38_code, 4, some Jvm.ClassFile.FieldType.int, 3, 5, 124, 1103, false),
  (12, "still", "(III)I", prog_14_method_48_code, 6, some Jvm.ClassFile.FieldType.int, 3, 6, 147, 1107, false),
  (12, "clearMet", "()V", prog_14_method_46_code, 2, none, 0, 0, 0, 1111, false),
  (12, "soon", "(III)I", prog_14_method_52_code, 5, some Jvm.ClassFile.FieldType.int, 3, 7, 172, 1115, false),
  (12, "whySoon", "(III)I", prog_14_method_51_code, 4, some Jvm.ClassFile.FieldType.int, 3, 2, 42, 1119, false),
  (12, "soonOf", "(III)I", prog_14_method_50_code, 6, some Jvm.ClassFile.FieldType.int, 3, 6, 147, 1123, false),
  (12, "isOnTop", "(II)Z", prog_14_method_49_code, 3, some Jvm.ClassFile.FieldType.boolean, 2, 2, 48, 1127, false),
  (12, "boss", "(III)I", prog_14_method_53_code, 11, some Jvm.ClassFile.FieldType.int, 3, 7, 172, 1131, false),
  (12, "mix", "(II)I", prog_14_method_55_code, 3, some Jvm.ClassFile.FieldType.int, 2, 3, 74, 1135, false),
  (12, "valueOf", "(II)I", prog_14_method_54_code, 7, some Jvm.ClassFile.FieldType.int, 2, 2, 48, 1139, false),
  (12, "plan", "(III)I", prog_14_method_59_code, 8, some Jvm.ClassFile.FieldType.int, 3, 7, 173, 1143, false),
  (12, "search", "(III)V", prog_14_method_57_code, 7, none, 3, 6, 147, 1147, false),
  (12, "comes", "(III)V", prog_14_method_56_code, 4, none, 3, 0, 0, 1151, false),
  (12, "actOf", "(II)I", prog_14_method_58_code, 4, some Jvm.ClassFile.FieldType.int, 2, 0, 0, 1155, false),
  (12, "way", "(III)I", prog_14_method_60_code, 4, some Jvm.ClassFile.FieldType.int, 3, 7, 173, 1159, false),
  (12, "come", "(III)I", prog_14_method_62_code, 6, some Jvm.ClassFile.FieldType.int, 3, 7, 171, 1163, false),
  (12, "layGoes", "(II)V", prog_14_method_61_code, 5, none, 2, 6, 147, 1167, false),
  (12, "bare", "(I)I", prog_14_method_63_code, 4, some Jvm.ClassFile.FieldType.int, 1, 7, 171, 1171, false),
  (12, "odds", "(IIII)J", prog_14_method_65_code, 8, some Jvm.ClassFile.FieldType.long, 4, 7, 171, 1175, false),
  (12, "common", "(JJ)J", prog_14_method_64_code, 10, some Jvm.ClassFile.FieldType.long, 2, 0, 0, 1179, false),
  (12, "reading", "(II)I", prog_14_method_66_code, 3, some Jvm.ClassFile.FieldType.int, 2, 1, 21, 1183, false),
  (12, "back", "(I)I", prog_14_method_67_code, 2, some Jvm.ClassFile.FieldType.int, 1, 1, 22, 1187, false),
  (12, "fits", "(II)I", prog_14_method_69_code, 5, some Jvm.ClassFile.FieldType.int, 2, 5, 124, 1191, false),
  (12, "isRead", "()Z", prog_14_method_68_code, 2, some Jvm.ClassFile.FieldType.boolean, 0, 0, 0, 1195, false),
  (12, "which", "(IIIIII)I", prog_14_method_70_code, 12, some Jvm.ClassFile.FieldType.int, 6, 5, 124, 1199, false),
  (12, "bears", "(II)I", prog_14_method_71_code, 5, some Jvm.ClassFile.FieldType.int, 2, 6, 147, 1203, false),
  (12, "sheet", "(III)I", prog_14_method_72_code, 5, some Jvm.ClassFile.FieldType.int, 3, 2, 42, 1207, false),
  (12, "lose", "(I)I", prog_14_method_73_code, 3, some Jvm.ClassFile.FieldType.int, 1, 2, 42, 1211, false),
  (12, "put", "(III)I", prog_14_method_74_code, 4, some Jvm.ClassFile.FieldType.int, 3, 2, 42, 1215, false),
  (12, "cell", "(III)J", prog_14_method_75_code, 4, some Jvm.ClassFile.FieldType.long, 3, 2, 42, 1219, false),
  (12, "lost", "(I)J", prog_14_method_4_code, 2, some Jvm.ClassFile.FieldType.long, 1, 0, 0, 1223, false),
  (12, "copy", "(IIIII)I", prog_14_method_76_code, 10, some Jvm.ClassFile.FieldType.int, 5, 2, 42, 1227, false),
  (12, "tell", "(I)I", prog_14_method_78_code, 3, some Jvm.ClassFile.FieldType.int, 1, 1, 21, 1231, false),
  (12, "begins", "(I)V", prog_14_method_77_code, 2, none, 1, 0, 0, 1235, false),
  (12, "sift", "(I)I", prog_14_method_79_code, 2, some Jvm.ClassFile.FieldType.int, 1, 1, 21, 1239, false),
  (12, "as", "(II)I", prog_14_method_80_code, 3, some Jvm.ClassFile.FieldType.int, 2, 1, 22, 1243, false),
  (12, "trace", "()I", prog_14_method_81_code, 1, some Jvm.ClassFile.FieldType.int, 0, 0, 0, 1247, false),
  (12, "fault", "()I", prog_14_method_82_code, 1, some Jvm.ClassFile.FieldType.int, 0, 0, 0, 1251, false),
  (12, "many", "(I)I", prog_14_method_83_code, 2, some Jvm.ClassFile.FieldType.int, 1, 0, 0, 1255, false),
  (13, "law", "([I)Z", code, 4, some Jvm.ClassFile.FieldType.boolean, 1, 8, 202, 0, true)]
def mt (m : Nat) : Nat × String × String × ByteArray × Nat × Option FieldType × Nat × Nat × Nat × Nat × Bool := ((if m < 70 then mtab0[m]? else if m < 140 then mtab1[m - 70]? else mtab2[m - 140]?)).getD (0, "", "", ⟨#[]⟩, 0, none, 0, 0, 0, 0, false)
def mO (m : Nat) : Nat := (mt m).1
def mY (m : Nat) : MethodName := ⟨on (mt m).1, (mt m).2.1, (mt m).2.2.1⟩
def mB (m : Nat) : ByteArray := (mt m).2.2.2.1
def mL (m : Nat) : Nat := (mt m).2.2.2.2.1
def mR (m : Nat) : Option FieldType := (mt m).2.2.2.2.2.1
def mA (m : Nat) : Nat := (mt m).2.2.2.2.2.2.1
def mF (m : Nat) : Nat := (mt m).2.2.2.2.2.2.2.1
def mLc (m : Nat) : Nat := (mt m).2.2.2.2.2.2.2.2.1
def mW (m : Nat) : Nat := (mt m).2.2.2.2.2.2.2.2.2.1
def mv (m : Nat) : Bool := (mt m).2.2.2.2.2.2.2.2.2.2
/-- fields by owner and index: the holder, the place, the word -/
def fldTab : List (Nat × Nat × Nat × Nat × Nat) := [(0, 11, 0, 0, 89), (7, 21, 0, 0, 90), (11, 103, 0, 0, 91), (7, 15, 0, 1, 92), (11, 96, 0, 1, 93), (5, 38, 0, 1, 94), (0, 25, 0, 1, 95), (0, 40, 0, 2, 96), (11, 204, 0, 2, 97), (0, 43, 0, 3, 98), (11, 339, 0, 3, 99), (0, 17, 0, 4, 100), (10, 7, 10, 0, 123), (11, 321, 10, 0, 124), (7, 9, 7, 0, 134), (7, 49, 7, 1, 135), (11, 345, 7, 1, 136), (8, 9, 8, 0, 148), (11, 245, 8, 0, 149), (8, 15, 8, 1, 150), (11, 248, 8, 1, 151), (8, 18, 8, 2, 152), (8, 21, 8, 3, 153), (8, 34, 8, 4, 154), (11, 242, 8, 4, 155), (9, 9, 9, 0, 172), (11, 72, 9, 0, 173), (9, 15, 9, 1, 174), (11, 291, 9, 1, 175), (9, 19, 9, 2, 176), (11, 301, 9, 2, 177), (9, 23, 9, 3, 178), (11, 295, 9, 3, 179), (11, 12, 11, 0, 189), (11, 20, 11, 1, 190), (11, 146, 11, 2, 191), (11, 166, 11, 3, 192), (11, 86, 11, 4, 193), (11, 93, 11, 5, 194), (11, 24, 11, 6, 195), (11, 28, 11, 7, 196), (11, 90, 11, 8, 197), (11, 33, 11, 9, 198), (11, 40, 11, 10, 199), (11, 266, 11, 11, 200), (11, 47, 11, 12, 201), (11, 54, 11, 13, 202), (11, 58, 11, 14, 203), (11, 61, 11, 15, 204), (11, 64, 11, 16, 205), (2, 12, 2, 0, 287), (2, 16, 2, 1, 288), (11, 107, 2, 1, 289), (1, 33, 2, 1, 290), (2, 19, 2, 2, 291), (11, 112, 2, 2, 292), (0, 79, 2, 2, 293), (2, 22, 2, 3, 294), (11, 115, 2, 3, 295), (2, 25, 2, 4, 296), (1, 25, 2, 4, 297), (11, 118, 2, 4, 298), (2, 28, 2, 5, 299), (1, 30, 2, 5, 300), (11, 121, 2, 5, 301), (1, 9, 1, 0, 443), (11, 155, 1, 0, 444), (1, 15, 1, 1, 445), (11, 160, 1, 1, 446), (1, 18, 1, 2, 447), (3, 35, 1, 2, 448), (11, 163, 1, 2, 449), (5, 10, 5, 0, 464), (11, 212, 5, 0, 465), (5, 16, 5, 1, 466), (11, 336, 5, 2, 467), (3, 19, 3, 0, 475), (7, 31, 3, 0, 476), (11, 151, 3, 0, 477), (3, 11, 3, 1, 478), (11, 332, 3, 1, 479), (12, 83, 12, 0, 826), (12, 257, 12, 1, 827), (12, 9, 12, 2, 828), (12, 13, 12, 3, 829), (12, 16, 12, 4, 830), (12, 92, 12, 5, 831), (12, 95, 12, 6, 832), (12, 122, 12, 7, 833), (12, 125, 12, 8, 834), (12, 19, 12, 9, 835), (12, 22, 12, 10, 836), (12, 25, 12, 11, 837), (12, 98, 12, 12, 838), (12, 119, 12, 13, 839), (12, 28, 12, 14, 840), (12, 31, 12, 15, 841), (12, 34, 12, 16, 842), (12, 37, 12, 17, 843), (12, 161, 12, 18, 844), (12, 173, 12, 19, 845), (12, 40, 12, 20, 846), (12, 43, 12, 21, 847), (12, 46, 12, 22, 848), (12, 49, 12, 23, 849), (12, 52, 12, 24, 850), (12, 56, 12, 25, 851), (12, 187, 12, 26, 852), (12, 59, 12, 27, 853), (12, 62, 12, 28, 854), (12, 65, 12, 29, 855), (12, 68, 12, 30, 856), (12, 230, 12, 31, 857), (12, 71, 12, 32, 858), (12, 74, 12, 33, 859), (12, 128, 12, 34, 860), (12, 77, 12, 35, 861), (12, 80, 12, 36, 862)]
def fld (o i : Nat) : Option (Nat × Nat) := (fldTab.find? (fun q => q.1 == o && q.2.1 == i)).map (fun q => (q.2.2.1, q.2.2.2.1))
/-- constant rows: owner, index, role, name -/
def stfTab : List (Nat × Nat × Nat × String) := [(0, 37, 500, "FACTORIALS"), (1, 21, 501, "LETTERS")]
def stf (o i : Nat) : Option Nat := (stfTab.find? (fun q => q.1 == o && q.2.1 == i)).map (fun q => q.2.2.1)
/-- new: owner, index, class, words of link, making, readiness -/
def newTab : List (Nat × Nat × Nat × Nat × Nat × Nat) := [(13, 7, 11, 73, 74, 56), (11, 9, 0, 81, 82, 57), (0, 9, 2, 87, 279, 63), (11, 18, 3, 113, 429, 67), (11, 31, 9, 115, 167, 61), (11, 37, 10, 117, 118, 58), (11, 44, 7, 128, 129, 59), (11, 51, 8, 142, 143, 60), (0, 59, 4, 315, 316, 64), (0, 62, 6, 328, 329, 65), (3, 9, 5, 434, 457, 69), (3, 17, 1, 436, 438, 68), (5, 7, 7, 462, 129, 59), (13, 10, 12, 820, 821, 62)]
def newt (o i : Nat) : Option Nat := (newTab.find? (fun q => q.1 == o && q.2.1 == i)).map (fun q => q.2.2.1)
/-- arrays of references: owner, index, tag, words of link and of the array -/
def anwTab : List (Nat × Nat × Nat × Nat × Nat) := [(0, 9, 21, 87, 88), (11, 18, 22, 113, 114), (11, 31, 23, 115, 116), (3, 9, 25, 434, 435), (3, 17, 24, 436, 437)]
def anwt (o i : Nat) : Option Nat := (anwTab.find? (fun q => q.1 == o && q.2.1 == i)).map (fun q => q.2.2.1)
def aName (t : Nat) : String := if t = 21 then "NutsUp$Grain" else if t = 22 then "NutsUp$Law" else if t = 23 then "NutsUp$Sheet" else if t = 24 then "NutsUp$Cause" else if t = 25 then "NutsUp$Motion" else ""
def aCls (t : Nat) : Nat := if t = 21 then 2 else if t = 22 then 3 else if t = 23 then 9 else if t = 24 then 1 else if t = 25 then 5 else 0
def ldcTab : List (Nat × Nat × Int × Nat) := [(0, 69, 1754760, 377), (15, 265, 1431655765, 560), (15, 266, 858993459, 561), (15, 267, 252645135, 562)]
def ldct (o i : Nat) : Option Int32 := (ldcTab.find? (fun q => q.1 == o && q.2.1 == i)).map (fun q => Int32.ofInt q.2.2.1)
def ld2Tab : List (Nat × Nat × Int × Nat) := [(11, 258, (-9223372036854775808), 701), (12, 86, (-9223372036854775808), 1176)]
def ld2t (o i : Nat) : Option Int64 := (ld2Tab.find? (fun q => q.1 == o && q.2.1 == i)).map (fun q => Int64.ofInt q.2.2.1)
/-- calls: owner, index, kind (0 static, 1 on an object, 2 a making, 3 static of a nest mate, 4 a making of one, 5 by the kind of the object, 6 of the class above, 7 copying), method, word -/
def calTab : List (Nat × Nat × Nat × Nat × Nat) := [(0, 3, 8, 1, 86), (0, 21, 0, 14, 266), (0, 29, 0, 16, 273), (0, 33, 0, 17, 276), (0, 46, 3, 23, 345), (0, 50, 0, 24, 348), (0, 56, 2, 18, 280), (0, 61, 2, 20, 317), (0, 64, 2, 21, 330), (0, 65, 1, 30, 373), (0, 70, 0, 32, 382), (0, 74, 0, 65, 557), (0, 82, 1, 86, 644), (0, 85, 0, 82, 648), (1, 3, 8, 1, 442), (2, 1, 2, 19, 283), (2, 7, 8, 1, 286), (2, 31, 5, 116, 790), (2, 35, 1, 115, 780), (3, 3, 8, 1, 433), (3, 23, 0, 43, 424), (3, 27, 2, 45, 439), (3, 30, 4, 46, 458), (3, 31, 0, 42, 421), (3, 39, 1, 53, 508), (4, 1, 2, 19, 320), (4, 7, 1, 115, 769), (4, 13, 5, 116, 773), (5, 1, 8, 1, 461), (5, 9, 4, 4, 463), (5, 20, 3, 23, 537), (5, 26, 0, 60, 538), (5, 32, 1, 29, 602), (5, 42, 1, 62, 603), (5, 46, 1, 64, 604), (6, 1, 2, 22, 333), (6, 7, 1, 115, 784), (6, 13, 6, 114, 785), (6, 17, 5, 116, 786), (7, 3, 8, 1, 133), (7, 25, 1, 52, 528), (7, 35, 1, 58, 529), (7, 41, 1, 63, 548), (7, 45, 0, 32, 552), (8, 3, 8, 1, 147), (8, 24, 3, 23, 360), (8, 28, 0, 60, 665), (9, 3, 8, 1, 171), (9, 26, 0, 24, 737), (10, 1, 8, 1, 122), (11, 3, 8, 1, 78), (11, 11, 4, 2, 83), (11, 39, 4, 3, 119), (11, 46, 4, 4, 130), (11, 53, 4, 5, 144), (11, 67, 4, 6, 168), (11, 68, 1, 8, 245), (11, 75, 0, 13, 263), (11, 79, 1, 15, 269), (11, 83, 1, 25, 351), (11, 99, 1, 28, 365), (11, 124, 1, 29, 369), (11, 128, 1, 31, 378), (11, 132, 1, 34, 389), (11, 135, 0, 32, 393), (11, 138, 1, 36, 398), (11, 142, 1, 38, 406), (11, 145, 0, 41, 418), (11, 149, 2, 44, 430), (11, 169, 0, 50, 497), (11, 172, 1, 51, 500), (11, 176, 1, 52, 504), (11, 180, 1, 55, 516), (11, 184, 0, 67, 567), (11, 188, 1, 69, 574), (11, 191, 1, 72, 586), (11, 194, 1, 56, 520), (11, 198, 1, 75, 598), (11, 207, 0, 60, 609), (11, 215, 1, 78, 614), (11, 219, 1, 77, 625), (11, 223, 1, 57, 524), (11, 227, 0, 81, 626), (11, 230, 0, 82, 629), (11, 235, 1, 84, 636), (11, 238, 1, 89, 657), (11, 251, 1, 93, 674), (11, 254, 1, 96, 686), (11, 260, 0, 99, 702), (11, 263, 1, 103, 717), (11, 269, 1, 85, 640), (11, 272, 0, 79, 618), (11, 275, 1, 62, 544), (11, 278, 0, 9, 249), (11, 281, 0, 10, 252), (11, 284, 1, 11, 255), (11, 287, 1, 107, 733), (11, 298, 1, 110, 746), (11, 304, 1, 12, 259), (11, 308, 7, 0, 690), (11, 314, 5, 118, 762), (11, 318, 5, 121, 795), (11, 324, 0, 23, 355), (11, 328, 1, 26, 356), (11, 342, 1, 59, 533), (11, 348, 1, 64, 553), (11, 351, 1, 70, 578), (11, 354, 1, 73, 590), (11, 357, 1, 87, 649), (11, 360, 1, 90, 661), (11, 363, 1, 91, 666), (11, 367, 1, 92, 670), (12, 1, 8, 1, 825), (12, 88, 0, 129, 945), (12, 101, 0, 128, 942), (12, 105, 0, 130, 948), (12, 108, 1, 131, 951), (12, 112, 1, 132, 955), (12, 116, 1, 133, 959), (12, 131, 1, 134, 963), (12, 135, 1, 135, 967), (12, 139, 0, 142, 995), (12, 142, 1, 137, 975), (12, 145, 1, 138, 979), (12, 148, 1, 139, 983), (12, 151, 1, 140, 987), (12, 154, 1, 141, 991), (12, 158, 1, 146, 1010), (12, 164, 0, 150, 1026), (12, 167, 1, 149, 1022), (12, 170, 1, 152, 1033), (12, 176, 1, 157, 1052), (12, 180, 0, 155, 1045), (12, 183, 1, 156, 1048), (12, 190, 1, 160, 1064), (12, 194, 1, 159, 1060), (12, 198, 1, 161, 1068), (12, 202, 1, 163, 1076), (12, 205, 1, 165, 1084), (12, 208, 1, 167, 1092), (12, 211, 1, 169, 1100), (12, 215, 1, 171, 1108), (12, 218, 1, 175, 1124), (12, 221, 1, 173, 1116), (12, 224, 1, 174, 1120), (12, 227, 1, 178, 1136), (12, 233, 1, 181, 1148), (12, 236, 1, 180, 1144), (12, 239, 1, 182, 1152), (12, 242, 1, 185, 1164), (12, 245, 0, 188, 1177), (12, 249, 1, 192, 1192), (12, 253, 1, 199, 1220), (12, 260, 1, 202, 1232), (13, 9, 2, 0, 75), (13, 12, 2, 126, 822), (13, 13, 1, 7, 241), (13, 17, 1, 127, 938), (13, 18, 1, 27, 361), (13, 22, 1, 136, 971), (13, 23, 1, 33, 385), (13, 27, 1, 143, 998), (13, 28, 1, 35, 394), (13, 32, 1, 144, 1002), (13, 33, 1, 37, 402), (13, 36, 1, 145, 1006), (13, 37, 1, 39, 410), (13, 40, 1, 147, 1014), (13, 41, 1, 40, 414), (13, 44, 1, 148, 1018), (13, 45, 1, 47, 485), (13, 49, 1, 151, 1029), (13, 50, 1, 48, 489), (13, 53, 1, 153, 1037), (13, 54, 1, 49, 493), (13, 57, 1, 154, 1041), (13, 58, 1, 54, 512), (13, 61, 1, 158, 1056), (13, 62, 1, 66, 563), (13, 65, 1, 162, 1072), (13, 66, 1, 68, 570), (13, 69, 1, 164, 1080), (13, 70, 1, 71, 582), (13, 73, 1, 166, 1088), (13, 74, 1, 74, 594), (13, 77, 1, 168, 1096), (13, 78, 1, 76, 605), (13, 81, 1, 170, 1104), (13, 82, 1, 77, 610), (13, 85, 1, 172, 1112), (13, 86, 1, 80, 621), (13, 89, 1, 176, 1128), (13, 90, 1, 83, 632), (13, 93, 1, 177, 1132), (13, 94, 1, 88, 653), (13, 97, 1, 179, 1140), (13, 98, 1, 94, 678), (13, 101, 1, 183, 1156), (13, 102, 1, 95, 682), (13, 105, 1, 184, 1160), (13, 106, 1, 97, 693), (13, 109, 1, 186, 1168), (13, 110, 1, 98, 697), (13, 114, 1, 187, 1172), (13, 115, 1, 100, 705), (13, 118, 1, 189, 1180), (13, 119, 1, 101, 709), (13, 122, 1, 190, 1184), (13, 123, 1, 102, 713), (13, 126, 1, 191, 1188), (13, 127, 1, 104, 721), (13, 131, 1, 193, 1196), (13, 132, 1, 105, 725), (13, 135, 1, 194, 1200), (13, 136, 1, 106, 729), (13, 139, 1, 195, 1204), (13, 140, 1, 108, 738), (13, 143, 1, 196, 1208), (13, 144, 1, 109, 742), (13, 147, 1, 197, 1212), (13, 148, 1, 111, 750), (13, 152, 1, 198, 1216), (13, 153, 1, 112, 754), (13, 157, 1, 200, 1224), (13, 158, 1, 113, 758), (13, 161, 1, 201, 1228), (13, 162, 1, 119, 791), (13, 165, 1, 203, 1236), (13, 166, 1, 122, 804), (13, 169, 1, 204, 1240), (13, 170, 1, 123, 808), (13, 173, 1, 205, 1244), (13, 174, 1, 124, 812), (13, 177, 1, 206, 1248), (13, 178, 1, 125, 816), (13, 181, 1, 207, 1252), (18, 13, 0, 61, 541)]
def cal (o i : Nat) : Option (Nat × Nat) := (calTab.find? (fun q => q.1 == o && q.2.1 == i)).map (fun q => (q.2.2.1, q.2.2.2.1))
def virTab : List (Nat × Nat × Nat × Nat) := [(2, 31, 3, 116), (2, 31, 5, 116), (2, 31, 7, 116), (4, 13, 5, 116), (4, 13, 7, 116), (6, 17, 7, 116), (11, 314, 3, 118), (11, 314, 5, 114), (11, 314, 7, 117), (11, 318, 3, 121), (11, 318, 5, 121), (11, 318, 7, 120)]
def vir (o i t : Nat) : Option Nat := (virTab.find? (fun q => q.1 == o && q.2.1 == i && q.2.2.1 == t)).map (fun q => q.2.2.2)
