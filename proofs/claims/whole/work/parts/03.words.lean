/-! The tables of part 01 stand in the words of the claim. -/
def layTab : List (List Nat) := [[101, 103, 105, 107, 109], [450, 452, 454], [302, 304, 306, 308, 310, 312], [480, 482], [321, 322, 323, 324, 325, 326], [468, 470, 472], [336, 337, 338, 339, 340, 341], [137, 139], [156, 158, 160, 162, 164], [180, 182, 184, 186], [125], [206, 208, 210, 212, 214, 216, 218, 220, 222, 224, 226, 228, 230, 232, 234, 236, 238], [863, 865, 867, 869, 871, 873, 875, 877, 879, 881, 883, 885, 887, 889, 891, 893, 895, 897, 899, 901, 903, 905, 907, 909, 911, 913, 915, 917, 919, 921, 923, 925, 927, 929, 931, 933, 935]]
/-- of each method the word that says whether it is static -/
def staTab : List Nat := [76, 79, 84, 120, 131, 145, 169, 242, 247, 250, 253, 257, 260, 264, 267, 270, 274, 277, 281, 284, 318, 331, 334, 346, 349, 353, 357, 362, 367, 370, 375, 379, 383, 386, 391, 395, 400, 403, 408, 411, 415, 419, 422, 425, 431, 440, 459, 486, 490, 494, 498, 502, 505, 509, 513, 518, 522, 525, 530, 534, 539, 542, 545, 550, 554, 558, 564, 568, 571, 576, 579, 583, 588, 591, 595, 599, 606, 611, 616, 619, 622, 627, 630, 633, 638, 641, 646, 650, 654, 659, 662, 668, 671, 675, 679, 683, 688, 694, 698, 703, 706, 710, 714, 719, 722, 726, 730, 734, 739, 743, 747, 751, 755, 759, 767, 770, 778, 782, 763, 792, 801, 796, 805, 809, 813, 817, 823, 939, 943, 946, 949, 953, 957, 961, 965, 969, 972, 977, 981, 985, 989, 993, 996, 999, 1003, 1007, 1012, 1015, 1019, 1024, 1027, 1030, 1035, 1038, 1042, 1046, 1050, 1054, 1057, 1062, 1066, 1070, 1073, 1078, 1081, 1086, 1089, 1094, 1097, 1102, 1105, 1110, 1113, 1118, 1122, 1126, 1129, 1133, 1138, 1141, 1146, 1150, 1154, 1157, 1161, 1166, 1169, 1173, 1178, 1181, 1185, 1189, 1194, 1197, 1201, 1205, 1209, 1213, 1217, 1222, 1225, 1229, 1234, 1237, 1241, 1245, 1249, 1253]
def selTab : List Nat := [999999, 999999, 999999, 999999, 999999, 999999, 999999, 243, 0, 999999, 999999, 1, 261, 999999, 999999, 271, 999999, 999999, 999999, 999999, 999999, 999999, 999999, 999999, 999999, 2, 358, 363, 3, 371, 4, 380, 999999, 387, 5, 396, 6, 404, 7, 412, 416, 999999, 999999, 999999, 999999, 999999, 999999, 487, 491, 495, 999999, 8, 506, 510, 514, 9, 10, 526, 531, 535, 999999, 999999, 546, 11, 555, 999999, 565, 999999, 572, 12, 580, 584, 13, 592, 596, 600, 607, 612, 14, 999999, 623, 999999, 999999, 634, 15, 642, 16, 651, 655, 17, 663, 18, 672, 676, 680, 684, 19, 695, 699, 999999, 707, 711, 715, 20, 723, 727, 731, 735, 740, 744, 748, 752, 756, 760, 999999, 771, 1258, 999999, 764, 793, 999999, 797, 806, 810, 814, 818, 999999, 940, 999999, 999999, 999999, 21, 22, 23, 24, 25, 973, 26, 27, 28, 29, 30, 999999, 1000, 1004, 1008, 31, 1016, 1020, 32, 999999, 1031, 33, 1039, 1043, 999999, 34, 35, 1058, 36, 37, 38, 1074, 39, 1082, 40, 1090, 41, 1098, 42, 1106, 43, 1114, 44, 45, 46, 1130, 1134, 47, 1142, 48, 49, 50, 1158, 1162, 51, 1170, 1174, 999999, 1182, 1186, 1190, 52, 1198, 1202, 1206, 1210, 1214, 1218, 53, 1226, 1230, 54, 1238, 1242, 1246, 1250, 1254]
def iniTab : List Nat := [57, 68, 63, 67, 64, 69, 65, 59, 60, 61, 58, 56, 62, 55, 999999, 70, 71, 72, 66]
/-- by the kind of the object: owner, index, tag, what is run, what is named first, the class that is named, its word, the word of the choice -/
def virX : List (Nat × Nat × Nat × Nat × Nat × Nat × Nat × Nat × Nat) := [(2, 31, 3, 116, 116, 2, 1257, 1258, 790), (2, 31, 5, 116, 116, 2, 1257, 1259, 790), (2, 31, 7, 116, 116, 2, 1257, 1260, 790), (4, 13, 5, 116, 116, 4, 774, 776, 773), (4, 13, 7, 116, 116, 4, 774, 777, 773), (6, 17, 7, 116, 116, 6, 787, 788, 786), (11, 314, 3, 118, 118, 2, 765, 764, 762), (11, 314, 5, 114, 118, 2, 765, 766, 762), (11, 314, 7, 117, 118, 2, 765, 781, 762), (11, 318, 3, 121, 121, 2, 798, 797, 795), (11, 318, 5, 121, 121, 2, 798, 799, 795), (11, 318, 7, 120, 121, 2, 798, 800, 795)]
def supX : List (Nat × Nat × Nat × Nat × Nat) := [(6, 13, 114, 1256, 342)]
def goodWs : List Jvm.Cond := lw_tbl.filter goodWord
def nestW : Jvm.Cond → Bool
  | .methodLinkNest .. => true
  | .fieldLinkNest .. => true
  | .castable .. => true
  | .arrayOver (.object _) => true
  | _ => false
def nestWs : List Jvm.Cond := lw_tbl.filter nestW
theorem good_at {i : Nat} {w : Jvm.Cond} (h : lw_tbl[i]? = some w) (hg : goodWord w = true) : w ∈ goodWs := List.mem_filter.mpr ⟨List.mem_of_getElem? h, hg⟩
theorem nest_at {i : Nat} {w : Jvm.Cond} (h : lw_tbl[i]? = some w) (hg : nestW w = true) : w ∈ nestWs := List.mem_filter.mpr ⟨List.mem_of_getElem? h, hg⟩
def wAt (i : Nat) (w : Jvm.Cond) : Bool := decide (lw_tbl[i]? = some w)
theorem wAt_eq {i : Nat} {w : Jvm.Cond} (h : wAt i w = true) : lw_tbl[i]? = some w := of_decide_eq_true h
def at0 (l : List Nat) (i : Nat) : Nat := (l[i]?).getD 999999
def okLay (ci k : Nat) : Bool := wAt (at0 ((layTab[ci]?).getD []) k) (u_lay (cn ci) (cT ci) k)
theorem okLay_all : (List.range 13).all (fun ci => (List.range (cSz ci)).all (fun k => okLay ci k)) = true := by decide +kernel
def okFld (q : Nat × Nat × Nat × Nat × Nat) : Bool := wAt q.2.2.2.2 (.fieldLink (on q.1) q.2.1 (cT q.2.2.1 q.2.2.2.1).1 (cT q.2.2.1 q.2.2.2.1).2.1 (cT q.2.2.1 q.2.2.2.1).2.2.1) && decide (q.2.2.1 < 13) && decide (q.2.2.2.1 < cSz q.2.2.1)
theorem okFld_all : fldTab.all okFld = true := by decide +kernel
def okCode (y : Nat) : Bool := wAt (at0 iniTab (mO y)) (.initialized (mY y).cls) && decide ((mY y).cls ≠ "java/lang/invoke/MethodHandle" ∧ (mY y).cls ≠ "java/lang/invoke/VarHandle") && decide ((parseMethodDescriptor (mY y).desc).map (fun d => d.parameters.length) = some (mA y)) && plainFor (mY y)
theorem okCode_all : (List.range 208).all (fun y => y == 1 || okCode y) = true := by decide +kernel
theorem okCode_t2 : (List.range 208).filter (fun y => !plainFor (mY y)) = [1] := by decide +kernel
set_option maxRecDepth 100000 in
theorem cod_0 : lw_tbl[77]? = some (Jvm.Cond.code (mY 0) (mB 0) (mL 0) (mR 0)) := rfl
set_option maxRecDepth 100000 in
theorem cod_1 : lw_tbl[80]? = some (Jvm.Cond.code (mY 1) (mB 1) (mL 1) (mR 1)) := rfl
set_option maxRecDepth 100000 in
theorem cod_2 : lw_tbl[85]? = some (Jvm.Cond.code (mY 2) (mB 2) (mL 2) (mR 2)) := rfl
set_option maxRecDepth 100000 in
theorem cod_3 : lw_tbl[121]? = some (Jvm.Cond.code (mY 3) (mB 3) (mL 3) (mR 3)) := rfl
set_option maxRecDepth 100000 in
theorem cod_4 : lw_tbl[132]? = some (Jvm.Cond.code (mY 4) (mB 4) (mL 4) (mR 4)) := rfl
set_option maxRecDepth 100000 in
theorem cod_5 : lw_tbl[146]? = some (Jvm.Cond.code (mY 5) (mB 5) (mL 5) (mR 5)) := rfl
set_option maxRecDepth 100000 in
theorem cod_6 : lw_tbl[170]? = some (Jvm.Cond.code (mY 6) (mB 6) (mL 6) (mR 6)) := rfl
set_option maxRecDepth 100000 in
theorem cod_7 : lw_tbl[244]? = some (Jvm.Cond.code (mY 7) (mB 7) (mL 7) (mR 7)) := rfl
set_option maxRecDepth 100000 in
theorem cod_8 : lw_tbl[248]? = some (Jvm.Cond.code (mY 8) (mB 8) (mL 8) (mR 8)) := rfl
set_option maxRecDepth 100000 in
theorem cod_9 : lw_tbl[251]? = some (Jvm.Cond.code (mY 9) (mB 9) (mL 9) (mR 9)) := rfl
set_option maxRecDepth 100000 in
theorem cod_10 : lw_tbl[254]? = some (Jvm.Cond.code (mY 10) (mB 10) (mL 10) (mR 10)) := rfl
set_option maxRecDepth 100000 in
theorem cod_11 : lw_tbl[258]? = some (Jvm.Cond.code (mY 11) (mB 11) (mL 11) (mR 11)) := rfl
set_option maxRecDepth 100000 in
theorem cod_12 : lw_tbl[262]? = some (Jvm.Cond.code (mY 12) (mB 12) (mL 12) (mR 12)) := rfl
set_option maxRecDepth 100000 in
theorem cod_13 : lw_tbl[265]? = some (Jvm.Cond.code (mY 13) (mB 13) (mL 13) (mR 13)) := rfl
set_option maxRecDepth 100000 in
theorem cod_14 : lw_tbl[268]? = some (Jvm.Cond.code (mY 14) (mB 14) (mL 14) (mR 14)) := rfl
set_option maxRecDepth 100000 in
theorem cod_15 : lw_tbl[272]? = some (Jvm.Cond.code (mY 15) (mB 15) (mL 15) (mR 15)) := rfl
set_option maxRecDepth 100000 in
theorem cod_16 : lw_tbl[275]? = some (Jvm.Cond.code (mY 16) (mB 16) (mL 16) (mR 16)) := rfl
set_option maxRecDepth 100000 in
theorem cod_17 : lw_tbl[278]? = some (Jvm.Cond.code (mY 17) (mB 17) (mL 17) (mR 17)) := rfl
set_option maxRecDepth 100000 in
theorem cod_18 : lw_tbl[282]? = some (Jvm.Cond.code (mY 18) (mB 18) (mL 18) (mR 18)) := rfl
set_option maxRecDepth 100000 in
theorem cod_19 : lw_tbl[285]? = some (Jvm.Cond.code (mY 19) (mB 19) (mL 19) (mR 19)) := rfl
set_option maxRecDepth 100000 in
theorem cod_20 : lw_tbl[319]? = some (Jvm.Cond.code (mY 20) (mB 20) (mL 20) (mR 20)) := rfl
set_option maxRecDepth 100000 in
theorem cod_21 : lw_tbl[332]? = some (Jvm.Cond.code (mY 21) (mB 21) (mL 21) (mR 21)) := rfl
set_option maxRecDepth 100000 in
theorem cod_22 : lw_tbl[335]? = some (Jvm.Cond.code (mY 22) (mB 22) (mL 22) (mR 22)) := rfl
set_option maxRecDepth 100000 in
theorem cod_23 : lw_tbl[347]? = some (Jvm.Cond.code (mY 23) (mB 23) (mL 23) (mR 23)) := rfl
set_option maxRecDepth 100000 in
theorem cod_24 : lw_tbl[350]? = some (Jvm.Cond.code (mY 24) (mB 24) (mL 24) (mR 24)) := rfl
set_option maxRecDepth 100000 in
theorem cod_25 : lw_tbl[354]? = some (Jvm.Cond.code (mY 25) (mB 25) (mL 25) (mR 25)) := rfl
set_option maxRecDepth 100000 in
theorem cod_26 : lw_tbl[359]? = some (Jvm.Cond.code (mY 26) (mB 26) (mL 26) (mR 26)) := rfl
set_option maxRecDepth 100000 in
theorem cod_27 : lw_tbl[364]? = some (Jvm.Cond.code (mY 27) (mB 27) (mL 27) (mR 27)) := rfl
set_option maxRecDepth 100000 in
theorem cod_28 : lw_tbl[368]? = some (Jvm.Cond.code (mY 28) (mB 28) (mL 28) (mR 28)) := rfl
set_option maxRecDepth 100000 in
theorem cod_29 : lw_tbl[372]? = some (Jvm.Cond.code (mY 29) (mB 29) (mL 29) (mR 29)) := rfl
set_option maxRecDepth 100000 in
theorem cod_30 : lw_tbl[376]? = some (Jvm.Cond.code (mY 30) (mB 30) (mL 30) (mR 30)) := rfl
set_option maxRecDepth 100000 in
theorem cod_31 : lw_tbl[381]? = some (Jvm.Cond.code (mY 31) (mB 31) (mL 31) (mR 31)) := rfl
set_option maxRecDepth 100000 in
theorem cod_32 : lw_tbl[384]? = some (Jvm.Cond.code (mY 32) (mB 32) (mL 32) (mR 32)) := rfl
set_option maxRecDepth 100000 in
theorem cod_33 : lw_tbl[388]? = some (Jvm.Cond.code (mY 33) (mB 33) (mL 33) (mR 33)) := rfl
set_option maxRecDepth 100000 in
theorem cod_34 : lw_tbl[392]? = some (Jvm.Cond.code (mY 34) (mB 34) (mL 34) (mR 34)) := rfl
set_option maxRecDepth 100000 in
theorem cod_35 : lw_tbl[397]? = some (Jvm.Cond.code (mY 35) (mB 35) (mL 35) (mR 35)) := rfl
set_option maxRecDepth 100000 in
theorem cod_36 : lw_tbl[401]? = some (Jvm.Cond.code (mY 36) (mB 36) (mL 36) (mR 36)) := rfl
set_option maxRecDepth 100000 in
theorem cod_37 : lw_tbl[405]? = some (Jvm.Cond.code (mY 37) (mB 37) (mL 37) (mR 37)) := rfl
set_option maxRecDepth 100000 in
theorem cod_38 : lw_tbl[409]? = some (Jvm.Cond.code (mY 38) (mB 38) (mL 38) (mR 38)) := rfl
set_option maxRecDepth 100000 in
theorem cod_39 : lw_tbl[413]? = some (Jvm.Cond.code (mY 39) (mB 39) (mL 39) (mR 39)) := rfl
set_option maxRecDepth 100000 in
theorem cod_40 : lw_tbl[417]? = some (Jvm.Cond.code (mY 40) (mB 40) (mL 40) (mR 40)) := rfl
set_option maxRecDepth 100000 in
theorem cod_41 : lw_tbl[420]? = some (Jvm.Cond.code (mY 41) (mB 41) (mL 41) (mR 41)) := rfl
set_option maxRecDepth 100000 in
theorem cod_42 : lw_tbl[423]? = some (Jvm.Cond.code (mY 42) (mB 42) (mL 42) (mR 42)) := rfl
set_option maxRecDepth 100000 in
theorem cod_43 : lw_tbl[426]? = some (Jvm.Cond.code (mY 43) (mB 43) (mL 43) (mR 43)) := rfl
set_option maxRecDepth 100000 in
theorem cod_44 : lw_tbl[432]? = some (Jvm.Cond.code (mY 44) (mB 44) (mL 44) (mR 44)) := rfl
set_option maxRecDepth 100000 in
theorem cod_45 : lw_tbl[441]? = some (Jvm.Cond.code (mY 45) (mB 45) (mL 45) (mR 45)) := rfl
set_option maxRecDepth 100000 in
theorem cod_46 : lw_tbl[460]? = some (Jvm.Cond.code (mY 46) (mB 46) (mL 46) (mR 46)) := rfl
set_option maxRecDepth 100000 in
theorem cod_47 : lw_tbl[488]? = some (Jvm.Cond.code (mY 47) (mB 47) (mL 47) (mR 47)) := rfl
set_option maxRecDepth 100000 in
theorem cod_48 : lw_tbl[492]? = some (Jvm.Cond.code (mY 48) (mB 48) (mL 48) (mR 48)) := rfl
set_option maxRecDepth 100000 in
theorem cod_49 : lw_tbl[496]? = some (Jvm.Cond.code (mY 49) (mB 49) (mL 49) (mR 49)) := rfl
set_option maxRecDepth 100000 in
theorem cod_50 : lw_tbl[499]? = some (Jvm.Cond.code (mY 50) (mB 50) (mL 50) (mR 50)) := rfl
set_option maxRecDepth 100000 in
theorem cod_51 : lw_tbl[503]? = some (Jvm.Cond.code (mY 51) (mB 51) (mL 51) (mR 51)) := rfl
set_option maxRecDepth 100000 in
theorem cod_52 : lw_tbl[507]? = some (Jvm.Cond.code (mY 52) (mB 52) (mL 52) (mR 52)) := rfl
set_option maxRecDepth 100000 in
theorem cod_53 : lw_tbl[511]? = some (Jvm.Cond.code (mY 53) (mB 53) (mL 53) (mR 53)) := rfl
set_option maxRecDepth 100000 in
theorem cod_54 : lw_tbl[515]? = some (Jvm.Cond.code (mY 54) (mB 54) (mL 54) (mR 54)) := rfl
set_option maxRecDepth 100000 in
theorem cod_55 : lw_tbl[519]? = some (Jvm.Cond.code (mY 55) (mB 55) (mL 55) (mR 55)) := rfl
set_option maxRecDepth 100000 in
theorem cod_56 : lw_tbl[523]? = some (Jvm.Cond.code (mY 56) (mB 56) (mL 56) (mR 56)) := rfl
set_option maxRecDepth 100000 in
theorem cod_57 : lw_tbl[527]? = some (Jvm.Cond.code (mY 57) (mB 57) (mL 57) (mR 57)) := rfl
set_option maxRecDepth 100000 in
theorem cod_58 : lw_tbl[532]? = some (Jvm.Cond.code (mY 58) (mB 58) (mL 58) (mR 58)) := rfl
set_option maxRecDepth 100000 in
theorem cod_59 : lw_tbl[536]? = some (Jvm.Cond.code (mY 59) (mB 59) (mL 59) (mR 59)) := rfl
set_option maxRecDepth 100000 in
theorem cod_60 : lw_tbl[540]? = some (Jvm.Cond.code (mY 60) (mB 60) (mL 60) (mR 60)) := rfl
set_option maxRecDepth 100000 in
theorem cod_61 : lw_tbl[543]? = some (Jvm.Cond.code (mY 61) (mB 61) (mL 61) (mR 61)) := rfl
set_option maxRecDepth 100000 in
theorem cod_62 : lw_tbl[547]? = some (Jvm.Cond.code (mY 62) (mB 62) (mL 62) (mR 62)) := rfl
set_option maxRecDepth 100000 in
theorem cod_63 : lw_tbl[551]? = some (Jvm.Cond.code (mY 63) (mB 63) (mL 63) (mR 63)) := rfl
set_option maxRecDepth 100000 in
theorem cod_64 : lw_tbl[556]? = some (Jvm.Cond.code (mY 64) (mB 64) (mL 64) (mR 64)) := rfl
set_option maxRecDepth 100000 in
theorem cod_65 : lw_tbl[559]? = some (Jvm.Cond.code (mY 65) (mB 65) (mL 65) (mR 65)) := rfl
set_option maxRecDepth 100000 in
theorem cod_66 : lw_tbl[566]? = some (Jvm.Cond.code (mY 66) (mB 66) (mL 66) (mR 66)) := rfl
set_option maxRecDepth 100000 in
theorem cod_67 : lw_tbl[569]? = some (Jvm.Cond.code (mY 67) (mB 67) (mL 67) (mR 67)) := rfl
set_option maxRecDepth 100000 in
theorem cod_68 : lw_tbl[573]? = some (Jvm.Cond.code (mY 68) (mB 68) (mL 68) (mR 68)) := rfl
set_option maxRecDepth 100000 in
theorem cod_69 : lw_tbl[577]? = some (Jvm.Cond.code (mY 69) (mB 69) (mL 69) (mR 69)) := rfl
set_option maxRecDepth 100000 in
theorem cod_70 : lw_tbl[581]? = some (Jvm.Cond.code (mY 70) (mB 70) (mL 70) (mR 70)) := rfl
set_option maxRecDepth 100000 in
theorem cod_71 : lw_tbl[585]? = some (Jvm.Cond.code (mY 71) (mB 71) (mL 71) (mR 71)) := rfl
set_option maxRecDepth 100000 in
theorem cod_72 : lw_tbl[589]? = some (Jvm.Cond.code (mY 72) (mB 72) (mL 72) (mR 72)) := rfl
set_option maxRecDepth 100000 in
theorem cod_73 : lw_tbl[593]? = some (Jvm.Cond.code (mY 73) (mB 73) (mL 73) (mR 73)) := rfl
set_option maxRecDepth 100000 in
theorem cod_74 : lw_tbl[597]? = some (Jvm.Cond.code (mY 74) (mB 74) (mL 74) (mR 74)) := rfl
set_option maxRecDepth 100000 in
theorem cod_75 : lw_tbl[601]? = some (Jvm.Cond.code (mY 75) (mB 75) (mL 75) (mR 75)) := rfl
set_option maxRecDepth 100000 in
theorem cod_76 : lw_tbl[608]? = some (Jvm.Cond.code (mY 76) (mB 76) (mL 76) (mR 76)) := rfl
set_option maxRecDepth 100000 in
theorem cod_77 : lw_tbl[613]? = some (Jvm.Cond.code (mY 77) (mB 77) (mL 77) (mR 77)) := rfl
set_option maxRecDepth 100000 in
theorem cod_78 : lw_tbl[617]? = some (Jvm.Cond.code (mY 78) (mB 78) (mL 78) (mR 78)) := rfl
set_option maxRecDepth 100000 in
theorem cod_79 : lw_tbl[620]? = some (Jvm.Cond.code (mY 79) (mB 79) (mL 79) (mR 79)) := rfl
set_option maxRecDepth 100000 in
theorem cod_80 : lw_tbl[624]? = some (Jvm.Cond.code (mY 80) (mB 80) (mL 80) (mR 80)) := rfl
set_option maxRecDepth 100000 in
theorem cod_81 : lw_tbl[628]? = some (Jvm.Cond.code (mY 81) (mB 81) (mL 81) (mR 81)) := rfl
set_option maxRecDepth 100000 in
theorem cod_82 : lw_tbl[631]? = some (Jvm.Cond.code (mY 82) (mB 82) (mL 82) (mR 82)) := rfl
set_option maxRecDepth 100000 in
theorem cod_83 : lw_tbl[635]? = some (Jvm.Cond.code (mY 83) (mB 83) (mL 83) (mR 83)) := rfl
set_option maxRecDepth 100000 in
theorem cod_84 : lw_tbl[639]? = some (Jvm.Cond.code (mY 84) (mB 84) (mL 84) (mR 84)) := rfl
set_option maxRecDepth 100000 in
theorem cod_85 : lw_tbl[643]? = some (Jvm.Cond.code (mY 85) (mB 85) (mL 85) (mR 85)) := rfl
set_option maxRecDepth 100000 in
theorem cod_86 : lw_tbl[647]? = some (Jvm.Cond.code (mY 86) (mB 86) (mL 86) (mR 86)) := rfl
set_option maxRecDepth 100000 in
theorem cod_87 : lw_tbl[652]? = some (Jvm.Cond.code (mY 87) (mB 87) (mL 87) (mR 87)) := rfl
set_option maxRecDepth 100000 in
theorem cod_88 : lw_tbl[656]? = some (Jvm.Cond.code (mY 88) (mB 88) (mL 88) (mR 88)) := rfl
set_option maxRecDepth 100000 in
theorem cod_89 : lw_tbl[660]? = some (Jvm.Cond.code (mY 89) (mB 89) (mL 89) (mR 89)) := rfl
set_option maxRecDepth 100000 in
theorem cod_90 : lw_tbl[664]? = some (Jvm.Cond.code (mY 90) (mB 90) (mL 90) (mR 90)) := rfl
set_option maxRecDepth 100000 in
theorem cod_91 : lw_tbl[669]? = some (Jvm.Cond.code (mY 91) (mB 91) (mL 91) (mR 91)) := rfl
set_option maxRecDepth 100000 in
theorem cod_92 : lw_tbl[673]? = some (Jvm.Cond.code (mY 92) (mB 92) (mL 92) (mR 92)) := rfl
set_option maxRecDepth 100000 in
theorem cod_93 : lw_tbl[677]? = some (Jvm.Cond.code (mY 93) (mB 93) (mL 93) (mR 93)) := rfl
set_option maxRecDepth 100000 in
theorem cod_94 : lw_tbl[681]? = some (Jvm.Cond.code (mY 94) (mB 94) (mL 94) (mR 94)) := rfl
set_option maxRecDepth 100000 in
theorem cod_95 : lw_tbl[685]? = some (Jvm.Cond.code (mY 95) (mB 95) (mL 95) (mR 95)) := rfl
set_option maxRecDepth 100000 in
theorem cod_96 : lw_tbl[689]? = some (Jvm.Cond.code (mY 96) (mB 96) (mL 96) (mR 96)) := rfl
set_option maxRecDepth 100000 in
theorem cod_97 : lw_tbl[696]? = some (Jvm.Cond.code (mY 97) (mB 97) (mL 97) (mR 97)) := rfl
set_option maxRecDepth 100000 in
theorem cod_98 : lw_tbl[700]? = some (Jvm.Cond.code (mY 98) (mB 98) (mL 98) (mR 98)) := rfl
set_option maxRecDepth 100000 in
theorem cod_99 : lw_tbl[704]? = some (Jvm.Cond.code (mY 99) (mB 99) (mL 99) (mR 99)) := rfl
set_option maxRecDepth 100000 in
theorem cod_100 : lw_tbl[708]? = some (Jvm.Cond.code (mY 100) (mB 100) (mL 100) (mR 100)) := rfl
set_option maxRecDepth 100000 in
theorem cod_101 : lw_tbl[712]? = some (Jvm.Cond.code (mY 101) (mB 101) (mL 101) (mR 101)) := rfl
set_option maxRecDepth 100000 in
theorem cod_102 : lw_tbl[716]? = some (Jvm.Cond.code (mY 102) (mB 102) (mL 102) (mR 102)) := rfl
set_option maxRecDepth 100000 in
theorem cod_103 : lw_tbl[720]? = some (Jvm.Cond.code (mY 103) (mB 103) (mL 103) (mR 103)) := rfl
set_option maxRecDepth 100000 in
theorem cod_104 : lw_tbl[724]? = some (Jvm.Cond.code (mY 104) (mB 104) (mL 104) (mR 104)) := rfl
set_option maxRecDepth 100000 in
theorem cod_105 : lw_tbl[728]? = some (Jvm.Cond.code (mY 105) (mB 105) (mL 105) (mR 105)) := rfl
set_option maxRecDepth 100000 in
theorem cod_106 : lw_tbl[732]? = some (Jvm.Cond.code (mY 106) (mB 106) (mL 106) (mR 106)) := rfl
set_option maxRecDepth 100000 in
theorem cod_107 : lw_tbl[736]? = some (Jvm.Cond.code (mY 107) (mB 107) (mL 107) (mR 107)) := rfl
set_option maxRecDepth 100000 in
theorem cod_108 : lw_tbl[741]? = some (Jvm.Cond.code (mY 108) (mB 108) (mL 108) (mR 108)) := rfl
set_option maxRecDepth 100000 in
theorem cod_109 : lw_tbl[745]? = some (Jvm.Cond.code (mY 109) (mB 109) (mL 109) (mR 109)) := rfl
set_option maxRecDepth 100000 in
theorem cod_110 : lw_tbl[749]? = some (Jvm.Cond.code (mY 110) (mB 110) (mL 110) (mR 110)) := rfl
set_option maxRecDepth 100000 in
theorem cod_111 : lw_tbl[753]? = some (Jvm.Cond.code (mY 111) (mB 111) (mL 111) (mR 111)) := rfl
set_option maxRecDepth 100000 in
theorem cod_112 : lw_tbl[757]? = some (Jvm.Cond.code (mY 112) (mB 112) (mL 112) (mR 112)) := rfl
set_option maxRecDepth 100000 in
theorem cod_113 : lw_tbl[761]? = some (Jvm.Cond.code (mY 113) (mB 113) (mL 113) (mR 113)) := rfl
set_option maxRecDepth 100000 in
theorem cod_114 : lw_tbl[768]? = some (Jvm.Cond.code (mY 114) (mB 114) (mL 114) (mR 114)) := rfl
set_option maxRecDepth 100000 in
theorem cod_115 : lw_tbl[772]? = some (Jvm.Cond.code (mY 115) (mB 115) (mL 115) (mR 115)) := rfl
set_option maxRecDepth 100000 in
theorem cod_116 : lw_tbl[779]? = some (Jvm.Cond.code (mY 116) (mB 116) (mL 116) (mR 116)) := rfl
set_option maxRecDepth 100000 in
theorem cod_117 : lw_tbl[783]? = some (Jvm.Cond.code (mY 117) (mB 117) (mL 117) (mR 117)) := rfl
set_option maxRecDepth 100000 in
theorem cod_118 : lw_tbl[789]? = some (Jvm.Cond.code (mY 118) (mB 118) (mL 118) (mR 118)) := rfl
set_option maxRecDepth 100000 in
theorem cod_119 : lw_tbl[794]? = some (Jvm.Cond.code (mY 119) (mB 119) (mL 119) (mR 119)) := rfl
set_option maxRecDepth 100000 in
theorem cod_120 : lw_tbl[802]? = some (Jvm.Cond.code (mY 120) (mB 120) (mL 120) (mR 120)) := rfl
set_option maxRecDepth 100000 in
theorem cod_121 : lw_tbl[803]? = some (Jvm.Cond.code (mY 121) (mB 121) (mL 121) (mR 121)) := rfl
set_option maxRecDepth 100000 in
theorem cod_122 : lw_tbl[807]? = some (Jvm.Cond.code (mY 122) (mB 122) (mL 122) (mR 122)) := rfl
set_option maxRecDepth 100000 in
theorem cod_123 : lw_tbl[811]? = some (Jvm.Cond.code (mY 123) (mB 123) (mL 123) (mR 123)) := rfl
set_option maxRecDepth 100000 in
theorem cod_124 : lw_tbl[815]? = some (Jvm.Cond.code (mY 124) (mB 124) (mL 124) (mR 124)) := rfl
set_option maxRecDepth 100000 in
theorem cod_125 : lw_tbl[819]? = some (Jvm.Cond.code (mY 125) (mB 125) (mL 125) (mR 125)) := rfl
set_option maxRecDepth 100000 in
theorem cod_126 : lw_tbl[824]? = some (Jvm.Cond.code (mY 126) (mB 126) (mL 126) (mR 126)) := rfl
set_option maxRecDepth 100000 in
theorem cod_127 : lw_tbl[941]? = some (Jvm.Cond.code (mY 127) (mB 127) (mL 127) (mR 127)) := rfl
set_option maxRecDepth 100000 in
theorem cod_128 : lw_tbl[944]? = some (Jvm.Cond.code (mY 128) (mB 128) (mL 128) (mR 128)) := rfl
set_option maxRecDepth 100000 in
theorem cod_129 : lw_tbl[947]? = some (Jvm.Cond.code (mY 129) (mB 129) (mL 129) (mR 129)) := rfl
set_option maxRecDepth 100000 in
theorem cod_130 : lw_tbl[950]? = some (Jvm.Cond.code (mY 130) (mB 130) (mL 130) (mR 130)) := rfl
set_option maxRecDepth 100000 in
theorem cod_131 : lw_tbl[954]? = some (Jvm.Cond.code (mY 131) (mB 131) (mL 131) (mR 131)) := rfl
set_option maxRecDepth 100000 in
theorem cod_132 : lw_tbl[958]? = some (Jvm.Cond.code (mY 132) (mB 132) (mL 132) (mR 132)) := rfl
set_option maxRecDepth 100000 in
theorem cod_133 : lw_tbl[962]? = some (Jvm.Cond.code (mY 133) (mB 133) (mL 133) (mR 133)) := rfl
set_option maxRecDepth 100000 in
theorem cod_134 : lw_tbl[966]? = some (Jvm.Cond.code (mY 134) (mB 134) (mL 134) (mR 134)) := rfl
set_option maxRecDepth 100000 in
theorem cod_135 : lw_tbl[970]? = some (Jvm.Cond.code (mY 135) (mB 135) (mL 135) (mR 135)) := rfl
set_option maxRecDepth 100000 in
theorem cod_136 : lw_tbl[974]? = some (Jvm.Cond.code (mY 136) (mB 136) (mL 136) (mR 136)) := rfl
set_option maxRecDepth 100000 in
theorem cod_137 : lw_tbl[978]? = some (Jvm.Cond.code (mY 137) (mB 137) (mL 137) (mR 137)) := rfl
set_option maxRecDepth 100000 in
theorem cod_138 : lw_tbl[982]? = some (Jvm.Cond.code (mY 138) (mB 138) (mL 138) (mR 138)) := rfl
set_option maxRecDepth 100000 in
theorem cod_139 : lw_tbl[986]? = some (Jvm.Cond.code (mY 139) (mB 139) (mL 139) (mR 139)) := rfl
set_option maxRecDepth 100000 in
theorem cod_140 : lw_tbl[990]? = some (Jvm.Cond.code (mY 140) (mB 140) (mL 140) (mR 140)) := rfl
set_option maxRecDepth 100000 in
theorem cod_141 : lw_tbl[994]? = some (Jvm.Cond.code (mY 141) (mB 141) (mL 141) (mR 141)) := rfl
set_option maxRecDepth 100000 in
theorem cod_142 : lw_tbl[997]? = some (Jvm.Cond.code (mY 142) (mB 142) (mL 142) (mR 142)) := rfl
set_option maxRecDepth 100000 in
theorem cod_143 : lw_tbl[1001]? = some (Jvm.Cond.code (mY 143) (mB 143) (mL 143) (mR 143)) := rfl
set_option maxRecDepth 100000 in
theorem cod_144 : lw_tbl[1005]? = some (Jvm.Cond.code (mY 144) (mB 144) (mL 144) (mR 144)) := rfl
set_option maxRecDepth 100000 in
theorem cod_145 : lw_tbl[1009]? = some (Jvm.Cond.code (mY 145) (mB 145) (mL 145) (mR 145)) := rfl
set_option maxRecDepth 100000 in
theorem cod_146 : lw_tbl[1013]? = some (Jvm.Cond.code (mY 146) (mB 146) (mL 146) (mR 146)) := rfl
set_option maxRecDepth 100000 in
theorem cod_147 : lw_tbl[1017]? = some (Jvm.Cond.code (mY 147) (mB 147) (mL 147) (mR 147)) := rfl
set_option maxRecDepth 100000 in
theorem cod_148 : lw_tbl[1021]? = some (Jvm.Cond.code (mY 148) (mB 148) (mL 148) (mR 148)) := rfl
set_option maxRecDepth 100000 in
theorem cod_149 : lw_tbl[1025]? = some (Jvm.Cond.code (mY 149) (mB 149) (mL 149) (mR 149)) := rfl
set_option maxRecDepth 100000 in
theorem cod_150 : lw_tbl[1028]? = some (Jvm.Cond.code (mY 150) (mB 150) (mL 150) (mR 150)) := rfl
set_option maxRecDepth 100000 in
theorem cod_151 : lw_tbl[1032]? = some (Jvm.Cond.code (mY 151) (mB 151) (mL 151) (mR 151)) := rfl
set_option maxRecDepth 100000 in
theorem cod_152 : lw_tbl[1036]? = some (Jvm.Cond.code (mY 152) (mB 152) (mL 152) (mR 152)) := rfl
set_option maxRecDepth 100000 in
theorem cod_153 : lw_tbl[1040]? = some (Jvm.Cond.code (mY 153) (mB 153) (mL 153) (mR 153)) := rfl
set_option maxRecDepth 100000 in
theorem cod_154 : lw_tbl[1044]? = some (Jvm.Cond.code (mY 154) (mB 154) (mL 154) (mR 154)) := rfl
set_option maxRecDepth 100000 in
theorem cod_155 : lw_tbl[1047]? = some (Jvm.Cond.code (mY 155) (mB 155) (mL 155) (mR 155)) := rfl
set_option maxRecDepth 100000 in
theorem cod_156 : lw_tbl[1051]? = some (Jvm.Cond.code (mY 156) (mB 156) (mL 156) (mR 156)) := rfl
set_option maxRecDepth 100000 in
theorem cod_157 : lw_tbl[1055]? = some (Jvm.Cond.code (mY 157) (mB 157) (mL 157) (mR 157)) := rfl
set_option maxRecDepth 100000 in
theorem cod_158 : lw_tbl[1059]? = some (Jvm.Cond.code (mY 158) (mB 158) (mL 158) (mR 158)) := rfl
set_option maxRecDepth 100000 in
theorem cod_159 : lw_tbl[1063]? = some (Jvm.Cond.code (mY 159) (mB 159) (mL 159) (mR 159)) := rfl
set_option maxRecDepth 100000 in
theorem cod_160 : lw_tbl[1067]? = some (Jvm.Cond.code (mY 160) (mB 160) (mL 160) (mR 160)) := rfl
set_option maxRecDepth 100000 in
theorem cod_161 : lw_tbl[1071]? = some (Jvm.Cond.code (mY 161) (mB 161) (mL 161) (mR 161)) := rfl
set_option maxRecDepth 100000 in
theorem cod_162 : lw_tbl[1075]? = some (Jvm.Cond.code (mY 162) (mB 162) (mL 162) (mR 162)) := rfl
set_option maxRecDepth 100000 in
theorem cod_163 : lw_tbl[1079]? = some (Jvm.Cond.code (mY 163) (mB 163) (mL 163) (mR 163)) := rfl
set_option maxRecDepth 100000 in
theorem cod_164 : lw_tbl[1083]? = some (Jvm.Cond.code (mY 164) (mB 164) (mL 164) (mR 164)) := rfl
set_option maxRecDepth 100000 in
theorem cod_165 : lw_tbl[1087]? = some (Jvm.Cond.code (mY 165) (mB 165) (mL 165) (mR 165)) := rfl
set_option maxRecDepth 100000 in
theorem cod_166 : lw_tbl[1091]? = some (Jvm.Cond.code (mY 166) (mB 166) (mL 166) (mR 166)) := rfl
set_option maxRecDepth 100000 in
theorem cod_167 : lw_tbl[1095]? = some (Jvm.Cond.code (mY 167) (mB 167) (mL 167) (mR 167)) := rfl
set_option maxRecDepth 100000 in
theorem cod_168 : lw_tbl[1099]? = some (Jvm.Cond.code (mY 168) (mB 168) (mL 168) (mR 168)) := rfl
set_option maxRecDepth 100000 in
theorem cod_169 : lw_tbl[1103]? = some (Jvm.Cond.code (mY 169) (mB 169) (mL 169) (mR 169)) := rfl
set_option maxRecDepth 100000 in
theorem cod_170 : lw_tbl[1107]? = some (Jvm.Cond.code (mY 170) (mB 170) (mL 170) (mR 170)) := rfl
set_option maxRecDepth 100000 in
theorem cod_171 : lw_tbl[1111]? = some (Jvm.Cond.code (mY 171) (mB 171) (mL 171) (mR 171)) := rfl
set_option maxRecDepth 100000 in
theorem cod_172 : lw_tbl[1115]? = some (Jvm.Cond.code (mY 172) (mB 172) (mL 172) (mR 172)) := rfl
set_option maxRecDepth 100000 in
theorem cod_173 : lw_tbl[1119]? = some (Jvm.Cond.code (mY 173) (mB 173) (mL 173) (mR 173)) := rfl
set_option maxRecDepth 100000 in
theorem cod_174 : lw_tbl[1123]? = some (Jvm.Cond.code (mY 174) (mB 174) (mL 174) (mR 174)) := rfl
set_option maxRecDepth 100000 in
theorem cod_175 : lw_tbl[1127]? = some (Jvm.Cond.code (mY 175) (mB 175) (mL 175) (mR 175)) := rfl
set_option maxRecDepth 100000 in
theorem cod_176 : lw_tbl[1131]? = some (Jvm.Cond.code (mY 176) (mB 176) (mL 176) (mR 176)) := rfl
set_option maxRecDepth 100000 in
theorem cod_177 : lw_tbl[1135]? = some (Jvm.Cond.code (mY 177) (mB 177) (mL 177) (mR 177)) := rfl
set_option maxRecDepth 100000 in
theorem cod_178 : lw_tbl[1139]? = some (Jvm.Cond.code (mY 178) (mB 178) (mL 178) (mR 178)) := rfl
set_option maxRecDepth 100000 in
theorem cod_179 : lw_tbl[1143]? = some (Jvm.Cond.code (mY 179) (mB 179) (mL 179) (mR 179)) := rfl
set_option maxRecDepth 100000 in
theorem cod_180 : lw_tbl[1147]? = some (Jvm.Cond.code (mY 180) (mB 180) (mL 180) (mR 180)) := rfl
set_option maxRecDepth 100000 in
theorem cod_181 : lw_tbl[1151]? = some (Jvm.Cond.code (mY 181) (mB 181) (mL 181) (mR 181)) := rfl
set_option maxRecDepth 100000 in
theorem cod_182 : lw_tbl[1155]? = some (Jvm.Cond.code (mY 182) (mB 182) (mL 182) (mR 182)) := rfl
set_option maxRecDepth 100000 in
theorem cod_183 : lw_tbl[1159]? = some (Jvm.Cond.code (mY 183) (mB 183) (mL 183) (mR 183)) := rfl
set_option maxRecDepth 100000 in
theorem cod_184 : lw_tbl[1163]? = some (Jvm.Cond.code (mY 184) (mB 184) (mL 184) (mR 184)) := rfl
set_option maxRecDepth 100000 in
theorem cod_185 : lw_tbl[1167]? = some (Jvm.Cond.code (mY 185) (mB 185) (mL 185) (mR 185)) := rfl
set_option maxRecDepth 100000 in
theorem cod_186 : lw_tbl[1171]? = some (Jvm.Cond.code (mY 186) (mB 186) (mL 186) (mR 186)) := rfl
set_option maxRecDepth 100000 in
theorem cod_187 : lw_tbl[1175]? = some (Jvm.Cond.code (mY 187) (mB 187) (mL 187) (mR 187)) := rfl
set_option maxRecDepth 100000 in
theorem cod_188 : lw_tbl[1179]? = some (Jvm.Cond.code (mY 188) (mB 188) (mL 188) (mR 188)) := rfl
set_option maxRecDepth 100000 in
theorem cod_189 : lw_tbl[1183]? = some (Jvm.Cond.code (mY 189) (mB 189) (mL 189) (mR 189)) := rfl
set_option maxRecDepth 100000 in
theorem cod_190 : lw_tbl[1187]? = some (Jvm.Cond.code (mY 190) (mB 190) (mL 190) (mR 190)) := rfl
set_option maxRecDepth 100000 in
theorem cod_191 : lw_tbl[1191]? = some (Jvm.Cond.code (mY 191) (mB 191) (mL 191) (mR 191)) := rfl
set_option maxRecDepth 100000 in
theorem cod_192 : lw_tbl[1195]? = some (Jvm.Cond.code (mY 192) (mB 192) (mL 192) (mR 192)) := rfl
set_option maxRecDepth 100000 in
theorem cod_193 : lw_tbl[1199]? = some (Jvm.Cond.code (mY 193) (mB 193) (mL 193) (mR 193)) := rfl
set_option maxRecDepth 100000 in
theorem cod_194 : lw_tbl[1203]? = some (Jvm.Cond.code (mY 194) (mB 194) (mL 194) (mR 194)) := rfl
set_option maxRecDepth 100000 in
theorem cod_195 : lw_tbl[1207]? = some (Jvm.Cond.code (mY 195) (mB 195) (mL 195) (mR 195)) := rfl
set_option maxRecDepth 100000 in
theorem cod_196 : lw_tbl[1211]? = some (Jvm.Cond.code (mY 196) (mB 196) (mL 196) (mR 196)) := rfl
set_option maxRecDepth 100000 in
theorem cod_197 : lw_tbl[1215]? = some (Jvm.Cond.code (mY 197) (mB 197) (mL 197) (mR 197)) := rfl
set_option maxRecDepth 100000 in
theorem cod_198 : lw_tbl[1219]? = some (Jvm.Cond.code (mY 198) (mB 198) (mL 198) (mR 198)) := rfl
set_option maxRecDepth 100000 in
theorem cod_199 : lw_tbl[1223]? = some (Jvm.Cond.code (mY 199) (mB 199) (mL 199) (mR 199)) := rfl
set_option maxRecDepth 100000 in
theorem cod_200 : lw_tbl[1227]? = some (Jvm.Cond.code (mY 200) (mB 200) (mL 200) (mR 200)) := rfl
set_option maxRecDepth 100000 in
theorem cod_201 : lw_tbl[1231]? = some (Jvm.Cond.code (mY 201) (mB 201) (mL 201) (mR 201)) := rfl
set_option maxRecDepth 100000 in
theorem cod_202 : lw_tbl[1235]? = some (Jvm.Cond.code (mY 202) (mB 202) (mL 202) (mR 202)) := rfl
set_option maxRecDepth 100000 in
theorem cod_203 : lw_tbl[1239]? = some (Jvm.Cond.code (mY 203) (mB 203) (mL 203) (mR 203)) := rfl
set_option maxRecDepth 100000 in
theorem cod_204 : lw_tbl[1243]? = some (Jvm.Cond.code (mY 204) (mB 204) (mL 204) (mR 204)) := rfl
set_option maxRecDepth 100000 in
theorem cod_205 : lw_tbl[1247]? = some (Jvm.Cond.code (mY 205) (mB 205) (mL 205) (mR 205)) := rfl
set_option maxRecDepth 100000 in
theorem cod_206 : lw_tbl[1251]? = some (Jvm.Cond.code (mY 206) (mB 206) (mL 206) (mR 206)) := rfl
set_option maxRecDepth 100000 in
theorem cod_207 : lw_tbl[1255]? = some (Jvm.Cond.code (mY 207) (mB 207) (mL 207) (mR 207)) := rfl
theorem cod_all : ∀ y, y < 208 → lw_tbl[mW y]? = some (Jvm.Cond.code (mY y) (mB y) (mL y) (mR y))
  | 0, _ => cod_0
  | 1, _ => cod_1
  | 2, _ => cod_2
  | 3, _ => cod_3
  | 4, _ => cod_4
  | 5, _ => cod_5
  | 6, _ => cod_6
  | 7, _ => cod_7
  | 8, _ => cod_8
  | 9, _ => cod_9
  | 10, _ => cod_10
  | 11, _ => cod_11
  | 12, _ => cod_12
  | 13, _ => cod_13
  | 14, _ => cod_14
  | 15, _ => cod_15
  | 16, _ => cod_16
  | 17, _ => cod_17
  | 18, _ => cod_18
  | 19, _ => cod_19
  | 20, _ => cod_20
  | 21, _ => cod_21
  | 22, _ => cod_22
  | 23, _ => cod_23
  | 24, _ => cod_24
  | 25, _ => cod_25
  | 26, _ => cod_26
  | 27, _ => cod_27
  | 28, _ => cod_28
  | 29, _ => cod_29
  | 30, _ => cod_30
  | 31, _ => cod_31
  | 32, _ => cod_32
  | 33, _ => cod_33
  | 34, _ => cod_34
  | 35, _ => cod_35
  | 36, _ => cod_36
  | 37, _ => cod_37
  | 38, _ => cod_38
  | 39, _ => cod_39
  | 40, _ => cod_40
  | 41, _ => cod_41
  | 42, _ => cod_42
  | 43, _ => cod_43
  | 44, _ => cod_44
  | 45, _ => cod_45
  | 46, _ => cod_46
  | 47, _ => cod_47
  | 48, _ => cod_48
  | 49, _ => cod_49
  | 50, _ => cod_50
  | 51, _ => cod_51
  | 52, _ => cod_52
  | 53, _ => cod_53
  | 54, _ => cod_54
  | 55, _ => cod_55
  | 56, _ => cod_56
  | 57, _ => cod_57
  | 58, _ => cod_58
  | 59, _ => cod_59
  | 60, _ => cod_60
  | 61, _ => cod_61
  | 62, _ => cod_62
  | 63, _ => cod_63
  | 64, _ => cod_64
  | 65, _ => cod_65
  | 66, _ => cod_66
  | 67, _ => cod_67
  | 68, _ => cod_68
  | 69, _ => cod_69
  | 70, _ => cod_70
  | 71, _ => cod_71
  | 72, _ => cod_72
  | 73, _ => cod_73
  | 74, _ => cod_74
  | 75, _ => cod_75
  | 76, _ => cod_76
  | 77, _ => cod_77
  | 78, _ => cod_78
  | 79, _ => cod_79
  | 80, _ => cod_80
  | 81, _ => cod_81
  | 82, _ => cod_82
  | 83, _ => cod_83
  | 84, _ => cod_84
  | 85, _ => cod_85
  | 86, _ => cod_86
  | 87, _ => cod_87
  | 88, _ => cod_88
  | 89, _ => cod_89
  | 90, _ => cod_90
  | 91, _ => cod_91
  | 92, _ => cod_92
  | 93, _ => cod_93
  | 94, _ => cod_94
  | 95, _ => cod_95
  | 96, _ => cod_96
  | 97, _ => cod_97
  | 98, _ => cod_98
  | 99, _ => cod_99
  | 100, _ => cod_100
  | 101, _ => cod_101
  | 102, _ => cod_102
  | 103, _ => cod_103
  | 104, _ => cod_104
  | 105, _ => cod_105
  | 106, _ => cod_106
  | 107, _ => cod_107
  | 108, _ => cod_108
  | 109, _ => cod_109
  | 110, _ => cod_110
  | 111, _ => cod_111
  | 112, _ => cod_112
  | 113, _ => cod_113
  | 114, _ => cod_114
  | 115, _ => cod_115
  | 116, _ => cod_116
  | 117, _ => cod_117
  | 118, _ => cod_118
  | 119, _ => cod_119
  | 120, _ => cod_120
  | 121, _ => cod_121
  | 122, _ => cod_122
  | 123, _ => cod_123
  | 124, _ => cod_124
  | 125, _ => cod_125
  | 126, _ => cod_126
  | 127, _ => cod_127
  | 128, _ => cod_128
  | 129, _ => cod_129
  | 130, _ => cod_130
  | 131, _ => cod_131
  | 132, _ => cod_132
  | 133, _ => cod_133
  | 134, _ => cod_134
  | 135, _ => cod_135
  | 136, _ => cod_136
  | 137, _ => cod_137
  | 138, _ => cod_138
  | 139, _ => cod_139
  | 140, _ => cod_140
  | 141, _ => cod_141
  | 142, _ => cod_142
  | 143, _ => cod_143
  | 144, _ => cod_144
  | 145, _ => cod_145
  | 146, _ => cod_146
  | 147, _ => cod_147
  | 148, _ => cod_148
  | 149, _ => cod_149
  | 150, _ => cod_150
  | 151, _ => cod_151
  | 152, _ => cod_152
  | 153, _ => cod_153
  | 154, _ => cod_154
  | 155, _ => cod_155
  | 156, _ => cod_156
  | 157, _ => cod_157
  | 158, _ => cod_158
  | 159, _ => cod_159
  | 160, _ => cod_160
  | 161, _ => cod_161
  | 162, _ => cod_162
  | 163, _ => cod_163
  | 164, _ => cod_164
  | 165, _ => cod_165
  | 166, _ => cod_166
  | 167, _ => cod_167
  | 168, _ => cod_168
  | 169, _ => cod_169
  | 170, _ => cod_170
  | 171, _ => cod_171
  | 172, _ => cod_172
  | 173, _ => cod_173
  | 174, _ => cod_174
  | 175, _ => cod_175
  | 176, _ => cod_176
  | 177, _ => cod_177
  | 178, _ => cod_178
  | 179, _ => cod_179
  | 180, _ => cod_180
  | 181, _ => cod_181
  | 182, _ => cod_182
  | 183, _ => cod_183
  | 184, _ => cod_184
  | 185, _ => cod_185
  | 186, _ => cod_186
  | 187, _ => cod_187
  | 188, _ => cod_188
  | 189, _ => cod_189
  | 190, _ => cod_190
  | 191, _ => cod_191
  | 192, _ => cod_192
  | 193, _ => cod_193
  | 194, _ => cod_194
  | 195, _ => cod_195
  | 196, _ => cod_196
  | 197, _ => cod_197
  | 198, _ => cod_198
  | 199, _ => cod_199
  | 200, _ => cod_200
  | 201, _ => cod_201
  | 202, _ => cod_202
  | 203, _ => cod_203
  | 204, _ => cod_204
  | 205, _ => cod_205
  | 206, _ => cod_206
  | 207, _ => cod_207
  | n + 208, h => absurd h (by omega)
def okCal (q : Nat × Nat × Nat × Nat × Nat) : Bool := match q.2.2.1 with
  | 0 => wAt q.2.2.2.2 (.methodLink (on q.1) q.2.1 (mY q.2.2.2.1)) && wAt (at0 staTab q.2.2.2.1) (.static (mY q.2.2.2.1))
  | 1 => wAt q.2.2.2.2 (.methodLink (on q.1) q.2.1 (mY q.2.2.2.1)) && wAt (at0 staTab q.2.2.2.1) (.instanceMethod (mY q.2.2.2.1)) && wAt (at0 selTab q.2.2.2.1) (.selects (mY q.2.2.2.1).cls (mY q.2.2.2.1) (mY q.2.2.2.1)) && decide (mO q.2.2.2.1 < 13)
  | 2 => wAt q.2.2.2.2 (.methodLink (on q.1) q.2.1 (mY q.2.2.2.1)) && wAt (at0 staTab q.2.2.2.1) (.instanceMethod (mY q.2.2.2.1)) && decide ((mY q.2.2.2.1).name = "<init>") && decide (mR q.2.2.2.1 = none)
  | 3 => wAt q.2.2.2.2 (.methodLinkNest (on q.1) q.2.1 (mY q.2.2.2.1) "NutsUp") && wAt (at0 staTab q.2.2.2.1) (.static (mY q.2.2.2.1))
  | 4 => wAt q.2.2.2.2 (.methodLinkNest (on q.1) q.2.1 (mY q.2.2.2.1) "NutsUp") && wAt (at0 staTab q.2.2.2.1) (.instanceMethod (mY q.2.2.2.1)) && decide ((mY q.2.2.2.1).name = "<init>") && decide (mR q.2.2.2.1 = none)
  | 5 => true
  | 6 => wAt q.2.2.2.2 (.methodLink (on q.1) q.2.1 (mY q.2.2.2.1)) && wAt (at0 staTab q.2.2.2.1) (.instanceMethod (mY q.2.2.2.1)) && decide (q.1 < 13)
  | 7 => wAt q.2.2.2.2 (.methodLink (on q.1) q.2.1 arraycopyName)
  | 8 => wAt q.2.2.2.2 (.methodLink (on q.1) q.2.1 Lib.objectInit)
  | _ => false
theorem okCal_all : calTab.all okCal = true := by decide +kernel
def okVir (q : Nat × Nat × Nat × Nat × Nat × Nat × Nat × Nat × Nat) : Bool := wAt q.2.2.2.2.2.2.2.2 (.methodLink (on q.1) q.2.1 ⟨on q.2.2.2.2.2.1, (mY q.2.2.2.2.1).name, (mY q.2.2.2.2.1).desc⟩) && wAt q.2.2.2.2.2.2.1 (.sameMethod (on q.2.2.2.2.2.1) (mY q.2.2.2.2.1).cls (mY q.2.2.2.2.1).name (mY q.2.2.2.2.1).desc) && wAt q.2.2.2.2.2.2.2.1 (.selects (cn (q.2.2.1 - 1)) ⟨on q.2.2.2.2.2.1, (mY q.2.2.2.2.1).name, (mY q.2.2.2.2.1).desc⟩ (mY q.2.2.2.1)) && wAt (at0 staTab q.2.2.2.2.1) (.instanceMethod (mY q.2.2.2.2.1)) && wAt (at0 staTab q.2.2.2.1) (.instanceMethod (mY q.2.2.2.1)) && decide (q.2.2.2.2.1 < 208) && decide (mA q.2.2.2.2.1 = mA q.2.2.2.1) && decide (mA q.2.2.2.1 = 1) && decide (1 ≤ q.2.2.1 ∧ q.2.2.1 ≤ 13)
theorem okVir_all : virX.all okVir = true := by decide +kernel
theorem virX_all : virTab = virX.map (fun q => (q.1, q.2.1, q.2.2.1, q.2.2.2.1)) := by decide +kernel
def okSup (q : Nat × Nat × Nat × Nat × Nat) : Bool := wAt q.2.2.2.1 (.sameMethod (mY q.2.2.1).cls (mY q.2.2.1).cls (mY q.2.2.1).name (mY q.2.2.1).desc) && wAt q.2.2.2.2 (.superclass (on q.1) (mY q.2.2.1).cls) && decide ((mY q.2.2.1).name ≠ "<init>") && decide (on q.1 = cn q.1)
theorem okSup_all : supX.all okSup = true := by decide +kernel
theorem supX_all : calTab.all (fun q => q.2.2.1 != 6 || supX.any (fun z => z.1 == q.1 && z.2.1 == q.2.1 && z.2.2.1 == q.2.2.2.1)) = true := by decide +kernel
def okNew (q : Nat × Nat × Nat × Nat × Nat × Nat) : Bool := wAt q.2.2.2.1 (.classLink (on q.1) q.2.1 (cn q.2.2.1)) && wAt q.2.2.2.2.1 (.instantiable (cn q.2.2.1) (cSz q.2.2.1)) && wAt q.2.2.2.2.2 (.initialized (cn q.2.2.1)) && decide (q.2.2.1 < 13)
theorem okNew_all : newTab.all okNew = true := by decide +kernel
def okAnw (q : Nat × Nat × Nat × Nat × Nat) : Bool := wAt q.2.2.2.1 (.classLink (on q.1) q.2.1 (aName q.2.2.1)) && wAt q.2.2.2.2 (.arrayOver (.object (aName q.2.2.1))) && decide (21 ≤ q.2.2.1 ∧ q.2.2.1 ≤ 25)
theorem okAnw_all : anwTab.all okAnw = true := by decide +kernel
def okLdc (q : Nat × Nat × Int × Nat) : Bool := wAt q.2.2.2 (.constant (on q.1) q.2.1 (Int32.ofInt q.2.2.1))
theorem okLdc_all : ldcTab.all okLdc = true := by decide +kernel
def okLd2 (q : Nat × Nat × Int × Nat) : Bool := wAt q.2.2.2 (.constantLong (on q.1) q.2.1 (Int64.ofInt q.2.2.1))
theorem okLd2_all : ld2Tab.all okLd2 = true := by decide +kernel
theorem okStf_0 : wAt 343 (.fieldLinkNest (on 0) 37 "NutsUp" "FACTORIALS" "[I" "NutsUp") = true := by decide +kernel
theorem okStf_1 : wAt 427 (.fieldLinkNest (on 1) 21 "NutsUp" "LETTERS" "[I" "NutsUp") = true := by decide +kernel
theorem okArr : wAt 112 (.arrayClass .int) = true := by decide +kernel
theorem okCopyS : wAt 691 (.static arraycopyName) = true := by decide +kernel
theorem okCopyN : wAt 692 (.native arraycopyName) = true := by decide +kernel
theorem okCopyI : wAt 72 (.initialized "java/lang/System") = true := by decide +kernel
theorem okObj_0 : wAt 79 (.instanceMethod Lib.objectInit) = true := by decide +kernel
theorem okObj_1 : wAt 80 (.code Lib.objectInit ⟨#[0xb1]⟩ 1 none) = true := by decide +kernel
theorem okCast_4 : wAt 1261 (.castable "NutsUp$LongGrain" "NutsUp$Grain") = true := by decide +kernel
theorem okCast_6 : wAt 1262 (.castable "NutsUp$OilyGrain" "NutsUp$Grain") = true := by decide +kernel
