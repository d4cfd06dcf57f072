/-! The tables of part 01 stand in the words of the claim. -/
def layTab : List (List Nat) := [[59, 61, 63, 65, 67], [398, 400, 402], [253, 255, 257, 259, 261, 263], [428, 430], [272, 273, 274, 275, 276, 277], [416, 418, 420], [287, 288, 289, 290, 291, 292], [93, 95], [108, 110, 112, 114, 116], [132, 134, 136, 138], [81], [158, 160, 162, 164, 166, 168, 170, 172, 174, 176, 178, 180, 182, 184, 186, 188, 190]]
/-- of each method the word that says whether it is static -/
def staTab : List Nat := [34, 37, 42, 78, 87, 101, 121, 194, 199, 202, 205, 209, 212, 216, 219, 222, 226, 229, 233, 236, 269, 282, 285, 297, 300, 304, 308, 313, 318, 321, 326, 330, 334, 337, 342, 346, 351, 354, 359, 362, 366, 370, 373, 376, 382, 391, 407, 434, 438, 442, 446, 449, 453, 457, 462, 466, 469, 474, 478, 483, 486, 489, 494, 498, 502, 508, 512, 515, 520, 523, 527, 532, 535, 539, 543, 550, 555, 560, 563, 566, 571, 574, 577, 581, 586, 590, 594, 598, 602, 606, 609, 612, 615, 618, 621, 624, 627, 630, 633]
def selTab : List Nat := [999999, 999999, 999999, 999999, 999999, 999999, 999999, 195, 0, 999999, 999999, 1, 213, 999999, 999999, 223, 999999, 999999, 999999, 999999, 999999, 999999, 999999, 999999, 999999, 2, 309, 314, 3, 322, 4, 331, 999999, 338, 5, 347, 6, 355, 7, 363, 367, 999999, 999999, 999999, 999999, 999999, 999999, 435, 439, 999999, 8, 450, 454, 458, 9, 10, 470, 475, 479, 999999, 999999, 490, 11, 499, 999999, 509, 999999, 516, 12, 524, 528, 13, 536, 540, 544, 551, 556, 14, 999999, 567, 999999, 999999, 578, 582, 587, 591, 595, 999999, 999999, 999999, 999999, 999999, 999999, 999999, 999999, 999999, 999999, 999999, 999999]
def iniTab : List Nat := [17, 28, 23, 27, 24, 29, 25, 19, 20, 21, 18, 16, 999999, 15, 999999, 26, 30, 999999, 22]
/-- by the kind of the object: owner, index, tag, what is run, what is named first, the class that is named, its word, the word of the choice -/
def virX : List (Nat × Nat × Nat × Nat × Nat × Nat × Nat × Nat × Nat) := []
def supX : List (Nat × Nat × Nat × Nat × Nat) := []
def goodWs : List Jvm.Cond := lw_tbl.filter goodWord
def nestW : Jvm.Cond → Bool
  | .methodLinkNest .. => true
  | .fieldLinkNest .. => true
  | .castable .. => true
  | .arrayOver (.object _) => true
  | _ => false
def nestWs : List Jvm.Cond := lw_tbl.filter nestW
theorem good_at {i : Nat} {w : Jvm.Cond} (h : lw_tbl[i]? = some w) (hg : goodWord w = true) : w ∈ goodWs := List.mem_filter.mpr ⟨List.mem_of_getElem? h, hg⟩
theorem nest_at {i : Nat} {w : Jvm.Cond} (h : lw_tbl[i]? = some w) (hg : nestW w = true) : w ∈ nestWs := List.mem_filter.mpr ⟨List.mem_of_getElem? h, hg⟩
def wAt (i : Nat) (w : Jvm.Cond) : Bool := decide (lw_tbl[i]? = some w)
theorem wAt_eq {i : Nat} {w : Jvm.Cond} (h : wAt i w = true) : lw_tbl[i]? = some w := of_decide_eq_true h
def at0 (l : List Nat) (i : Nat) : Nat := (l[i]?).getD 999999
def okLay (ci k : Nat) : Bool := wAt (at0 ((layTab[ci]?).getD []) k) (u_lay (cn ci) (cT ci) k)
theorem okLay_all : (List.range 12).all (fun ci => (List.range (cSz ci)).all (fun k => okLay ci k)) = true := by decide +kernel
def okFld (q : Nat × Nat × Nat × Nat × Nat) : Bool := wAt q.2.2.2.2 (.fieldLink (on q.1) q.2.1 (cT q.2.2.1 q.2.2.2.1).1 (cT q.2.2.1 q.2.2.2.1).2.1 (cT q.2.2.1 q.2.2.2.1).2.2.1) && decide (q.2.2.1 < 12) && decide (q.2.2.2.1 < cSz q.2.2.1)
theorem okFld_all : fldTab.all okFld = true := by decide +kernel
def okCode (y : Nat) : Bool := wAt (at0 iniTab (mO y)) (.initialized (mY y).cls) && decide ((mY y).cls ≠ "java/lang/invoke/MethodHandle" ∧ (mY y).cls ≠ "java/lang/invoke/VarHandle") && decide ((parseMethodDescriptor (mY y).desc).map (fun d => d.parameters.length) = some (mA y)) && plainFor (mY y)
theorem okCode_all : (List.range 99).all (fun y => y == 1 || okCode y) = true := by decide +kernel
theorem okCode_t2 : (List.range 99).filter (fun y => !plainFor (mY y)) = [1] := by decide +kernel
set_option maxRecDepth 100000 in
theorem cod_0 : lw_tbl[35]? = some (Jvm.Cond.code (mY 0) (mB 0) (mL 0) (mR 0)) := rfl
set_option maxRecDepth 100000 in
theorem cod_1 : lw_tbl[38]? = some (Jvm.Cond.code (mY 1) (mB 1) (mL 1) (mR 1)) := rfl
set_option maxRecDepth 100000 in
theorem cod_2 : lw_tbl[43]? = some (Jvm.Cond.code (mY 2) (mB 2) (mL 2) (mR 2)) := rfl
set_option maxRecDepth 100000 in
theorem cod_3 : lw_tbl[79]? = some (Jvm.Cond.code (mY 3) (mB 3) (mL 3) (mR 3)) := rfl
set_option maxRecDepth 100000 in
theorem cod_4 : lw_tbl[88]? = some (Jvm.Cond.code (mY 4) (mB 4) (mL 4) (mR 4)) := rfl
set_option maxRecDepth 100000 in
theorem cod_5 : lw_tbl[102]? = some (Jvm.Cond.code (mY 5) (mB 5) (mL 5) (mR 5)) := rfl
set_option maxRecDepth 100000 in
theorem cod_6 : lw_tbl[122]? = some (Jvm.Cond.code (mY 6) (mB 6) (mL 6) (mR 6)) := rfl
set_option maxRecDepth 100000 in
theorem cod_7 : lw_tbl[196]? = some (Jvm.Cond.code (mY 7) (mB 7) (mL 7) (mR 7)) := rfl
set_option maxRecDepth 100000 in
theorem cod_8 : lw_tbl[200]? = some (Jvm.Cond.code (mY 8) (mB 8) (mL 8) (mR 8)) := rfl
set_option maxRecDepth 100000 in
theorem cod_9 : lw_tbl[203]? = some (Jvm.Cond.code (mY 9) (mB 9) (mL 9) (mR 9)) := rfl
set_option maxRecDepth 100000 in
theorem cod_10 : lw_tbl[206]? = some (Jvm.Cond.code (mY 10) (mB 10) (mL 10) (mR 10)) := rfl
set_option maxRecDepth 100000 in
theorem cod_11 : lw_tbl[210]? = some (Jvm.Cond.code (mY 11) (mB 11) (mL 11) (mR 11)) := rfl
set_option maxRecDepth 100000 in
theorem cod_12 : lw_tbl[214]? = some (Jvm.Cond.code (mY 12) (mB 12) (mL 12) (mR 12)) := rfl
set_option maxRecDepth 100000 in
theorem cod_13 : lw_tbl[217]? = some (Jvm.Cond.code (mY 13) (mB 13) (mL 13) (mR 13)) := rfl
set_option maxRecDepth 100000 in
theorem cod_14 : lw_tbl[220]? = some (Jvm.Cond.code (mY 14) (mB 14) (mL 14) (mR 14)) := rfl
set_option maxRecDepth 100000 in
theorem cod_15 : lw_tbl[224]? = some (Jvm.Cond.code (mY 15) (mB 15) (mL 15) (mR 15)) := rfl
set_option maxRecDepth 100000 in
theorem cod_16 : lw_tbl[227]? = some (Jvm.Cond.code (mY 16) (mB 16) (mL 16) (mR 16)) := rfl
set_option maxRecDepth 100000 in
theorem cod_17 : lw_tbl[230]? = some (Jvm.Cond.code (mY 17) (mB 17) (mL 17) (mR 17)) := rfl
set_option maxRecDepth 100000 in
theorem cod_18 : lw_tbl[234]? = some (Jvm.Cond.code (mY 18) (mB 18) (mL 18) (mR 18)) := rfl
set_option maxRecDepth 100000 in
theorem cod_19 : lw_tbl[237]? = some (Jvm.Cond.code (mY 19) (mB 19) (mL 19) (mR 19)) := rfl
set_option maxRecDepth 100000 in
theorem cod_20 : lw_tbl[270]? = some (Jvm.Cond.code (mY 20) (mB 20) (mL 20) (mR 20)) := rfl
set_option maxRecDepth 100000 in
theorem cod_21 : lw_tbl[283]? = some (Jvm.Cond.code (mY 21) (mB 21) (mL 21) (mR 21)) := rfl
set_option maxRecDepth 100000 in
theorem cod_22 : lw_tbl[286]? = some (Jvm.Cond.code (mY 22) (mB 22) (mL 22) (mR 22)) := rfl
set_option maxRecDepth 100000 in
theorem cod_23 : lw_tbl[298]? = some (Jvm.Cond.code (mY 23) (mB 23) (mL 23) (mR 23)) := rfl
set_option maxRecDepth 100000 in
theorem cod_24 : lw_tbl[301]? = some (Jvm.Cond.code (mY 24) (mB 24) (mL 24) (mR 24)) := rfl
set_option maxRecDepth 100000 in
theorem cod_25 : lw_tbl[305]? = some (Jvm.Cond.code (mY 25) (mB 25) (mL 25) (mR 25)) := rfl
set_option maxRecDepth 100000 in
theorem cod_26 : lw_tbl[310]? = some (Jvm.Cond.code (mY 26) (mB 26) (mL 26) (mR 26)) := rfl
set_option maxRecDepth 100000 in
theorem cod_27 : lw_tbl[315]? = some (Jvm.Cond.code (mY 27) (mB 27) (mL 27) (mR 27)) := rfl
set_option maxRecDepth 100000 in
theorem cod_28 : lw_tbl[319]? = some (Jvm.Cond.code (mY 28) (mB 28) (mL 28) (mR 28)) := rfl
set_option maxRecDepth 100000 in
theorem cod_29 : lw_tbl[323]? = some (Jvm.Cond.code (mY 29) (mB 29) (mL 29) (mR 29)) := rfl
set_option maxRecDepth 100000 in
theorem cod_30 : lw_tbl[327]? = some (Jvm.Cond.code (mY 30) (mB 30) (mL 30) (mR 30)) := rfl
set_option maxRecDepth 100000 in
theorem cod_31 : lw_tbl[332]? = some (Jvm.Cond.code (mY 31) (mB 31) (mL 31) (mR 31)) := rfl
set_option maxRecDepth 100000 in
theorem cod_32 : lw_tbl[335]? = some (Jvm.Cond.code (mY 32) (mB 32) (mL 32) (mR 32)) := rfl
set_option maxRecDepth 100000 in
theorem cod_33 : lw_tbl[339]? = some (Jvm.Cond.code (mY 33) (mB 33) (mL 33) (mR 33)) := rfl
set_option maxRecDepth 100000 in
theorem cod_34 : lw_tbl[343]? = some (Jvm.Cond.code (mY 34) (mB 34) (mL 34) (mR 34)) := rfl
set_option maxRecDepth 100000 in
theorem cod_35 : lw_tbl[348]? = some (Jvm.Cond.code (mY 35) (mB 35) (mL 35) (mR 35)) := rfl
set_option maxRecDepth 100000 in
theorem cod_36 : lw_tbl[352]? = some (Jvm.Cond.code (mY 36) (mB 36) (mL 36) (mR 36)) := rfl
set_option maxRecDepth 100000 in
theorem cod_37 : lw_tbl[356]? = some (Jvm.Cond.code (mY 37) (mB 37) (mL 37) (mR 37)) := rfl
set_option maxRecDepth 100000 in
theorem cod_38 : lw_tbl[360]? = some (Jvm.Cond.code (mY 38) (mB 38) (mL 38) (mR 38)) := rfl
set_option maxRecDepth 100000 in
theorem cod_39 : lw_tbl[364]? = some (Jvm.Cond.code (mY 39) (mB 39) (mL 39) (mR 39)) := rfl
set_option maxRecDepth 100000 in
theorem cod_40 : lw_tbl[368]? = some (Jvm.Cond.code (mY 40) (mB 40) (mL 40) (mR 40)) := rfl
set_option maxRecDepth 100000 in
theorem cod_41 : lw_tbl[371]? = some (Jvm.Cond.code (mY 41) (mB 41) (mL 41) (mR 41)) := rfl
set_option maxRecDepth 100000 in
theorem cod_42 : lw_tbl[374]? = some (Jvm.Cond.code (mY 42) (mB 42) (mL 42) (mR 42)) := rfl
set_option maxRecDepth 100000 in
theorem cod_43 : lw_tbl[377]? = some (Jvm.Cond.code (mY 43) (mB 43) (mL 43) (mR 43)) := rfl
set_option maxRecDepth 100000 in
theorem cod_44 : lw_tbl[383]? = some (Jvm.Cond.code (mY 44) (mB 44) (mL 44) (mR 44)) := rfl
set_option maxRecDepth 100000 in
theorem cod_45 : lw_tbl[392]? = some (Jvm.Cond.code (mY 45) (mB 45) (mL 45) (mR 45)) := rfl
set_option maxRecDepth 100000 in
theorem cod_46 : lw_tbl[408]? = some (Jvm.Cond.code (mY 46) (mB 46) (mL 46) (mR 46)) := rfl
set_option maxRecDepth 100000 in
theorem cod_47 : lw_tbl[436]? = some (Jvm.Cond.code (mY 47) (mB 47) (mL 47) (mR 47)) := rfl
set_option maxRecDepth 100000 in
theorem cod_48 : lw_tbl[440]? = some (Jvm.Cond.code (mY 48) (mB 48) (mL 48) (mR 48)) := rfl
set_option maxRecDepth 100000 in
theorem cod_49 : lw_tbl[443]? = some (Jvm.Cond.code (mY 49) (mB 49) (mL 49) (mR 49)) := rfl
set_option maxRecDepth 100000 in
theorem cod_50 : lw_tbl[447]? = some (Jvm.Cond.code (mY 50) (mB 50) (mL 50) (mR 50)) := rfl
set_option maxRecDepth 100000 in
theorem cod_51 : lw_tbl[451]? = some (Jvm.Cond.code (mY 51) (mB 51) (mL 51) (mR 51)) := rfl
set_option maxRecDepth 100000 in
theorem cod_52 : lw_tbl[455]? = some (Jvm.Cond.code (mY 52) (mB 52) (mL 52) (mR 52)) := rfl
set_option maxRecDepth 100000 in
theorem cod_53 : lw_tbl[459]? = some (Jvm.Cond.code (mY 53) (mB 53) (mL 53) (mR 53)) := rfl
set_option maxRecDepth 100000 in
theorem cod_54 : lw_tbl[463]? = some (Jvm.Cond.code (mY 54) (mB 54) (mL 54) (mR 54)) := rfl
set_option maxRecDepth 100000 in
theorem cod_55 : lw_tbl[467]? = some (Jvm.Cond.code (mY 55) (mB 55) (mL 55) (mR 55)) := rfl
set_option maxRecDepth 100000 in
theorem cod_56 : lw_tbl[471]? = some (Jvm.Cond.code (mY 56) (mB 56) (mL 56) (mR 56)) := rfl
set_option maxRecDepth 100000 in
theorem cod_57 : lw_tbl[476]? = some (Jvm.Cond.code (mY 57) (mB 57) (mL 57) (mR 57)) := rfl
set_option maxRecDepth 100000 in
theorem cod_58 : lw_tbl[480]? = some (Jvm.Cond.code (mY 58) (mB 58) (mL 58) (mR 58)) := rfl
set_option maxRecDepth 100000 in
theorem cod_59 : lw_tbl[484]? = some (Jvm.Cond.code (mY 59) (mB 59) (mL 59) (mR 59)) := rfl
set_option maxRecDepth 100000 in
theorem cod_60 : lw_tbl[487]? = some (Jvm.Cond.code (mY 60) (mB 60) (mL 60) (mR 60)) := rfl
set_option maxRecDepth 100000 in
theorem cod_61 : lw_tbl[491]? = some (Jvm.Cond.code (mY 61) (mB 61) (mL 61) (mR 61)) := rfl
set_option maxRecDepth 100000 in
theorem cod_62 : lw_tbl[495]? = some (Jvm.Cond.code (mY 62) (mB 62) (mL 62) (mR 62)) := rfl
set_option maxRecDepth 100000 in
theorem cod_63 : lw_tbl[500]? = some (Jvm.Cond.code (mY 63) (mB 63) (mL 63) (mR 63)) := rfl
set_option maxRecDepth 100000 in
theorem cod_64 : lw_tbl[503]? = some (Jvm.Cond.code (mY 64) (mB 64) (mL 64) (mR 64)) := rfl
set_option maxRecDepth 100000 in
theorem cod_65 : lw_tbl[510]? = some (Jvm.Cond.code (mY 65) (mB 65) (mL 65) (mR 65)) := rfl
set_option maxRecDepth 100000 in
theorem cod_66 : lw_tbl[513]? = some (Jvm.Cond.code (mY 66) (mB 66) (mL 66) (mR 66)) := rfl
set_option maxRecDepth 100000 in
theorem cod_67 : lw_tbl[517]? = some (Jvm.Cond.code (mY 67) (mB 67) (mL 67) (mR 67)) := rfl
set_option maxRecDepth 100000 in
theorem cod_68 : lw_tbl[521]? = some (Jvm.Cond.code (mY 68) (mB 68) (mL 68) (mR 68)) := rfl
set_option maxRecDepth 100000 in
theorem cod_69 : lw_tbl[525]? = some (Jvm.Cond.code (mY 69) (mB 69) (mL 69) (mR 69)) := rfl
set_option maxRecDepth 100000 in
theorem cod_70 : lw_tbl[529]? = some (Jvm.Cond.code (mY 70) (mB 70) (mL 70) (mR 70)) := rfl
set_option maxRecDepth 100000 in
theorem cod_71 : lw_tbl[533]? = some (Jvm.Cond.code (mY 71) (mB 71) (mL 71) (mR 71)) := rfl
set_option maxRecDepth 100000 in
theorem cod_72 : lw_tbl[537]? = some (Jvm.Cond.code (mY 72) (mB 72) (mL 72) (mR 72)) := rfl
set_option maxRecDepth 100000 in
theorem cod_73 : lw_tbl[541]? = some (Jvm.Cond.code (mY 73) (mB 73) (mL 73) (mR 73)) := rfl
set_option maxRecDepth 100000 in
theorem cod_74 : lw_tbl[545]? = some (Jvm.Cond.code (mY 74) (mB 74) (mL 74) (mR 74)) := rfl
set_option maxRecDepth 100000 in
theorem cod_75 : lw_tbl[552]? = some (Jvm.Cond.code (mY 75) (mB 75) (mL 75) (mR 75)) := rfl
set_option maxRecDepth 100000 in
theorem cod_76 : lw_tbl[557]? = some (Jvm.Cond.code (mY 76) (mB 76) (mL 76) (mR 76)) := rfl
set_option maxRecDepth 100000 in
theorem cod_77 : lw_tbl[561]? = some (Jvm.Cond.code (mY 77) (mB 77) (mL 77) (mR 77)) := rfl
set_option maxRecDepth 100000 in
theorem cod_78 : lw_tbl[564]? = some (Jvm.Cond.code (mY 78) (mB 78) (mL 78) (mR 78)) := rfl
set_option maxRecDepth 100000 in
theorem cod_79 : lw_tbl[568]? = some (Jvm.Cond.code (mY 79) (mB 79) (mL 79) (mR 79)) := rfl
set_option maxRecDepth 100000 in
theorem cod_80 : lw_tbl[572]? = some (Jvm.Cond.code (mY 80) (mB 80) (mL 80) (mR 80)) := rfl
set_option maxRecDepth 100000 in
theorem cod_81 : lw_tbl[575]? = some (Jvm.Cond.code (mY 81) (mB 81) (mL 81) (mR 81)) := rfl
set_option maxRecDepth 100000 in
theorem cod_82 : lw_tbl[579]? = some (Jvm.Cond.code (mY 82) (mB 82) (mL 82) (mR 82)) := rfl
set_option maxRecDepth 100000 in
theorem cod_83 : lw_tbl[583]? = some (Jvm.Cond.code (mY 83) (mB 83) (mL 83) (mR 83)) := rfl
set_option maxRecDepth 100000 in
theorem cod_84 : lw_tbl[588]? = some (Jvm.Cond.code (mY 84) (mB 84) (mL 84) (mR 84)) := rfl
set_option maxRecDepth 100000 in
theorem cod_85 : lw_tbl[592]? = some (Jvm.Cond.code (mY 85) (mB 85) (mL 85) (mR 85)) := rfl
set_option maxRecDepth 100000 in
theorem cod_86 : lw_tbl[596]? = some (Jvm.Cond.code (mY 86) (mB 86) (mL 86) (mR 86)) := rfl
set_option maxRecDepth 100000 in
theorem cod_87 : lw_tbl[599]? = some (Jvm.Cond.code (mY 87) (mB 87) (mL 87) (mR 87)) := rfl
set_option maxRecDepth 100000 in
theorem cod_88 : lw_tbl[603]? = some (Jvm.Cond.code (mY 88) (mB 88) (mL 88) (mR 88)) := rfl
set_option maxRecDepth 100000 in
theorem cod_89 : lw_tbl[607]? = some (Jvm.Cond.code (mY 89) (mB 89) (mL 89) (mR 89)) := rfl
set_option maxRecDepth 100000 in
theorem cod_90 : lw_tbl[610]? = some (Jvm.Cond.code (mY 90) (mB 90) (mL 90) (mR 90)) := rfl
set_option maxRecDepth 100000 in
theorem cod_91 : lw_tbl[613]? = some (Jvm.Cond.code (mY 91) (mB 91) (mL 91) (mR 91)) := rfl
set_option maxRecDepth 100000 in
theorem cod_92 : lw_tbl[616]? = some (Jvm.Cond.code (mY 92) (mB 92) (mL 92) (mR 92)) := rfl
set_option maxRecDepth 100000 in
theorem cod_93 : lw_tbl[619]? = some (Jvm.Cond.code (mY 93) (mB 93) (mL 93) (mR 93)) := rfl
set_option maxRecDepth 100000 in
theorem cod_94 : lw_tbl[622]? = some (Jvm.Cond.code (mY 94) (mB 94) (mL 94) (mR 94)) := rfl
set_option maxRecDepth 100000 in
theorem cod_95 : lw_tbl[625]? = some (Jvm.Cond.code (mY 95) (mB 95) (mL 95) (mR 95)) := rfl
set_option maxRecDepth 100000 in
theorem cod_96 : lw_tbl[628]? = some (Jvm.Cond.code (mY 96) (mB 96) (mL 96) (mR 96)) := rfl
set_option maxRecDepth 100000 in
theorem cod_97 : lw_tbl[631]? = some (Jvm.Cond.code (mY 97) (mB 97) (mL 97) (mR 97)) := rfl
set_option maxRecDepth 100000 in
theorem cod_98 : lw_tbl[634]? = some (Jvm.Cond.code (mY 98) (mB 98) (mL 98) (mR 98)) := rfl
theorem cod_all : ∀ y, y < 99 → lw_tbl[mW y]? = some (Jvm.Cond.code (mY y) (mB y) (mL y) (mR y))
  | 0, _ => cod_0
  | 1, _ => cod_1
  | 2, _ => cod_2
  | 3, _ => cod_3
  | 4, _ => cod_4
  | 5, _ => cod_5
  | 6, _ => cod_6
  | 7, _ => cod_7
  | 8, _ => cod_8
  | 9, _ => cod_9
  | 10, _ => cod_10
  | 11, _ => cod_11
  | 12, _ => cod_12
  | 13, _ => cod_13
  | 14, _ => cod_14
  | 15, _ => cod_15
  | 16, _ => cod_16
  | 17, _ => cod_17
  | 18, _ => cod_18
  | 19, _ => cod_19
  | 20, _ => cod_20
  | 21, _ => cod_21
  | 22, _ => cod_22
  | 23, _ => cod_23
  | 24, _ => cod_24
  | 25, _ => cod_25
  | 26, _ => cod_26
  | 27, _ => cod_27
  | 28, _ => cod_28
  | 29, _ => cod_29
  | 30, _ => cod_30
  | 31, _ => cod_31
  | 32, _ => cod_32
  | 33, _ => cod_33
  | 34, _ => cod_34
  | 35, _ => cod_35
  | 36, _ => cod_36
  | 37, _ => cod_37
  | 38, _ => cod_38
  | 39, _ => cod_39
  | 40, _ => cod_40
  | 41, _ => cod_41
  | 42, _ => cod_42
  | 43, _ => cod_43
  | 44, _ => cod_44
  | 45, _ => cod_45
  | 46, _ => cod_46
  | 47, _ => cod_47
  | 48, _ => cod_48
  | 49, _ => cod_49
  | 50, _ => cod_50
  | 51, _ => cod_51
  | 52, _ => cod_52
  | 53, _ => cod_53
  | 54, _ => cod_54
  | 55, _ => cod_55
  | 56, _ => cod_56
  | 57, _ => cod_57
  | 58, _ => cod_58
  | 59, _ => cod_59
  | 60, _ => cod_60
  | 61, _ => cod_61
  | 62, _ => cod_62
  | 63, _ => cod_63
  | 64, _ => cod_64
  | 65, _ => cod_65
  | 66, _ => cod_66
  | 67, _ => cod_67
  | 68, _ => cod_68
  | 69, _ => cod_69
  | 70, _ => cod_70
  | 71, _ => cod_71
  | 72, _ => cod_72
  | 73, _ => cod_73
  | 74, _ => cod_74
  | 75, _ => cod_75
  | 76, _ => cod_76
  | 77, _ => cod_77
  | 78, _ => cod_78
  | 79, _ => cod_79
  | 80, _ => cod_80
  | 81, _ => cod_81
  | 82, _ => cod_82
  | 83, _ => cod_83
  | 84, _ => cod_84
  | 85, _ => cod_85
  | 86, _ => cod_86
  | 87, _ => cod_87
  | 88, _ => cod_88
  | 89, _ => cod_89
  | 90, _ => cod_90
  | 91, _ => cod_91
  | 92, _ => cod_92
  | 93, _ => cod_93
  | 94, _ => cod_94
  | 95, _ => cod_95
  | 96, _ => cod_96
  | 97, _ => cod_97
  | 98, _ => cod_98
  | n + 99, h => absurd h (by omega)
def okCal (q : Nat × Nat × Nat × Nat × Nat) : Bool := match q.2.2.1 with
  | 0 => wAt q.2.2.2.2 (.methodLink (on q.1) q.2.1 (mY q.2.2.2.1)) && wAt (at0 staTab q.2.2.2.1) (.static (mY q.2.2.2.1))
  | 1 => wAt q.2.2.2.2 (.methodLink (on q.1) q.2.1 (mY q.2.2.2.1)) && wAt (at0 staTab q.2.2.2.1) (.instanceMethod (mY q.2.2.2.1)) && wAt (at0 selTab q.2.2.2.1) (.selects (mY q.2.2.2.1).cls (mY q.2.2.2.1) (mY q.2.2.2.1)) && decide (mO q.2.2.2.1 < 12)
  | 2 => wAt q.2.2.2.2 (.methodLink (on q.1) q.2.1 (mY q.2.2.2.1)) && wAt (at0 staTab q.2.2.2.1) (.instanceMethod (mY q.2.2.2.1)) && decide ((mY q.2.2.2.1).name = "<init>") && decide (mR q.2.2.2.1 = none)
  | 3 => wAt q.2.2.2.2 (.methodLinkNest (on q.1) q.2.1 (mY q.2.2.2.1) "NutsUp") && wAt (at0 staTab q.2.2.2.1) (.static (mY q.2.2.2.1))
  | 4 => wAt q.2.2.2.2 (.methodLinkNest (on q.1) q.2.1 (mY q.2.2.2.1) "NutsUp") && wAt (at0 staTab q.2.2.2.1) (.instanceMethod (mY q.2.2.2.1)) && decide ((mY q.2.2.2.1).name = "<init>") && decide (mR q.2.2.2.1 = none)
  | 5 => true
  | 6 => wAt q.2.2.2.2 (.methodLink (on q.1) q.2.1 (mY q.2.2.2.1)) && wAt (at0 staTab q.2.2.2.1) (.instanceMethod (mY q.2.2.2.1)) && decide (q.1 < 12)
  | 7 => wAt q.2.2.2.2 (.methodLink (on q.1) q.2.1 arraycopyName)
  | 8 => wAt q.2.2.2.2 (.methodLink (on q.1) q.2.1 Lib.objectInit)
  | _ => false
theorem okCal_all : calTab.all okCal = true := by decide +kernel
def okVir (q : Nat × Nat × Nat × Nat × Nat × Nat × Nat × Nat × Nat) : Bool := wAt q.2.2.2.2.2.2.2.2 (.methodLink (on q.1) q.2.1 ⟨on q.2.2.2.2.2.1, (mY q.2.2.2.2.1).name, (mY q.2.2.2.2.1).desc⟩) && wAt q.2.2.2.2.2.2.1 (.sameMethod (on q.2.2.2.2.2.1) (mY q.2.2.2.2.1).cls (mY q.2.2.2.2.1).name (mY q.2.2.2.2.1).desc) && wAt q.2.2.2.2.2.2.2.1 (.selects (cn (q.2.2.1 - 1)) ⟨on q.2.2.2.2.2.1, (mY q.2.2.2.2.1).name, (mY q.2.2.2.2.1).desc⟩ (mY q.2.2.2.1)) && wAt (at0 staTab q.2.2.2.2.1) (.instanceMethod (mY q.2.2.2.2.1)) && wAt (at0 staTab q.2.2.2.1) (.instanceMethod (mY q.2.2.2.1)) && decide (q.2.2.2.2.1 < 99) && decide (mA q.2.2.2.2.1 = mA q.2.2.2.1) && decide (mA q.2.2.2.1 = 1) && decide (1 ≤ q.2.2.1 ∧ q.2.2.1 ≤ 12)
theorem okVir_all : virX.all okVir = true := by decide +kernel
theorem virX_all : virTab = virX.map (fun q => (q.1, q.2.1, q.2.2.1, q.2.2.2.1)) := by decide +kernel
def okSup (q : Nat × Nat × Nat × Nat × Nat) : Bool := wAt q.2.2.2.1 (.sameMethod (mY q.2.2.1).cls (mY q.2.2.1).cls (mY q.2.2.1).name (mY q.2.2.1).desc) && wAt q.2.2.2.2 (.superclass (on q.1) (mY q.2.2.1).cls) && decide ((mY q.2.2.1).name ≠ "<init>") && decide (on q.1 = cn q.1)
theorem okSup_all : supX.all okSup = true := by decide +kernel
theorem supX_all : calTab.all (fun q => q.2.2.1 != 6 || supX.any (fun z => z.1 == q.1 && z.2.1 == q.2.1 && z.2.2.1 == q.2.2.2.1)) = true := by decide +kernel
def okNew (q : Nat × Nat × Nat × Nat × Nat × Nat) : Bool := wAt q.2.2.2.1 (.classLink (on q.1) q.2.1 (cn q.2.2.1)) && wAt q.2.2.2.2.1 (.instantiable (cn q.2.2.1) (cSz q.2.2.1)) && wAt q.2.2.2.2.2 (.initialized (cn q.2.2.1)) && decide (q.2.2.1 < 12)
theorem okNew_all : newTab.all okNew = true := by decide +kernel
def okAnw (q : Nat × Nat × Nat × Nat × Nat) : Bool := wAt q.2.2.2.1 (.classLink (on q.1) q.2.1 (aName q.2.2.1)) && wAt q.2.2.2.2 (.arrayOver (.object (aName q.2.2.1))) && decide (21 ≤ q.2.2.1 ∧ q.2.2.1 ≤ 25)
theorem okAnw_all : anwTab.all okAnw = true := by decide +kernel
def okLdc (q : Nat × Nat × Int × Nat) : Bool := wAt q.2.2.2 (.constant (on q.1) q.2.1 (Int32.ofInt q.2.2.1))
theorem okLdc_all : ldcTab.all okLdc = true := by decide +kernel
def okLd2 (q : Nat × Nat × Int × Nat) : Bool := wAt q.2.2.2 (.constantLong (on q.1) q.2.1 (Int64.ofInt q.2.2.1))
theorem okLd2_all : ld2Tab.all okLd2 = true := by decide +kernel
theorem okStf_0 : wAt 294 (.fieldLinkNest (on 0) 37 "NutsUp" "FACTORIALS" "[I" "NutsUp") = true := by decide +kernel
theorem okStf_1 : wAt 378 (.fieldLinkNest (on 1) 21 "NutsUp" "LETTERS" "[I" "NutsUp") = true := by decide +kernel
theorem okArr : wAt 70 (.arrayClass .int) = true := by decide +kernel
theorem okObj_0 : wAt 37 (.instanceMethod Lib.objectInit) = true := by decide +kernel
theorem okObj_1 : wAt 38 (.code Lib.objectInit ⟨#[0xb1]⟩ 1 none) = true := by decide +kernel
theorem okCast_4 : wAt 635 (.castable "NutsUp$LongGrain" "NutsUp$Grain") = true := by decide +kernel
theorem okCast_6 : wAt 636 (.castable "NutsUp$OilyGrain" "NutsUp$Grain") = true := by decide +kernel
