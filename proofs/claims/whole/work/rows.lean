section
/-- a private method of a class that the tables say can be made, by its rows of tables_1 -/
def lw_okq (q : MethodName × Nat) : Prop := (q.1.cls ≠ "java/lang/invoke/MethodHandle" ∧ q.1.cls ≠ "java/lang/invoke/VarHandle") ∧ Cond.instantiable q.1.cls q.2 ∈ tables_1 ∧ Cond.privateMethod q.1 ∈ tables_1 ∧ Cond.instanceMethod q.1 ∈ tables_1
theorem lw_p0 : lw_okq (⟨"StuckTowns$Reader", "nextLetter", "()I"⟩, 7) := ⟨⟨by decide +kernel, by decide +kernel⟩, List.mem_of_getElem? (i := 27) (by decide +kernel), List.mem_of_getElem? (i := 410) (by decide +kernel), List.mem_of_getElem? (i := 411) (by decide +kernel)⟩
theorem lw_p1 : lw_okq (⟨"StuckTowns$Reader", "readClause", "()V"⟩, 7) := ⟨⟨by decide +kernel, by decide +kernel⟩, List.mem_of_getElem? (i := 27) (by decide +kernel), List.mem_of_getElem? (i := 414) (by decide +kernel), List.mem_of_getElem? (i := 415) (by decide +kernel)⟩
theorem lw_p2 : lw_okq (⟨"StuckTowns$Reader", "fail", "(II)V"⟩, 7) := ⟨⟨by decide +kernel, by decide +kernel⟩, List.mem_of_getElem? (i := 27) (by decide +kernel), List.mem_of_getElem? (i := 418) (by decide +kernel), List.mem_of_getElem? (i := 419) (by decide +kernel)⟩
theorem lw_p3 : lw_okq (⟨"StuckTowns$Reader", "isOneTooMany", "(I)Z"⟩, 7) := ⟨⟨by decide +kernel, by decide +kernel⟩, List.mem_of_getElem? (i := 27) (by decide +kernel), List.mem_of_getElem? (i := 422) (by decide +kernel), List.mem_of_getElem? (i := 423) (by decide +kernel)⟩
theorem lw_p4 : lw_okq (⟨"StuckTowns$Reader", "readRest", "(I)V"⟩, 7) := ⟨⟨by decide +kernel, by decide +kernel⟩, List.mem_of_getElem? (i := 27) (by decide +kernel), List.mem_of_getElem? (i := 426) (by decide +kernel), List.mem_of_getElem? (i := 427) (by decide +kernel)⟩
theorem lw_p5 : lw_okq (⟨"StuckTowns$Reader", "readRow", "([IIII)I"⟩, 7) := ⟨⟨by decide +kernel, by decide +kernel⟩, List.mem_of_getElem? (i := 27) (by decide +kernel), List.mem_of_getElem? (i := 430) (by decide +kernel), List.mem_of_getElem? (i := 431) (by decide +kernel)⟩
theorem lw_p6 : lw_okq (⟨"StuckTowns$Reader", "readNumber", "(II)I"⟩, 7) := ⟨⟨by decide +kernel, by decide +kernel⟩, List.mem_of_getElem? (i := 27) (by decide +kernel), List.mem_of_getElem? (i := 434) (by decide +kernel), List.mem_of_getElem? (i := 435) (by decide +kernel)⟩
theorem lw_p7 : lw_okq (⟨"StuckTowns$Reader", "isFigure", "(I)Z"⟩, 7) := ⟨⟨by decide +kernel, by decide +kernel⟩, List.mem_of_getElem? (i := 27) (by decide +kernel), List.mem_of_getElem? (i := 438) (by decide +kernel), List.mem_of_getElem? (i := 439) (by decide +kernel)⟩
theorem lw_p8 : lw_okq (⟨"StuckTowns$Reader", "readCart", "()V"⟩, 7) := ⟨⟨by decide +kernel, by decide +kernel⟩, List.mem_of_getElem? (i := 27) (by decide +kernel), List.mem_of_getElem? (i := 442) (by decide +kernel), List.mem_of_getElem? (i := 443) (by decide +kernel)⟩
theorem lw_p9 : lw_okq (⟨"StuckTowns$Survey", "distanceWith", "(II)I"⟩, 2) := ⟨⟨by decide +kernel, by decide +kernel⟩, List.mem_of_getElem? (i := 186) (by decide +kernel), List.mem_of_getElem? (i := 522) (by decide +kernel), List.mem_of_getElem? (i := 523) (by decide +kernel)⟩
theorem lw_p10 : lw_okq (⟨"StuckTowns$Kingdom", "settle", "(II)V"⟩, 2) := ⟨⟨by decide +kernel, by decide +kernel⟩, List.mem_of_getElem? (i := 173) (by decide +kernel), List.mem_of_getElem? (i := 593) (by decide +kernel), List.mem_of_getElem? (i := 594) (by decide +kernel)⟩
theorem lw_p11 : lw_okq (⟨"StuckTowns", "refusalOfDays", "(I)I"⟩, 12) := ⟨⟨by decide +kernel, by decide +kernel⟩, List.mem_of_getElem? (i := 19) (by decide +kernel), List.mem_of_getElem? (i := 613) (by decide +kernel), List.mem_of_getElem? (i := 614) (by decide +kernel)⟩
theorem lw_p12 : lw_okq (⟨"StuckTowns", "doByDraw", "()V"⟩, 12) := ⟨⟨by decide +kernel, by decide +kernel⟩, List.mem_of_getElem? (i := 19) (by decide +kernel), List.mem_of_getElem? (i := 650) (by decide +kernel), List.mem_of_getElem? (i := 651) (by decide +kernel)⟩
theorem lw_p13 : lw_okq (⟨"StuckTowns", "drawOf", "(I)I"⟩, 12) := ⟨⟨by decide +kernel, by decide +kernel⟩, List.mem_of_getElem? (i := 19) (by decide +kernel), List.mem_of_getElem? (i := 654) (by decide +kernel), List.mem_of_getElem? (i := 655) (by decide +kernel)⟩
theorem lw_p14 : lw_okq (⟨"StuckTowns$Trials", "greatestNeedAt", "(II)I"⟩, 5) := ⟨⟨by decide +kernel, by decide +kernel⟩, List.mem_of_getElem? (i := 199) (by decide +kernel), List.mem_of_getElem? (i := 718) (by decide +kernel), List.mem_of_getElem? (i := 719) (by decide +kernel)⟩
theorem lw_p15 : lw_okq (⟨"StuckTowns$Trials", "needAt", "(II)I"⟩, 5) := ⟨⟨by decide +kernel, by decide +kernel⟩, List.mem_of_getElem? (i := 199) (by decide +kernel), List.mem_of_getElem? (i := 722) (by decide +kernel), List.mem_of_getElem? (i := 723) (by decide +kernel)⟩
def lw_privs_1 : List (MethodName × Nat) := [(⟨"StuckTowns$Reader", "nextLetter", "()I"⟩, 7), (⟨"StuckTowns$Reader", "readClause", "()V"⟩, 7), (⟨"StuckTowns$Reader", "fail", "(II)V"⟩, 7), (⟨"StuckTowns$Reader", "isOneTooMany", "(I)Z"⟩, 7), (⟨"StuckTowns$Reader", "readRest", "(I)V"⟩, 7), (⟨"StuckTowns$Reader", "readRow", "([IIII)I"⟩, 7), (⟨"StuckTowns$Reader", "readNumber", "(II)I"⟩, 7), (⟨"StuckTowns$Reader", "isFigure", "(I)Z"⟩, 7), (⟨"StuckTowns$Reader", "readCart", "()V"⟩, 7), (⟨"StuckTowns$Survey", "distanceWith", "(II)I"⟩, 2), (⟨"StuckTowns$Kingdom", "settle", "(II)V"⟩, 2), (⟨"StuckTowns", "refusalOfDays", "(I)I"⟩, 12), (⟨"StuckTowns", "doByDraw", "()V"⟩, 12), (⟨"StuckTowns", "drawOf", "(I)I"⟩, 12), (⟨"StuckTowns$Trials", "greatestNeedAt", "(II)I"⟩, 5), (⟨"StuckTowns$Trials", "needAt", "(II)I"⟩, 5)]
theorem lw_r1 : ∀ q ∈ lw_privs_1, lw_okq q := List.forall_mem_cons.mpr ⟨lw_p0, List.forall_mem_cons.mpr ⟨lw_p1, List.forall_mem_cons.mpr ⟨lw_p2, List.forall_mem_cons.mpr ⟨lw_p3, List.forall_mem_cons.mpr ⟨lw_p4, List.forall_mem_cons.mpr ⟨lw_p5, List.forall_mem_cons.mpr ⟨lw_p6, List.forall_mem_cons.mpr ⟨lw_p7, List.forall_mem_cons.mpr ⟨lw_p8, List.forall_mem_cons.mpr ⟨lw_p9, List.forall_mem_cons.mpr ⟨lw_p10, List.forall_mem_cons.mpr ⟨lw_p11, List.forall_mem_cons.mpr ⟨lw_p12, List.forall_mem_cons.mpr ⟨lw_p13, List.forall_mem_cons.mpr ⟨lw_p14, List.forall_mem_cons.mpr ⟨lw_p15, fun _ h => absurd h List.not_mem_nil⟩⟩⟩⟩⟩⟩⟩⟩⟩⟩⟩⟩⟩⟩⟩⟩
theorem lw_p16 : lw_okq (⟨"StuckTowns$Orders", "sendNext", "(IIIII)V"⟩, 5) := ⟨⟨by decide +kernel, by decide +kernel⟩, List.mem_of_getElem? (i := 237) (by decide +kernel), List.mem_of_getElem? (i := 752) (by decide +kernel), List.mem_of_getElem? (i := 753) (by decide +kernel)⟩
theorem lw_p17 : lw_okq (⟨"StuckTowns$Guesses", "isAsHeard", "(I)Z"⟩, 7) := ⟨⟨by decide +kernel, by decide +kernel⟩, List.mem_of_getElem? (i := 286) (by decide +kernel), List.mem_of_getElem? (i := 805) (by decide +kernel), List.mem_of_getElem? (i := 806) (by decide +kernel)⟩
theorem lw_p18 : lw_okq (⟨"StuckTowns$Guesses", "greatestPart", "(I)I"⟩, 7) := ⟨⟨by decide +kernel, by decide +kernel⟩, List.mem_of_getElem? (i := 286) (by decide +kernel), List.mem_of_getElem? (i := 822) (by decide +kernel), List.mem_of_getElem? (i := 823) (by decide +kernel)⟩
theorem lw_p19 : lw_okq (⟨"StuckTownsModel", "here", "()I"⟩, 36) := ⟨⟨by decide +kernel, by decide +kernel⟩, List.mem_of_getElem? (i := 874) (by decide +kernel), List.mem_of_getElem? (i := 1003) (by decide +kernel), List.mem_of_getElem? (i := 1004) (by decide +kernel)⟩
theorem lw_p20 : lw_okq (⟨"StuckTownsModel", "takeClause", "()I"⟩, 36) := ⟨⟨by decide +kernel, by decide +kernel⟩, List.mem_of_getElem? (i := 874) (by decide +kernel), List.mem_of_getElem? (i := 1007) (by decide +kernel), List.mem_of_getElem? (i := 1008) (by decide +kernel)⟩
theorem lw_p21 : lw_okq (⟨"StuckTownsModel", "fails", "(II)I"⟩, 36) := ⟨⟨by decide +kernel, by decide +kernel⟩, List.mem_of_getElem? (i := 874) (by decide +kernel), List.mem_of_getElem? (i := 1011) (by decide +kernel), List.mem_of_getElem? (i := 1012) (by decide +kernel)⟩
theorem lw_p22 : lw_okq (⟨"StuckTownsModel", "takeRoad", "()I"⟩, 36) := ⟨⟨by decide +kernel, by decide +kernel⟩, List.mem_of_getElem? (i := 874) (by decide +kernel), List.mem_of_getElem? (i := 1015) (by decide +kernel), List.mem_of_getElem? (i := 1016) (by decide +kernel)⟩
theorem lw_p23 : lw_okq (⟨"StuckTownsModel", "into", "([IIII)I"⟩, 36) := ⟨⟨by decide +kernel, by decide +kernel⟩, List.mem_of_getElem? (i := 874) (by decide +kernel), List.mem_of_getElem? (i := 1019) (by decide +kernel), List.mem_of_getElem? (i := 1020) (by decide +kernel)⟩
theorem lw_p24 : lw_okq (⟨"StuckTownsModel", "takeNumber", "(II)I"⟩, 36) := ⟨⟨by decide +kernel, by decide +kernel⟩, List.mem_of_getElem? (i := 874) (by decide +kernel), List.mem_of_getElem? (i := 1023) (by decide +kernel), List.mem_of_getElem? (i := 1024) (by decide +kernel)⟩
theorem lw_p25 : lw_okq (⟨"StuckTownsModel", "takeWeather", "()I"⟩, 36) := ⟨⟨by decide +kernel, by decide +kernel⟩, List.mem_of_getElem? (i := 874) (by decide +kernel), List.mem_of_getElem? (i := 1029) (by decide +kernel), List.mem_of_getElem? (i := 1030) (by decide +kernel)⟩
theorem lw_p26 : lw_okq (⟨"StuckTownsModel", "takeCart", "()I"⟩, 36) := ⟨⟨by decide +kernel, by decide +kernel⟩, List.mem_of_getElem? (i := 874) (by decide +kernel), List.mem_of_getElem? (i := 1033) (by decide +kernel), List.mem_of_getElem? (i := 1034) (by decide +kernel)⟩
theorem lw_p27 : lw_okq (⟨"StuckTownsModel", "takeRead", "()V"⟩, 36) := ⟨⟨by decide +kernel, by decide +kernel⟩, List.mem_of_getElem? (i := 874) (by decide +kernel), List.mem_of_getElem? (i := 1037) (by decide +kernel), List.mem_of_getElem? (i := 1038) (by decide +kernel)⟩
theorem lw_p28 : lw_okq (⟨"StuckTownsModel", "wet", "()I"⟩, 36) := ⟨⟨by decide +kernel, by decide +kernel⟩, List.mem_of_getElem? (i := 874) (by decide +kernel), List.mem_of_getElem? (i := 1052) (by decide +kernel), List.mem_of_getElem? (i := 1053) (by decide +kernel)⟩
theorem lw_p29 : lw_okq (⟨"StuckTownsModel", "wetBehind", "(I)I"⟩, 36) := ⟨⟨by decide +kernel, by decide +kernel⟩, List.mem_of_getElem? (i := 874) (by decide +kernel), List.mem_of_getElem? (i := 1056) (by decide +kernel), List.mem_of_getElem? (i := 1057) (by decide +kernel)⟩
theorem lw_p30 : lw_okq (⟨"StuckTownsModel", "weatherOf", "(I)I"⟩, 36) := ⟨⟨by decide +kernel, by decide +kernel⟩, List.mem_of_getElem? (i := 874) (by decide +kernel), List.mem_of_getElem? (i := 1060) (by decide +kernel), List.mem_of_getElem? (i := 1061) (by decide +kernel)⟩
theorem lw_p31 : lw_okq (⟨"StuckTownsModel", "towns", "()I"⟩, 36) := ⟨⟨by decide +kernel, by decide +kernel⟩, List.mem_of_getElem? (i := 874) (by decide +kernel), List.mem_of_getElem? (i := 1064) (by decide +kernel), List.mem_of_getElem? (i := 1065) (by decide +kernel)⟩
def lw_privs_2 : List (MethodName × Nat) := [(⟨"StuckTowns$Orders", "sendNext", "(IIIII)V"⟩, 5), (⟨"StuckTowns$Guesses", "isAsHeard", "(I)Z"⟩, 7), (⟨"StuckTowns$Guesses", "greatestPart", "(I)I"⟩, 7), (⟨"StuckTownsModel", "here", "()I"⟩, 36), (⟨"StuckTownsModel", "takeClause", "()I"⟩, 36), (⟨"StuckTownsModel", "fails", "(II)I"⟩, 36), (⟨"StuckTownsModel", "takeRoad", "()I"⟩, 36), (⟨"StuckTownsModel", "into", "([IIII)I"⟩, 36), (⟨"StuckTownsModel", "takeNumber", "(II)I"⟩, 36), (⟨"StuckTownsModel", "takeWeather", "()I"⟩, 36), (⟨"StuckTownsModel", "takeCart", "()I"⟩, 36), (⟨"StuckTownsModel", "takeRead", "()V"⟩, 36), (⟨"StuckTownsModel", "wet", "()I"⟩, 36), (⟨"StuckTownsModel", "wetBehind", "(I)I"⟩, 36), (⟨"StuckTownsModel", "weatherOf", "(I)I"⟩, 36), (⟨"StuckTownsModel", "towns", "()I"⟩, 36)]
theorem lw_r2 : ∀ q ∈ lw_privs_2, lw_okq q := List.forall_mem_cons.mpr ⟨lw_p16, List.forall_mem_cons.mpr ⟨lw_p17, List.forall_mem_cons.mpr ⟨lw_p18, List.forall_mem_cons.mpr ⟨lw_p19, List.forall_mem_cons.mpr ⟨lw_p20, List.forall_mem_cons.mpr ⟨lw_p21, List.forall_mem_cons.mpr ⟨lw_p22, List.forall_mem_cons.mpr ⟨lw_p23, List.forall_mem_cons.mpr ⟨lw_p24, List.forall_mem_cons.mpr ⟨lw_p25, List.forall_mem_cons.mpr ⟨lw_p26, List.forall_mem_cons.mpr ⟨lw_p27, List.forall_mem_cons.mpr ⟨lw_p28, List.forall_mem_cons.mpr ⟨lw_p29, List.forall_mem_cons.mpr ⟨lw_p30, List.forall_mem_cons.mpr ⟨lw_p31, fun _ h => absurd h List.not_mem_nil⟩⟩⟩⟩⟩⟩⟩⟩⟩⟩⟩⟩⟩⟩⟩⟩
theorem lw_p32 : lw_okq (⟨"StuckTownsModel", "isTown", "(I)Z"⟩, 36) := ⟨⟨by decide +kernel, by decide +kernel⟩, List.mem_of_getElem? (i := 874) (by decide +kernel), List.mem_of_getElem? (i := 1068) (by decide +kernel), List.mem_of_getElem? (i := 1069) (by decide +kernel)⟩
theorem lw_p33 : lw_okq (⟨"StuckTownsModel", "stuckOnes", "()I"⟩, 36) := ⟨⟨by decide +kernel, by decide +kernel⟩, List.mem_of_getElem? (i := 874) (by decide +kernel), List.mem_of_getElem? (i := 1072) (by decide +kernel), List.mem_of_getElem? (i := 1073) (by decide +kernel)⟩
theorem lw_p34 : lw_okq (⟨"StuckTownsModel", "stopper", "()I"⟩, 36) := ⟨⟨by decide +kernel, by decide +kernel⟩, List.mem_of_getElem? (i := 874) (by decide +kernel), List.mem_of_getElem? (i := 1076) (by decide +kernel), List.mem_of_getElem? (i := 1077) (by decide +kernel)⟩
theorem lw_p35 : lw_okq (⟨"StuckTownsModel", "stopOf", "(II)I"⟩, 36) := ⟨⟨by decide +kernel, by decide +kernel⟩, List.mem_of_getElem? (i := 874) (by decide +kernel), List.mem_of_getElem? (i := 1080) (by decide +kernel), List.mem_of_getElem? (i := 1081) (by decide +kernel)⟩
theorem lw_p36 : lw_okq (⟨"StuckTownsModel", "stopBy", "(III)I"⟩, 36) := ⟨⟨by decide +kernel, by decide +kernel⟩, List.mem_of_getElem? (i := 874) (by decide +kernel), List.mem_of_getElem? (i := 1084) (by decide +kernel), List.mem_of_getElem? (i := 1085) (by decide +kernel)⟩
theorem lw_p37 : lw_okq (⟨"StuckTownsModel", "groundOf", "(III)I"⟩, 36) := ⟨⟨by decide +kernel, by decide +kernel⟩, List.mem_of_getElem? (i := 874) (by decide +kernel), List.mem_of_getElem? (i := 1088) (by decide +kernel), List.mem_of_getElem? (i := 1089) (by decide +kernel)⟩
theorem lw_p38 : lw_okq (⟨"StuckTownsModel", "weighs", "(II)I"⟩, 36) := ⟨⟨by decide +kernel, by decide +kernel⟩, List.mem_of_getElem? (i := 874) (by decide +kernel), List.mem_of_getElem? (i := 1095) (by decide +kernel), List.mem_of_getElem? (i := 1096) (by decide +kernel)⟩
theorem lw_p39 : lw_okq (⟨"StuckTownsModel", "farOf", "()I"⟩, 36) := ⟨⟨by decide +kernel, by decide +kernel⟩, List.mem_of_getElem? (i := 874) (by decide +kernel), List.mem_of_getElem? (i := 1099) (by decide +kernel), List.mem_of_getElem? (i := 1100) (by decide +kernel)⟩
theorem lw_p40 : lw_okq (⟨"StuckTownsModel", "distanceTo", "(II)I"⟩, 36) := ⟨⟨by decide +kernel, by decide +kernel⟩, List.mem_of_getElem? (i := 874) (by decide +kernel), List.mem_of_getElem? (i := 1103) (by decide +kernel), List.mem_of_getElem? (i := 1104) (by decide +kernel)⟩
theorem lw_p41 : lw_okq (⟨"StuckTownsModel", "longest", "()I"⟩, 36) := ⟨⟨by decide +kernel, by decide +kernel⟩, List.mem_of_getElem? (i := 874) (by decide +kernel), List.mem_of_getElem? (i := 1111) (by decide +kernel), List.mem_of_getElem? (i := 1112) (by decide +kernel)⟩
theorem lw_p42 : lw_okq (⟨"StuckTownsModel", "biggest", "()I"⟩, 36) := ⟨⟨by decide +kernel, by decide +kernel⟩, List.mem_of_getElem? (i := 874) (by decide +kernel), List.mem_of_getElem? (i := 1115) (by decide +kernel), List.mem_of_getElem? (i := 1116) (by decide +kernel)⟩
theorem lw_p43 : lw_okq (⟨"StuckTownsModel", "allFolk", "()I"⟩, 36) := ⟨⟨by decide +kernel, by decide +kernel⟩, List.mem_of_getElem? (i := 874) (by decide +kernel), List.mem_of_getElem? (i := 1119) (by decide +kernel), List.mem_of_getElem? (i := 1120) (by decide +kernel)⟩
theorem lw_p44 : lw_okq (⟨"StuckTownsModel", "isCell", "(I)Z"⟩, 36) := ⟨⟨by decide +kernel, by decide +kernel⟩, List.mem_of_getElem? (i := 874) (by decide +kernel), List.mem_of_getElem? (i := 1127) (by decide +kernel), List.mem_of_getElem? (i := 1128) (by decide +kernel)⟩
theorem lw_p45 : lw_okq (⟨"StuckTownsModel", "isCart", "(I)Z"⟩, 36) := ⟨⟨by decide +kernel, by decide +kernel⟩, List.mem_of_getElem? (i := 874) (by decide +kernel), List.mem_of_getElem? (i := 1136) (by decide +kernel), List.mem_of_getElem? (i := 1137) (by decide +kernel)⟩
theorem lw_p46 : lw_okq (⟨"StuckTownsModel", "mayorOf", "(I)I"⟩, 36) := ⟨⟨by decide +kernel, by decide +kernel⟩, List.mem_of_getElem? (i := 874) (by decide +kernel), List.mem_of_getElem? (i := 1140) (by decide +kernel), List.mem_of_getElem? (i := 1141) (by decide +kernel)⟩
theorem lw_p47 : lw_okq (⟨"StuckTownsModel", "remember", "()V"⟩, 36) := ⟨⟨by decide +kernel, by decide +kernel⟩, List.mem_of_getElem? (i := 874) (by decide +kernel), List.mem_of_getElem? (i := 1153) (by decide +kernel), List.mem_of_getElem? (i := 1154) (by decide +kernel)⟩
def lw_privs_3 : List (MethodName × Nat) := [(⟨"StuckTownsModel", "isTown", "(I)Z"⟩, 36), (⟨"StuckTownsModel", "stuckOnes", "()I"⟩, 36), (⟨"StuckTownsModel", "stopper", "()I"⟩, 36), (⟨"StuckTownsModel", "stopOf", "(II)I"⟩, 36), (⟨"StuckTownsModel", "stopBy", "(III)I"⟩, 36), (⟨"StuckTownsModel", "groundOf", "(III)I"⟩, 36), (⟨"StuckTownsModel", "weighs", "(II)I"⟩, 36), (⟨"StuckTownsModel", "farOf", "()I"⟩, 36), (⟨"StuckTownsModel", "distanceTo", "(II)I"⟩, 36), (⟨"StuckTownsModel", "longest", "()I"⟩, 36), (⟨"StuckTownsModel", "biggest", "()I"⟩, 36), (⟨"StuckTownsModel", "allFolk", "()I"⟩, 36), (⟨"StuckTownsModel", "isCell", "(I)Z"⟩, 36), (⟨"StuckTownsModel", "isCart", "(I)Z"⟩, 36), (⟨"StuckTownsModel", "mayorOf", "(I)I"⟩, 36), (⟨"StuckTownsModel", "remember", "()V"⟩, 36)]
theorem lw_r3 : ∀ q ∈ lw_privs_3, lw_okq q := List.forall_mem_cons.mpr ⟨lw_p32, List.forall_mem_cons.mpr ⟨lw_p33, List.forall_mem_cons.mpr ⟨lw_p34, List.forall_mem_cons.mpr ⟨lw_p35, List.forall_mem_cons.mpr ⟨lw_p36, List.forall_mem_cons.mpr ⟨lw_p37, List.forall_mem_cons.mpr ⟨lw_p38, List.forall_mem_cons.mpr ⟨lw_p39, List.forall_mem_cons.mpr ⟨lw_p40, List.forall_mem_cons.mpr ⟨lw_p41, List.forall_mem_cons.mpr ⟨lw_p42, List.forall_mem_cons.mpr ⟨lw_p43, List.forall_mem_cons.mpr ⟨lw_p44, List.forall_mem_cons.mpr ⟨lw_p45, List.forall_mem_cons.mpr ⟨lw_p46, List.forall_mem_cons.mpr ⟨lw_p47, fun _ h => absurd h List.not_mem_nil⟩⟩⟩⟩⟩⟩⟩⟩⟩⟩⟩⟩⟩⟩⟩⟩
theorem lw_p48 : lw_okq (⟨"StuckTownsModel", "driveNow", "(I)I"⟩, 36) := ⟨⟨by decide +kernel, by decide +kernel⟩, List.mem_of_getElem? (i := 874) (by decide +kernel), List.mem_of_getElem? (i := 1157) (by decide +kernel), List.mem_of_getElem? (i := 1158) (by decide +kernel)⟩
theorem lw_p49 : lw_okq (⟨"StuckTownsModel", "pullNow", "(I)I"⟩, 36) := ⟨⟨by decide +kernel, by decide +kernel⟩, List.mem_of_getElem? (i := 874) (by decide +kernel), List.mem_of_getElem? (i := 1165) (by decide +kernel), List.mem_of_getElem? (i := 1166) (by decide +kernel)⟩
theorem lw_p50 : lw_okq (⟨"StuckTownsModel", "daysRefused", "(I)I"⟩, 36) := ⟨⟨by decide +kernel, by decide +kernel⟩, List.mem_of_getElem? (i := 874) (by decide +kernel), List.mem_of_getElem? (i := 1173) (by decide +kernel), List.mem_of_getElem? (i := 1174) (by decide +kernel)⟩
theorem lw_p51 : lw_okq (⟨"StuckTownsModel", "pass", "()V"⟩, 36) := ⟨⟨by decide +kernel, by decide +kernel⟩, List.mem_of_getElem? (i := 874) (by decide +kernel), List.mem_of_getElem? (i := 1178) (by decide +kernel), List.mem_of_getElem? (i := 1179) (by decide +kernel)⟩
theorem lw_p52 : lw_okq (⟨"StuckTownsModel", "layNow", "(II)V"⟩, 36) := ⟨⟨by decide +kernel, by decide +kernel⟩, List.mem_of_getElem? (i := 874) (by decide +kernel), List.mem_of_getElem? (i := 1187) (by decide +kernel), List.mem_of_getElem? (i := 1188) (by decide +kernel)⟩
theorem lw_p53 : lw_okq (⟨"StuckTownsModel", "chance", "()V"⟩, 36) := ⟨⟨by decide +kernel, by decide +kernel⟩, List.mem_of_getElem? (i := 874) (by decide +kernel), List.mem_of_getElem? (i := 1207) (by decide +kernel), List.mem_of_getElem? (i := 1208) (by decide +kernel)⟩
theorem lw_p54 : lw_okq (⟨"StuckTownsModel", "draw", "(I)I"⟩, 36) := ⟨⟨by decide +kernel, by decide +kernel⟩, List.mem_of_getElem? (i := 874) (by decide +kernel), List.mem_of_getElem? (i := 1211) (by decide +kernel), List.mem_of_getElem? (i := 1212) (by decide +kernel)⟩
theorem lw_p55 : lw_okq (⟨"StuckTownsModel", "needOf", "(II)I"⟩, 36) := ⟨⟨by decide +kernel, by decide +kernel⟩, List.mem_of_getElem? (i := 874) (by decide +kernel), List.mem_of_getElem? (i := 1241) (by decide +kernel), List.mem_of_getElem? (i := 1242) (by decide +kernel)⟩
theorem lw_p56 : lw_okq (⟨"StuckTownsModel", "isSet", "(I)Z"⟩, 36) := ⟨⟨by decide +kernel, by decide +kernel⟩, List.mem_of_getElem? (i := 874) (by decide +kernel), List.mem_of_getElem? (i := 1249) (by decide +kernel), List.mem_of_getElem? (i := 1250) (by decide +kernel)⟩
theorem lw_p57 : lw_okq (⟨"StuckTownsModel", "foundedBy", "(III)I"⟩, 36) := ⟨⟨by decide +kernel, by decide +kernel⟩, List.mem_of_getElem? (i := 874) (by decide +kernel), List.mem_of_getElem? (i := 1260) (by decide +kernel), List.mem_of_getElem? (i := 1261) (by decide +kernel)⟩
theorem lw_p58 : lw_okq (⟨"StuckTownsModel", "couldBe", "(I)Z"⟩, 36) := ⟨⟨by decide +kernel, by decide +kernel⟩, List.mem_of_getElem? (i := 874) (by decide +kernel), List.mem_of_getElem? (i := 1286) (by decide +kernel), List.mem_of_getElem? (i := 1287) (by decide +kernel)⟩
theorem lw_p59 : lw_okq (⟨"StuckTownsModel", "greatestPart", "(I)I"⟩, 36) := ⟨⟨by decide +kernel, by decide +kernel⟩, List.mem_of_getElem? (i := 874) (by decide +kernel), List.mem_of_getElem? (i := 1295) (by decide +kernel), List.mem_of_getElem? (i := 1296) (by decide +kernel)⟩
def lw_privs_4 : List (MethodName × Nat) := [(⟨"StuckTownsModel", "driveNow", "(I)I"⟩, 36), (⟨"StuckTownsModel", "pullNow", "(I)I"⟩, 36), (⟨"StuckTownsModel", "daysRefused", "(I)I"⟩, 36), (⟨"StuckTownsModel", "pass", "()V"⟩, 36), (⟨"StuckTownsModel", "layNow", "(II)V"⟩, 36), (⟨"StuckTownsModel", "chance", "()V"⟩, 36), (⟨"StuckTownsModel", "draw", "(I)I"⟩, 36), (⟨"StuckTownsModel", "needOf", "(II)I"⟩, 36), (⟨"StuckTownsModel", "isSet", "(I)Z"⟩, 36), (⟨"StuckTownsModel", "foundedBy", "(III)I"⟩, 36), (⟨"StuckTownsModel", "couldBe", "(I)Z"⟩, 36), (⟨"StuckTownsModel", "greatestPart", "(I)I"⟩, 36)]
theorem lw_r4 : ∀ q ∈ lw_privs_4, lw_okq q := List.forall_mem_cons.mpr ⟨lw_p48, List.forall_mem_cons.mpr ⟨lw_p49, List.forall_mem_cons.mpr ⟨lw_p50, List.forall_mem_cons.mpr ⟨lw_p51, List.forall_mem_cons.mpr ⟨lw_p52, List.forall_mem_cons.mpr ⟨lw_p53, List.forall_mem_cons.mpr ⟨lw_p54, List.forall_mem_cons.mpr ⟨lw_p55, List.forall_mem_cons.mpr ⟨lw_p56, List.forall_mem_cons.mpr ⟨lw_p57, List.forall_mem_cons.mpr ⟨lw_p58, List.forall_mem_cons.mpr ⟨lw_p59, fun _ h => absurd h List.not_mem_nil⟩⟩⟩⟩⟩⟩⟩⟩⟩⟩⟩⟩
def lw_privs : List (MethodName × Nat) := lw_privs_1 ++ (lw_privs_2 ++ (lw_privs_3 ++ (lw_privs_4)))
def lw_tbl : List Cond := k2_sels lw_privs ++ tables_1
theorem lw_privs_ok : ∀ q ∈ lw_privs, lw_okq q := by
  show ∀ q ∈ lw_privs_1 ++ (lw_privs_2 ++ (lw_privs_3 ++ (lw_privs_4))), lw_okq q
  exact List.forall_mem_append.mpr ⟨lw_r1, List.forall_mem_append.mpr ⟨lw_r2, List.forall_mem_append.mpr ⟨lw_r3, lw_r4⟩⟩⟩
end
section
def RX0 : String := "StuckTowns$Entries"
def TX0 : u_T := fun k => match k with
  | 0 => ("StuckTowns$Entries", "count", "I", false)
  | 1 => ("StuckTowns$Entries", "first", "[I", true)
  | _ => ("StuckTowns$Entries", "second", "[I", true)
def tyX0 : Nat → FieldType := fun k => match k with
  | 0 => .int
  | 1 => .array .int
  | _ => .array .int
theorem nmX0 : ∀ a, a < 3 → ∀ b, b < 3 → a ≠ b → (TX0 a).2.1 ≠ (TX0 b).2.1 := by decide +kernel
theorem tyX0_ok : ∀ k, k < 3 → parseFieldDescriptor (TX0 k).2.2.1 = some (tyX0 k) := by decide +kernel
abbrev cX0_init : ByteArray := prog_2_method_1_code
def yX0_init : MethodName := ⟨RX0, "<init>", "(I)V"⟩
abbrev cX0_isFull : ByteArray := prog_2_method_2_code
def yX0_isFull : MethodName := ⟨RX0, "isFull", "()Z"⟩
abbrev cX0_append : ByteArray := prog_2_method_3_code
def yX0_append : MethodName := ⟨RX0, "append", "(II)V"⟩
def RX1 : String := "StuckTowns$Guesses"
def TX1 : u_T := fun k => match k with
  | 0 => ("StuckTowns$Guesses", "map", "LStuckTowns$Road;", true)
  | 1 => ("StuckTowns$Guesses", "now", "LStuckTowns$State;", true)
  | 2 => ("StuckTowns$Guesses", "kingdom", "LStuckTowns$Kingdom;", true)
  | 3 => ("StuckTowns$Guesses", "heard", "LStuckTowns$Entries;", true)
  | 4 => ("StuckTowns$Guesses", "fits", "[Z", true)
  | 5 => ("StuckTowns$Guesses", "alike", "[I", true)
  | _ => ("StuckTowns$Guesses", "span", "LStuckTowns$Span;", true)
def tyX1 : Nat → FieldType := fun k => match k with
  | 0 => .object "StuckTowns$Road"
  | 1 => .object "StuckTowns$State"
  | 2 => .object "StuckTowns$Kingdom"
  | 3 => .object "StuckTowns$Entries"
  | 4 => .array .boolean
  | 5 => .array .int
  | _ => .object "StuckTowns$Span"
theorem nmX1 : ∀ a, a < 7 → ∀ b, b < 7 → a ≠ b → (TX1 a).2.1 ≠ (TX1 b).2.1 := by decide +kernel
theorem tyX1_ok : ∀ k, k < 7 → parseFieldDescriptor (TX1 k).2.2.1 = some (tyX1 k) := by decide +kernel
abbrev cX1_init : ByteArray := prog_3_method_1_code
def yX1_init : MethodName := ⟨RX1, "<init>", "(LStuckTowns$Road;LStuckTowns$State;LStuckTowns$Kingdom;LStuckTowns$Entries;)V"⟩
abbrev cX1_isAsHeard : ByteArray := prog_3_method_2_code
def yX1_isAsHeard : MethodName := ⟨RX1, "isAsHeard", "(I)Z"⟩
abbrev cX1_fittingRains : ByteArray := prog_3_method_3_code
def yX1_fittingRains : MethodName := ⟨RX1, "fittingRains", "()LStuckTowns$Span;"⟩
abbrev cX1_bestToSend : ByteArray := prog_3_method_4_code
def yX1_bestToSend : MethodName := ⟨RX1, "bestToSend", "()I"⟩
abbrev cX1_greatestPart : ByteArray := prog_3_method_5_code
def yX1_greatestPart : MethodName := ⟨RX1, "greatestPart", "(I)I"⟩
def RX2 : String := "StuckTowns$Kingdom"
def TX2 : u_T := fun k => match k with
  | 0 => ("StuckTowns$Kingdom", "map", "LStuckTowns$Road;", true)
  | _ => ("StuckTowns$Kingdom", "now", "LStuckTowns$State;", true)
def tyX2 : Nat → FieldType := fun k => match k with
  | 0 => .object "StuckTowns$Road"
  | _ => .object "StuckTowns$State"
theorem nmX2 : ∀ a, a < 2 → ∀ b, b < 2 → a ≠ b → (TX2 a).2.1 ≠ (TX2 b).2.1 := by decide +kernel
theorem tyX2_ok : ∀ k, k < 2 → parseFieldDescriptor (TX2 k).2.2.1 = some (tyX2 k) := by decide +kernel
abbrev cX2_init : ByteArray := prog_4_method_1_code
def yX2_init : MethodName := ⟨RX2, "<init>", "(LStuckTowns$Road;LStuckTowns$State;)V"⟩
abbrev cX2_wetBehind : ByteArray := prog_4_method_2_code
def yX2_wetBehind : MethodName := ⟨RX2, "wetBehind", "(I)I"⟩
abbrev cX2_groundFor : ByteArray := prog_4_method_3_code
def yX2_groundFor : MethodName := ⟨RX2, "groundFor", "(III)I"⟩
abbrev cX2_weightOf : ByteArray := prog_4_method_4_code
def yX2_weightOf : MethodName := ⟨RX2, "weightOf", "(II)I"⟩
abbrev cX2_sinkOf : ByteArray := prog_4_method_5_code
def yX2_sinkOf : MethodName := ⟨RX2, "sinkOf", "(IIII)I"⟩
abbrev cX2_stopOf : ByteArray := prog_4_method_6_code
def yX2_stopOf : MethodName := ⟨RX2, "stopOf", "(III)I"⟩
abbrev cX2_stopBehind : ByteArray := prog_4_method_7_code
def yX2_stopBehind : MethodName := ⟨RX2, "stopBehind", "(II)I"⟩
abbrev cX2_driveOut : ByteArray := prog_4_method_8_code
def yX2_driveOut : MethodName := ⟨RX2, "driveOut", "(I)I"⟩
abbrev cX2_settle : ByteArray := prog_4_method_9_code
def yX2_settle : MethodName := ⟨RX2, "settle", "(II)V"⟩
abbrev cX2_pullOut : ByteArray := prog_4_method_10_code
def yX2_pullOut : MethodName := ⟨RX2, "pullOut", "(I)I"⟩
abbrev cX2_passDay : ByteArray := prog_4_method_11_code
def yX2_passDay : MethodName := ⟨RX2, "passDay", "()V"⟩
abbrev cX2_layGravel : ByteArray := prog_4_method_12_code
def yX2_layGravel : MethodName := ⟨RX2, "layGravel", "(II)V"⟩
def RX3 : String := "StuckTowns$Memory"
def TX3 : u_T := fun k => match k with
  | 0 => ("StuckTowns$Memory", "undoable", "I", false)
  | 1 => ("StuckTowns$Memory", "next", "I", false)
  | 2 => ("StuckTowns$Memory", "row", "[I", true)
  | 3 => ("StuckTowns$Memory", "kept", "[Z", true)
  | _ => ("StuckTowns$Memory", "seeds", "[I", true)
def tyX3 : Nat → FieldType := fun k => match k with
  | 0 => .int
  | 1 => .int
  | 2 => .array .int
  | 3 => .array .boolean
  | _ => .array .int
theorem nmX3 : ∀ a, a < 5 → ∀ b, b < 5 → a ≠ b → (TX3 a).2.1 ≠ (TX3 b).2.1 := by decide +kernel
theorem tyX3_ok : ∀ k, k < 5 → parseFieldDescriptor (TX3 k).2.2.1 = some (tyX3 k) := by decide +kernel
abbrev cX3_init : ByteArray := prog_5_method_1_code
def yX3_init : MethodName := ⟨RX3, "<init>", "()V"⟩
abbrev cX3_forgetAll : ByteArray := prog_5_method_2_code
def yX3_forgetAll : MethodName := ⟨RX3, "forgetAll", "()V"⟩
abbrev cX3_remember : ByteArray := prog_5_method_3_code
def yX3_remember : MethodName := ⟨RX3, "remember", "(LStuckTowns$State;)V"⟩
abbrev cX3_takeBack : ByteArray := prog_5_method_4_code
def yX3_takeBack : MethodName := ⟨RX3, "takeBack", "(LStuckTowns$State;)V"⟩
abbrev cX3_hasRoomFor : ByteArray := prog_5_method_5_code
def yX3_hasRoomFor : MethodName := ⟨RX3, "hasRoomFor", "(I)Z"⟩
abbrev cX3_hasKept : ByteArray := prog_5_method_6_code
def yX3_hasKept : MethodName := ⟨RX3, "hasKept", "(I)Z"⟩
abbrev cX3_keepImage : ByteArray := prog_5_method_7_code
def yX3_keepImage : MethodName := ⟨RX3, "keepImage", "(ILStuckTowns$State;I)V"⟩
abbrev cX3_fetchImage : ByteArray := prog_5_method_8_code
def yX3_fetchImage : MethodName := ⟨RX3, "fetchImage", "(ILStuckTowns$State;)V"⟩
abbrev cX3_seedOfImage : ByteArray := prog_5_method_9_code
def yX3_seedOfImage : MethodName := ⟨RX3, "seedOfImage", "(I)I"⟩
def RX4 : String := "StuckTowns$Orders"
def TX4 : u_T := fun k => match k with
  | 0 => ("StuckTowns$Orders", "bestCount", "I", false)
  | 1 => ("StuckTowns$Orders", "bestFigures", "I", false)
  | 2 => ("StuckTowns$Orders", "map", "LStuckTowns$Road;", true)
  | 3 => ("StuckTowns$Orders", "kingdom", "LStuckTowns$Kingdom;", true)
  | _ => ("StuckTowns$Orders", "stopOn", "[I", true)
def tyX4 : Nat → FieldType := fun k => match k with
  | 0 => .int
  | 1 => .int
  | 2 => .object "StuckTowns$Road"
  | 3 => .object "StuckTowns$Kingdom"
  | _ => .array .int
theorem nmX4 : ∀ a, a < 5 → ∀ b, b < 5 → a ≠ b → (TX4 a).2.1 ≠ (TX4 b).2.1 := by decide +kernel
theorem tyX4_ok : ∀ k, k < 5 → parseFieldDescriptor (TX4 k).2.2.1 = some (tyX4 k) := by decide +kernel
abbrev cX4_init : ByteArray := prog_6_method_1_code
def yX4_init : MethodName := ⟨RX4, "<init>", "(LStuckTowns$Road;LStuckTowns$Kingdom;)V"⟩
abbrev cX4_look : ByteArray := prog_6_method_2_code
def yX4_look : MethodName := ⟨RX4, "look", "(II)V"⟩
abbrev cX4_sendNext : ByteArray := prog_6_method_3_code
def yX4_sendNext : MethodName := ⟨RX4, "sendNext", "(IIIII)V"⟩
def RX5 : String := "StuckTowns$Reader"
def TX5 : u_T := fun k => match k with
  | 0 => ("StuckTowns$Reader", "draft", "LStuckTowns$Road;", true)
  | 1 => ("StuckTowns$Reader", "length", "I", false)
  | 2 => ("StuckTowns$Reader", "faultPlace", "I", false)
  | 3 => ("StuckTowns$Reader", "letters", "[I", true)
  | 4 => ("StuckTowns$Reader", "faultKind", "I", false)
  | 5 => ("StuckTowns$Reader", "at", "I", false)
  | _ => ("StuckTowns$Reader", "weatherTold", "Z", false)
def tyX5 : Nat → FieldType := fun k => match k with
  | 0 => .object "StuckTowns$Road"
  | 1 => .int
  | 2 => .int
  | 3 => .array .int
  | 4 => .int
  | 5 => .int
  | _ => .boolean
theorem nmX5 : ∀ a, a < 7 → ∀ b, b < 7 → a ≠ b → (TX5 a).2.1 ≠ (TX5 b).2.1 := by decide +kernel
theorem tyX5_ok : ∀ k, k < 7 → parseFieldDescriptor (TX5 k).2.2.1 = some (tyX5 k) := by decide +kernel
abbrev cX5_init : ByteArray := prog_7_method_1_code
def yX5_init : MethodName := ⟨RX5, "<init>", "()V"⟩
abbrev cX5_append : ByteArray := prog_7_method_2_code
def yX5_append : MethodName := ⟨RX5, "append", "(I)V"⟩
abbrev cX5_readText : ByteArray := prog_7_method_3_code
def yX5_readText : MethodName := ⟨RX5, "readText", "()I"⟩
abbrev cX5_readClause : ByteArray := prog_7_method_4_code
def yX5_readClause : MethodName := ⟨RX5, "readClause", "()V"⟩
abbrev cX5_isOneTooMany : ByteArray := prog_7_method_5_code
def yX5_isOneTooMany : MethodName := ⟨RX5, "isOneTooMany", "(I)Z"⟩
abbrev cX5_readRest : ByteArray := prog_7_method_6_code
def yX5_readRest : MethodName := ⟨RX5, "readRest", "(I)V"⟩
abbrev cX5_readRow : ByteArray := prog_7_method_7_code
def yX5_readRow : MethodName := ⟨RX5, "readRow", "([IIII)I"⟩
abbrev cX5_readCart : ByteArray := prog_7_method_8_code
def yX5_readCart : MethodName := ⟨RX5, "readCart", "()V"⟩
abbrev cX5_readNumber : ByteArray := prog_7_method_9_code
def yX5_readNumber : MethodName := ⟨RX5, "readNumber", "(II)I"⟩
abbrev cX5_isFigure : ByteArray := prog_7_method_10_code
def yX5_isFigure : MethodName := ⟨RX5, "isFigure", "(I)Z"⟩
abbrev cX5_nextLetter : ByteArray := prog_7_method_11_code
def yX5_nextLetter : MethodName := ⟨RX5, "nextLetter", "()I"⟩
abbrev cX5_fail : ByteArray := prog_7_method_12_code
def yX5_fail : MethodName := ⟨RX5, "fail", "(II)V"⟩
def RX6 : String := "StuckTowns$Road"
def TX6 : u_T := fun k => match k with
  | 0 => ("StuckTowns$Road", "cells", "I", false)
  | 1 => ("StuckTowns$Road", "rains", "I", false)
  | 2 => ("StuckTowns$Road", "carts", "I", false)
  | 3 => ("StuckTowns$Road", "soft", "[I", true)
  | 4 => ("StuckTowns$Road", "weather", "[I", true)
  | 5 => ("StuckTowns$Road", "wheels", "[I", true)
  | 6 => ("StuckTowns$Road", "toldLoad", "[I", true)
  | _ => ("StuckTowns$Road", "says", "[I", true)
def tyX6 : Nat → FieldType := fun k => match k with
  | 0 => .int
  | 1 => .int
  | 2 => .int
  | 3 => .array .int
  | 4 => .array .int
  | 5 => .array .int
  | 6 => .array .int
  | _ => .array .int
theorem nmX6 : ∀ a, a < 8 → ∀ b, b < 8 → a ≠ b → (TX6 a).2.1 ≠ (TX6 b).2.1 := by decide +kernel
theorem tyX6_ok : ∀ k, k < 8 → parseFieldDescriptor (TX6 k).2.2.1 = some (tyX6 k) := by decide +kernel
abbrev cX6_init : ByteArray := prog_8_method_1_code
def yX6_init : MethodName := ⟨RX6, "<init>", "()V"⟩
abbrev cX6_clear : ByteArray := prog_8_method_2_code
def yX6_clear : MethodName := ⟨RX6, "clear", "()V"⟩
abbrev cX6_become : ByteArray := prog_8_method_3_code
def yX6_become : MethodName := ⟨RX6, "become", "(LStuckTowns$Road;)V"⟩
abbrev cX6_hasCell : ByteArray := prog_8_method_4_code
def yX6_hasCell : MethodName := ⟨RX6, "hasCell", "(I)Z"⟩
abbrev cX6_hasCart : ByteArray := prog_8_method_5_code
def yX6_hasCart : MethodName := ⟨RX6, "hasCart", "(I)Z"⟩
abbrev cX6_hasCarts : ByteArray := prog_8_method_6_code
def yX6_hasCarts : MethodName := ⟨RX6, "hasCarts", "(I)Z"⟩
abbrev cX6_weatherOn : ByteArray := prog_8_method_7_code
def yX6_weatherOn : MethodName := ⟨RX6, "weatherOn", "(I)I"⟩
def RX7 : String := "StuckTowns$Span"
def TX7 : u_T := fun k => match k with
  | 0 => ("StuckTowns$Span", "count", "I", false)
  | 1 => ("StuckTowns$Span", "least", "I", false)
  | _ => ("StuckTowns$Span", "greatest", "I", false)
def tyX7 : Nat → FieldType := fun k => match k with
  | 0 => .int
  | 1 => .int
  | _ => .int
theorem nmX7 : ∀ a, a < 3 → ∀ b, b < 3 → a ≠ b → (TX7 a).2.1 ≠ (TX7 b).2.1 := by decide +kernel
theorem tyX7_ok : ∀ k, k < 3 → parseFieldDescriptor (TX7 k).2.2.1 = some (tyX7 k) := by decide +kernel
abbrev cX7_init : ByteArray := prog_9_method_1_code
def yX7_init : MethodName := ⟨RX7, "<init>", "()V"⟩
abbrev cX7_clear : ByteArray := prog_9_method_2_code
def yX7_clear : MethodName := ⟨RX7, "clear", "()V"⟩
abbrev cX7_put : ByteArray := prog_9_method_3_code
def yX7_put : MethodName := ⟨RX7, "put", "(I)V"⟩
abbrev cX7_answer : ByteArray := prog_9_method_4_code
def yX7_answer : MethodName := ⟨RX7, "answer", "(I)I"⟩
def RX8 : String := "StuckTowns$State"
def TX8 : u_T := fun k => match k with
  | 0 => ("StuckTowns$State", "days", "I", false)
  | 1 => ("StuckTowns$State", "stormLeft", "I", false)
  | 2 => ("StuckTowns$State", "gravel", "[I", true)
  | 3 => ("StuckTowns$State", "townName", "[I", true)
  | 4 => ("StuckTowns$State", "mayor", "[I", true)
  | 5 => ("StuckTowns$State", "folk", "[I", true)
  | 6 => ("StuckTowns$State", "loadOf", "[I", true)
  | 7 => ("StuckTowns$State", "stuckAt", "[I", true)
  | _ => ("StuckTowns$State", "timesStuck", "[I", true)
def tyX8 : Nat → FieldType := fun k => match k with
  | 0 => .int
  | 1 => .int
  | 2 => .array .int
  | 3 => .array .int
  | 4 => .array .int
  | 5 => .array .int
  | 6 => .array .int
  | 7 => .array .int
  | _ => .array .int
theorem nmX8 : ∀ a, a < 9 → ∀ b, b < 9 → a ≠ b → (TX8 a).2.1 ≠ (TX8 b).2.1 := by decide +kernel
theorem tyX8_ok : ∀ k, k < 9 → parseFieldDescriptor (TX8 k).2.2.1 = some (tyX8 k) := by decide +kernel
abbrev cX8_init : ByteArray := prog_10_method_1_code
def yX8_init : MethodName := ⟨RX8, "<init>", "()V"⟩
abbrev cX8_begin : ByteArray := prog_10_method_2_code
def yX8_begin : MethodName := ⟨RX8, "begin", "(LStuckTowns$Road;)V"⟩
abbrev cX8_copyTo : ByteArray := prog_10_method_3_code
def yX8_copyTo : MethodName := ⟨RX8, "copyTo", "([II)V"⟩
abbrev cX8_copyFrom : ByteArray := prog_10_method_4_code
def yX8_copyFrom : MethodName := ⟨RX8, "copyFrom", "([II)V"⟩
abbrev cX8_hasTown : ByteArray := prog_10_method_5_code
def yX8_hasTown : MethodName := ⟨RX8, "hasTown", "(I)Z"⟩
abbrev cX8_isStuck : ByteArray := prog_10_method_6_code
def yX8_isStuck : MethodName := ⟨RX8, "isStuck", "(I)Z"⟩
abbrev cX8_folkAt : ByteArray := prog_10_method_7_code
def yX8_folkAt : MethodName := ⟨RX8, "folkAt", "(I)I"⟩
abbrev cX8_clearTown : ByteArray := prog_10_method_8_code
def yX8_clearTown : MethodName := ⟨RX8, "clearTown", "(I)V"⟩
def RX9 : String := "StuckTowns$Survey"
def TX9 : u_T := fun k => match k with
  | 0 => ("StuckTowns$Survey", "map", "LStuckTowns$Road;", true)
  | _ => ("StuckTowns$Survey", "now", "LStuckTowns$State;", true)
def tyX9 : Nat → FieldType := fun k => match k with
  | 0 => .object "StuckTowns$Road"
  | _ => .object "StuckTowns$State"
theorem nmX9 : ∀ a, a < 2 → ∀ b, b < 2 → a ≠ b → (TX9 a).2.1 ≠ (TX9 b).2.1 := by decide +kernel
theorem tyX9_ok : ∀ k, k < 2 → parseFieldDescriptor (TX9 k).2.2.1 = some (tyX9 k) := by decide +kernel
abbrev cX9_init : ByteArray := prog_11_method_1_code
def yX9_init : MethodName := ⟨RX9, "<init>", "(LStuckTowns$Road;LStuckTowns$State;)V"⟩
abbrev cX9_townSet : ByteArray := prog_11_method_2_code
def yX9_townSet : MethodName := ⟨RX9, "townSet", "()I"⟩
abbrev cX9_stuckSet : ByteArray := prog_11_method_3_code
def yX9_stuckSet : MethodName := ⟨RX9, "stuckSet", "()I"⟩
abbrev cX9_mayorOf : ByteArray := prog_11_method_4_code
def yX9_mayorOf : MethodName := ⟨RX9, "mayorOf", "(I)I"⟩
abbrev cX9_distanceWith : ByteArray := prog_11_method_5_code
def yX9_distanceWith : MethodName := ⟨RX9, "distanceWith", "(II)I"⟩
abbrev cX9_distancesWith : ByteArray := prog_11_method_6_code
def yX9_distancesWith : MethodName := ⟨RX9, "distancesWith", "(I)I"⟩
abbrev cX9_bestPlace : ByteArray := prog_11_method_7_code
def yX9_bestPlace : MethodName := ⟨RX9, "bestPlace", "()I"⟩
abbrev cX9_farthest : ByteArray := prog_11_method_8_code
def yX9_farthest : MethodName := ⟨RX9, "farthest", "()I"⟩
abbrev cX9_longestWay : ByteArray := prog_11_method_9_code
def yX9_longestWay : MethodName := ⟨RX9, "longestWay", "()I"⟩
abbrev cX9_biggest : ByteArray := prog_11_method_10_code
def yX9_biggest : MethodName := ⟨RX9, "biggest", "()I"⟩
abbrev cX9_folkOfAll : ByteArray := prog_11_method_11_code
def yX9_folkOfAll : MethodName := ⟨RX9, "folkOfAll", "()I"⟩
abbrev cX9_townsNamed : ByteArray := prog_11_method_12_code
def yX9_townsNamed : MethodName := ⟨RX9, "townsNamed", "(I)I"⟩
def RX10 : String := "StuckTowns$Trials"
def TX10 : u_T := fun k => match k with
  | 0 => ("StuckTowns$Trials", "map", "LStuckTowns$Road;", true)
  | 1 => ("StuckTowns$Trials", "now", "LStuckTowns$State;", true)
  | 2 => ("StuckTowns$Trials", "kingdom", "LStuckTowns$Kingdom;", true)
  | 3 => ("StuckTowns$Trials", "stopped", "[I", true)
  | _ => ("StuckTowns$Trials", "span", "LStuckTowns$Span;", true)
def tyX10 : Nat → FieldType := fun k => match k with
  | 0 => .object "StuckTowns$Road"
  | 1 => .object "StuckTowns$State"
  | 2 => .object "StuckTowns$Kingdom"
  | 3 => .array .int
  | _ => .object "StuckTowns$Span"
theorem nmX10 : ∀ a, a < 5 → ∀ b, b < 5 → a ≠ b → (TX10 a).2.1 ≠ (TX10 b).2.1 := by decide +kernel
theorem tyX10_ok : ∀ k, k < 5 → parseFieldDescriptor (TX10 k).2.2.1 = some (tyX10 k) := by decide +kernel
abbrev cX10_init : ByteArray := prog_12_method_1_code
def yX10_init : MethodName := ⟨RX10, "<init>", "(LStuckTowns$Road;LStuckTowns$State;LStuckTowns$Kingdom;)V"⟩
abbrev cX10_stopper : ByteArray := prog_12_method_2_code
def yX10_stopper : MethodName := ⟨RX10, "stopper", "()I"⟩
abbrev cX10_soonestAt : ByteArray := prog_12_method_3_code
def yX10_soonestAt : MethodName := ⟨RX10, "soonestAt", "(II)I"⟩
abbrev cX10_loadsFor : ByteArray := prog_12_method_4_code
def yX10_loadsFor : MethodName := ⟨RX10, "loadsFor", "(II)LStuckTowns$Span;"⟩
abbrev cX10_needAt : ByteArray := prog_12_method_5_code
def yX10_needAt : MethodName := ⟨RX10, "needAt", "(II)I"⟩
abbrev cX10_greatestNeedAt : ByteArray := prog_12_method_6_code
def yX10_greatestNeedAt : MethodName := ⟨RX10, "greatestNeedAt", "(II)I"⟩
abbrev cX10_gravelAhead : ByteArray := prog_12_method_7_code
def yX10_gravelAhead : MethodName := ⟨RX10, "gravelAhead", "(II)I"⟩
def RX11 : String := "StuckTowns"
def TX11 : u_T := fun k => match k with
  | 0 => ("StuckTowns", "reader", "LStuckTowns$Reader;", true)
  | 1 => ("StuckTowns", "map", "LStuckTowns$Road;", true)
  | 2 => ("StuckTowns", "now", "LStuckTowns$State;", true)
  | 3 => ("StuckTowns", "kingdom", "LStuckTowns$Kingdom;", true)
  | 4 => ("StuckTowns", "survey", "LStuckTowns$Survey;", true)
  | 5 => ("StuckTowns", "trials", "LStuckTowns$Trials;", true)
  | 6 => ("StuckTowns", "orders", "LStuckTowns$Orders;", true)
  | 7 => ("StuckTowns", "heard", "LStuckTowns$Entries;", true)
  | 8 => ("StuckTowns", "book", "LStuckTowns$Entries;", true)
  | 9 => ("StuckTowns", "guesses", "LStuckTowns$Guesses;", true)
  | 10 => ("StuckTowns", "memory", "LStuckTowns$Memory;", true)
  | _ => ("StuckTowns", "theSeed", "I", false)
def tyX11 : Nat → FieldType := fun k => match k with
  | 0 => .object "StuckTowns$Reader"
  | 1 => .object "StuckTowns$Road"
  | 2 => .object "StuckTowns$State"
  | 3 => .object "StuckTowns$Kingdom"
  | 4 => .object "StuckTowns$Survey"
  | 5 => .object "StuckTowns$Trials"
  | 6 => .object "StuckTowns$Orders"
  | 7 => .object "StuckTowns$Entries"
  | 8 => .object "StuckTowns$Entries"
  | 9 => .object "StuckTowns$Guesses"
  | 10 => .object "StuckTowns$Memory"
  | _ => .int
theorem nmX11 : ∀ a, a < 12 → ∀ b, b < 12 → a ≠ b → (TX11 a).2.1 ≠ (TX11 b).2.1 := by decide +kernel
theorem tyX11_ok : ∀ k, k < 12 → parseFieldDescriptor (TX11 k).2.2.1 = some (tyX11 k) := by decide +kernel
abbrev cX11_init : ByteArray := prog_1_method_1_code
def yX11_init : MethodName := ⟨RX11, "<init>", "()V"⟩
abbrev cX11_feed : ByteArray := prog_1_method_2_code
def yX11_feed : MethodName := ⟨RX11, "feed", "(I)I"⟩
abbrev cX11_road : ByteArray := prog_1_method_3_code
def yX11_road : MethodName := ⟨RX11, "road", "()I"⟩
abbrev cX11_fault : ByteArray := prog_1_method_4_code
def yX11_fault : MethodName := ⟨RX11, "fault", "()I"⟩
abbrev cX11_told : ByteArray := prog_1_method_5_code
def yX11_told : MethodName := ⟨RX11, "told", "(I)I"⟩
abbrev cX11_cell : ByteArray := prog_1_method_6_code
def yX11_cell : MethodName := ⟨RX11, "cell", "(II)I"⟩
abbrev cX11_cart : ByteArray := prog_1_method_7_code
def yX11_cart : MethodName := ⟨RX11, "cart", "(II)I"⟩
abbrev cX11_sink : ByteArray := prog_1_method_8_code
def yX11_sink : MethodName := ⟨RX11, "sink", "(II)I"⟩
abbrev cX11_drive : ByteArray := prog_1_method_9_code
def yX11_drive : MethodName := ⟨RX11, "drive", "(I)I"⟩
abbrev cX11_pull : ByteArray := prog_1_method_10_code
def yX11_pull : MethodName := ⟨RX11, "pull", "(I)I"⟩
abbrev cX11_day : ByteArray := prog_1_method_11_code
def yX11_day : MethodName := ⟨RX11, "day", "(I)I"⟩
abbrev cX11_lay : ByteArray := prog_1_method_12_code
def yX11_lay : MethodName := ⟨RX11, "lay", "(II)I"⟩
abbrev cX11_load : ByteArray := prog_1_method_13_code
def yX11_load : MethodName := ⟨RX11, "load", "(II)I"⟩
abbrev cX11_storm : ByteArray := prog_1_method_14_code
def yX11_storm : MethodName := ⟨RX11, "storm", "(I)I"⟩
abbrev cX11_raze : ByteArray := prog_1_method_15_code
def yX11_raze : MethodName := ⟨RX11, "raze", "(I)I"⟩
abbrev cX11_drift : ByteArray := prog_1_method_16_code
def yX11_drift : MethodName := ⟨RX11, "drift", "(I)I"⟩
abbrev cX11_undo : ByteArray := prog_1_method_17_code
def yX11_undo : MethodName := ⟨RX11, "undo", "()I"⟩
abbrev cX11_stops : ByteArray := prog_1_method_18_code
def yX11_stops : MethodName := ⟨RX11, "stops", "(II)I"⟩
abbrev cX11_soonest : ByteArray := prog_1_method_19_code
def yX11_soonest : MethodName := ⟨RX11, "soonest", "(II)I"⟩
abbrev cX11_loads : ByteArray := prog_1_method_20_code
def yX11_loads : MethodName := ⟨RX11, "loads", "(III)I"⟩
abbrev cX11_gravelTo : ByteArray := prog_1_method_21_code
def yX11_gravelTo : MethodName := ⟨RX11, "gravelTo", "(II)I"⟩
abbrev cX11_gravelForAll : ByteArray := prog_1_method_22_code
def yX11_gravelForAll : MethodName := ⟨RX11, "gravelForAll", "(I)I"⟩
abbrev cX11_order : ByteArray := prog_1_method_23_code
def yX11_order : MethodName := ⟨RX11, "order", "(II)I"⟩
abbrev cX11_place : ByteArray := prog_1_method_24_code
def yX11_place : MethodName := ⟨RX11, "place", "(I)I"⟩
abbrev cX11_said : ByteArray := prog_1_method_25_code
def yX11_said : MethodName := ⟨RX11, "said", "(I)I"⟩
abbrev cX11_dry : ByteArray := prog_1_method_26_code
def yX11_dry : MethodName := ⟨RX11, "dry", "(II)I"⟩
abbrev cX11_hear : ByteArray := prog_1_method_27_code
def yX11_hear : MethodName := ⟨RX11, "hear", "(II)I"⟩
abbrev cX11_rains : ByteArray := prog_1_method_28_code
def yX11_rains : MethodName := ⟨RX11, "rains", "(I)I"⟩
abbrev cX11_send : ByteArray := prog_1_method_29_code
def yX11_send : MethodName := ⟨RX11, "send", "()I"⟩
abbrev cX11_write : ByteArray := prog_1_method_30_code
def yX11_write : MethodName := ⟨RX11, "write", "(II)I"⟩
abbrev cX11_tear : ByteArray := prog_1_method_31_code
def yX11_tear : MethodName := ⟨RX11, "tear", "()I"⟩
abbrev cX11_judge : ByteArray := prog_1_method_32_code
def yX11_judge : MethodName := ⟨RX11, "judge", "()I"⟩
abbrev cX11_seed : ByteArray := prog_1_method_33_code
def yX11_seed : MethodName := ⟨RX11, "seed", "(I)I"⟩
abbrev cX11_keep : ByteArray := prog_1_method_34_code
def yX11_keep : MethodName := ⟨RX11, "keep", "(I)I"⟩
abbrev cX11_goBack : ByteArray := prog_1_method_35_code
def yX11_goBack : MethodName := ⟨RX11, "goBack", "(I)I"⟩
abbrev cX11_refusalOfDays : ByteArray := prog_1_method_36_code
def yX11_refusalOfDays : MethodName := ⟨RX11, "refusalOfDays", "(I)I"⟩
abbrev cX11_doByDraw : ByteArray := prog_1_method_37_code
def yX11_doByDraw : MethodName := ⟨RX11, "doByDraw", "()V"⟩
abbrev cX11_drawOf : ByteArray := prog_1_method_38_code
def yX11_drawOf : MethodName := ⟨RX11, "drawOf", "(I)I"⟩
def RX12 : String := "StuckTownsModel"
def TX12 : u_T := fun k => match k with
  | 0 => ("StuckTownsModel", "cells", "I", false)
  | 1 => ("StuckTownsModel", "soft", "[I", true)
  | 2 => ("StuckTownsModel", "weathers", "I", false)
  | 3 => ("StuckTownsModel", "weather", "[I", true)
  | 4 => ("StuckTownsModel", "carts", "I", false)
  | 5 => ("StuckTownsModel", "wheels", "[I", true)
  | 6 => ("StuckTownsModel", "loadTold", "[I", true)
  | 7 => ("StuckTownsModel", "says", "[I", true)
  | 8 => ("StuckTownsModel", "now", "[I", true)
  | 9 => ("StuckTownsModel", "seed", "I", false)
  | 10 => ("StuckTownsModel", "text", "[I", true)
  | 11 => ("StuckTownsModel", "texted", "I", false)
  | 12 => ("StuckTownsModel", "faultPlace", "I", false)
  | 13 => ("StuckTownsModel", "at0", "I", false)
  | 14 => ("StuckTownsModel", "number", "I", false)
  | 15 => ("StuckTownsModel", "numberAt", "I", false)
  | 16 => ("StuckTownsModel", "readCells", "I", false)
  | 17 => ("StuckTownsModel", "readSoft", "[I", true)
  | 18 => ("StuckTownsModel", "readWeathers", "I", false)
  | 19 => ("StuckTownsModel", "readWeather", "[I", true)
  | 20 => ("StuckTownsModel", "readCarts", "I", false)
  | 21 => ("StuckTownsModel", "readWheels", "[I", true)
  | 22 => ("StuckTownsModel", "readLoad", "[I", true)
  | 23 => ("StuckTownsModel", "readSays", "[I", true)
  | 24 => ("StuckTownsModel", "undos", "I", false)
  | 25 => ("StuckTownsModel", "past", "[I", true)
  | 26 => ("StuckTownsModel", "stopOn", "[I", true)
  | 27 => ("StuckTownsModel", "heard", "I", false)
  | 28 => ("StuckTownsModel", "heardOf", "[I", true)
  | 29 => ("StuckTownsModel", "heardAt", "[I", true)
  | 30 => ("StuckTownsModel", "counts", "[I", true)
  | 31 => ("StuckTownsModel", "booked", "I", false)
  | 32 => ("StuckTownsModel", "bookOf", "[I", true)
  | 33 => ("StuckTownsModel", "bookIs", "[I", true)
  | 34 => ("StuckTownsModel", "images", "[I", true)
  | _ => ("StuckTownsModel", "isKept", "[Z", true)
def tyX12 : Nat → FieldType := fun k => match k with
  | 0 => .int
  | 1 => .array .int
  | 2 => .int
  | 3 => .array .int
  | 4 => .int
  | 5 => .array .int
  | 6 => .array .int
  | 7 => .array .int
  | 8 => .array .int
  | 9 => .int
  | 10 => .array .int
  | 11 => .int
  | 12 => .int
  | 13 => .int
  | 14 => .int
  | 15 => .int
  | 16 => .int
  | 17 => .array .int
  | 18 => .int
  | 19 => .array .int
  | 20 => .int
  | 21 => .array .int
  | 22 => .array .int
  | 23 => .array .int
  | 24 => .int
  | 25 => .array .int
  | 26 => .array .int
  | 27 => .int
  | 28 => .array .int
  | 29 => .array .int
  | 30 => .array .int
  | 31 => .int
  | 32 => .array .int
  | 33 => .array .int
  | 34 => .array .int
  | _ => .array .boolean
theorem nmX12 : ∀ a, a < 36 → ∀ b, b < 36 → a ≠ b → (TX12 a).2.1 ≠ (TX12 b).2.1 := by decide +kernel
theorem tyX12_ok : ∀ k, k < 36 → parseFieldDescriptor (TX12 k).2.2.1 = some (tyX12 k) := by decide +kernel
abbrev cX12_init : ByteArray := prog_14_method_1_code
def yX12_init : MethodName := ⟨RX12, "<init>", "()V"⟩
abbrev cX12_in : ByteArray := prog_14_method_3_code
def yX12_in : MethodName := ⟨RX12, "in", "(JJJ)Z"⟩
abbrev cX12_has : ByteArray := prog_14_method_4_code
def yX12_has : MethodName := ⟨RX12, "has", "(II)Z"⟩
abbrev cX12_bits : ByteArray := prog_14_method_5_code
def yX12_bits : MethodName := ⟨RX12, "bits", "(I)I"⟩
abbrev cX12_isCell : ByteArray := prog_14_method_6_code
def yX12_isCell : MethodName := ⟨RX12, "isCell", "(I)Z"⟩
abbrev cX12_isCart : ByteArray := prog_14_method_7_code
def yX12_isCart : MethodName := ⟨RX12, "isCart", "(I)Z"⟩
abbrev cX12_feed : ByteArray := prog_14_method_8_code
def yX12_feed : MethodName := ⟨RX12, "feed", "(I)I"⟩
abbrev cX12_here : ByteArray := prog_14_method_9_code
def yX12_here : MethodName := ⟨RX12, "here", "()I"⟩
abbrev cX12_fails : ByteArray := prog_14_method_10_code
def yX12_fails : MethodName := ⟨RX12, "fails", "(II)I"⟩
abbrev cX12_takeNumber : ByteArray := prog_14_method_11_code
def yX12_takeNumber : MethodName := ⟨RX12, "takeNumber", "(II)I"⟩
abbrev cX12_into : ByteArray := prog_14_method_12_code
def yX12_into : MethodName := ⟨RX12, "into", "([IIII)I"⟩
abbrev cX12_takeRoad : ByteArray := prog_14_method_13_code
def yX12_takeRoad : MethodName := ⟨RX12, "takeRoad", "()I"⟩
abbrev cX12_takeWeather : ByteArray := prog_14_method_14_code
def yX12_takeWeather : MethodName := ⟨RX12, "takeWeather", "()I"⟩
abbrev cX12_takeCart : ByteArray := prog_14_method_15_code
def yX12_takeCart : MethodName := ⟨RX12, "takeCart", "()I"⟩
abbrev cX12_takeClause : ByteArray := prog_14_method_16_code
def yX12_takeClause : MethodName := ⟨RX12, "takeClause", "()I"⟩
abbrev cX12_copyRow : ByteArray := prog_14_method_17_code
def yX12_copyRow : MethodName := ⟨RX12, "copyRow", "([I[II)V"⟩
abbrev cX12_takeRead : ByteArray := prog_14_method_18_code
def yX12_takeRead : MethodName := ⟨RX12, "takeRead", "()V"⟩
abbrev cX12_road : ByteArray := prog_14_method_19_code
def yX12_road : MethodName := ⟨RX12, "road", "()I"⟩
abbrev cX12_fault : ByteArray := prog_14_method_20_code
def yX12_fault : MethodName := ⟨RX12, "fault", "()I"⟩
abbrev cX12_weatherOf : ByteArray := prog_14_method_21_code
def yX12_weatherOf : MethodName := ⟨RX12, "weatherOf", "(I)I"⟩
abbrev cX12_wetBehind : ByteArray := prog_14_method_22_code
def yX12_wetBehind : MethodName := ⟨RX12, "wetBehind", "(I)I"⟩
abbrev cX12_wet : ByteArray := prog_14_method_23_code
def yX12_wet : MethodName := ⟨RX12, "wet", "()I"⟩
abbrev cX12_notBelow : ByteArray := prog_14_method_24_code
def yX12_notBelow : MethodName := ⟨RX12, "notBelow", "(I)I"⟩
abbrev cX12_groundOf : ByteArray := prog_14_method_25_code
def yX12_groundOf : MethodName := ⟨RX12, "groundOf", "(III)I"⟩
abbrev cX12_weighs : ByteArray := prog_14_method_26_code
def yX12_weighs : MethodName := ⟨RX12, "weighs", "(II)I"⟩
abbrev cX12_stopBy : ByteArray := prog_14_method_27_code
def yX12_stopBy : MethodName := ⟨RX12, "stopBy", "(III)I"⟩
abbrev cX12_stopOf : ByteArray := prog_14_method_28_code
def yX12_stopOf : MethodName := ⟨RX12, "stopOf", "(II)I"⟩
abbrev cX12_isTown : ByteArray := prog_14_method_29_code
def yX12_isTown : MethodName := ⟨RX12, "isTown", "(I)Z"⟩
abbrev cX12_towns : ByteArray := prog_14_method_30_code
def yX12_towns : MethodName := ⟨RX12, "towns", "()I"⟩
abbrev cX12_stuckOnes : ByteArray := prog_14_method_31_code
def yX12_stuckOnes : MethodName := ⟨RX12, "stuckOnes", "()I"⟩
abbrev cX12_stopper : ByteArray := prog_14_method_32_code
def yX12_stopper : MethodName := ⟨RX12, "stopper", "()I"⟩
abbrev cX12_distanceTo : ByteArray := prog_14_method_33_code
def yX12_distanceTo : MethodName := ⟨RX12, "distanceTo", "(II)I"⟩
abbrev cX12_farOf : ByteArray := prog_14_method_34_code
def yX12_farOf : MethodName := ⟨RX12, "farOf", "()I"⟩
abbrev cX12_longest : ByteArray := prog_14_method_35_code
def yX12_longest : MethodName := ⟨RX12, "longest", "()I"⟩
abbrev cX12_biggest : ByteArray := prog_14_method_36_code
def yX12_biggest : MethodName := ⟨RX12, "biggest", "()I"⟩
abbrev cX12_allFolk : ByteArray := prog_14_method_37_code
def yX12_allFolk : MethodName := ⟨RX12, "allFolk", "()I"⟩
abbrev cX12_told : ByteArray := prog_14_method_38_code
def yX12_told : MethodName := ⟨RX12, "told", "(I)I"⟩
abbrev cX12_cell : ByteArray := prog_14_method_39_code
def yX12_cell : MethodName := ⟨RX12, "cell", "(II)I"⟩
abbrev cX12_mayorOf : ByteArray := prog_14_method_40_code
def yX12_mayorOf : MethodName := ⟨RX12, "mayorOf", "(I)I"⟩
abbrev cX12_cart : ByteArray := prog_14_method_41_code
def yX12_cart : MethodName := ⟨RX12, "cart", "(II)I"⟩
abbrev cX12_sink : ByteArray := prog_14_method_42_code
def yX12_sink : MethodName := ⟨RX12, "sink", "(II)I"⟩
abbrev cX12_remember : ByteArray := prog_14_method_43_code
def yX12_remember : MethodName := ⟨RX12, "remember", "()V"⟩
abbrev cX12_driveNow : ByteArray := prog_14_method_44_code
def yX12_driveNow : MethodName := ⟨RX12, "driveNow", "(I)I"⟩
abbrev cX12_drive : ByteArray := prog_14_method_45_code
def yX12_drive : MethodName := ⟨RX12, "drive", "(I)I"⟩
abbrev cX12_pullNow : ByteArray := prog_14_method_46_code
def yX12_pullNow : MethodName := ⟨RX12, "pullNow", "(I)I"⟩
abbrev cX12_pull : ByteArray := prog_14_method_47_code
def yX12_pull : MethodName := ⟨RX12, "pull", "(I)I"⟩
abbrev cX12_pass : ByteArray := prog_14_method_48_code
def yX12_pass : MethodName := ⟨RX12, "pass", "()V"⟩
abbrev cX12_daysRefused : ByteArray := prog_14_method_49_code
def yX12_daysRefused : MethodName := ⟨RX12, "daysRefused", "(I)I"⟩
abbrev cX12_day : ByteArray := prog_14_method_50_code
def yX12_day : MethodName := ⟨RX12, "day", "(I)I"⟩
abbrev cX12_layNow : ByteArray := prog_14_method_51_code
def yX12_layNow : MethodName := ⟨RX12, "layNow", "(II)V"⟩
abbrev cX12_lay : ByteArray := prog_14_method_52_code
def yX12_lay : MethodName := ⟨RX12, "lay", "(II)I"⟩
abbrev cX12_load : ByteArray := prog_14_method_53_code
def yX12_load : MethodName := ⟨RX12, "load", "(II)I"⟩
abbrev cX12_storm : ByteArray := prog_14_method_54_code
def yX12_storm : MethodName := ⟨RX12, "storm", "(I)I"⟩
abbrev cX12_raze : ByteArray := prog_14_method_55_code
def yX12_raze : MethodName := ⟨RX12, "raze", "(I)I"⟩
abbrev cX12_draw : ByteArray := prog_14_method_56_code
def yX12_draw : MethodName := ⟨RX12, "draw", "(I)I"⟩
abbrev cX12_chance : ByteArray := prog_14_method_57_code
def yX12_chance : MethodName := ⟨RX12, "chance", "()V"⟩
abbrev cX12_drift : ByteArray := prog_14_method_58_code
def yX12_drift : MethodName := ⟨RX12, "drift", "(I)I"⟩
abbrev cX12_undo : ByteArray := prog_14_method_59_code
def yX12_undo : MethodName := ⟨RX12, "undo", "()I"⟩
abbrev cX12_stops : ByteArray := prog_14_method_60_code
def yX12_stops : MethodName := ⟨RX12, "stops", "(II)I"⟩
abbrev cX12_soonest : ByteArray := prog_14_method_61_code
def yX12_soonest : MethodName := ⟨RX12, "soonest", "(II)I"⟩
abbrev cX12_loads : ByteArray := prog_14_method_62_code
def yX12_loads : MethodName := ⟨RX12, "loads", "(III)I"⟩
abbrev cX12_needOf : ByteArray := prog_14_method_63_code
def yX12_needOf : MethodName := ⟨RX12, "needOf", "(II)I"⟩
abbrev cX12_gravelTo : ByteArray := prog_14_method_64_code
def yX12_gravelTo : MethodName := ⟨RX12, "gravelTo", "(II)I"⟩
abbrev cX12_isSet : ByteArray := prog_14_method_65_code
def yX12_isSet : MethodName := ⟨RX12, "isSet", "(I)Z"⟩
abbrev cX12_gravelForAll : ByteArray := prog_14_method_66_code
def yX12_gravelForAll : MethodName := ⟨RX12, "gravelForAll", "(I)I"⟩
abbrev cX12_foundedBy : ByteArray := prog_14_method_67_code
def yX12_foundedBy : MethodName := ⟨RX12, "foundedBy", "(III)I"⟩
abbrev cX12_order : ByteArray := prog_14_method_68_code
def yX12_order : MethodName := ⟨RX12, "order", "(II)I"⟩
abbrev cX12_place : ByteArray := prog_14_method_69_code
def yX12_place : MethodName := ⟨RX12, "place", "(I)I"⟩
abbrev cX12_said : ByteArray := prog_14_method_70_code
def yX12_said : MethodName := ⟨RX12, "said", "(I)I"⟩
abbrev cX12_dry : ByteArray := prog_14_method_71_code
def yX12_dry : MethodName := ⟨RX12, "dry", "(II)I"⟩
abbrev cX12_hear : ByteArray := prog_14_method_72_code
def yX12_hear : MethodName := ⟨RX12, "hear", "(II)I"⟩
abbrev cX12_couldBe : ByteArray := prog_14_method_73_code
def yX12_couldBe : MethodName := ⟨RX12, "couldBe", "(I)Z"⟩
abbrev cX12_rains : ByteArray := prog_14_method_74_code
def yX12_rains : MethodName := ⟨RX12, "rains", "(I)I"⟩
abbrev cX12_greatestPart : ByteArray := prog_14_method_75_code
def yX12_greatestPart : MethodName := ⟨RX12, "greatestPart", "(I)I"⟩
abbrev cX12_send : ByteArray := prog_14_method_76_code
def yX12_send : MethodName := ⟨RX12, "send", "()I"⟩
abbrev cX12_write : ByteArray := prog_14_method_77_code
def yX12_write : MethodName := ⟨RX12, "write", "(II)I"⟩
abbrev cX12_tear : ByteArray := prog_14_method_78_code
def yX12_tear : MethodName := ⟨RX12, "tear", "()I"⟩
abbrev cX12_judge : ByteArray := prog_14_method_79_code
def yX12_judge : MethodName := ⟨RX12, "judge", "()I"⟩
abbrev cX12_seed : ByteArray := prog_14_method_80_code
def yX12_seed : MethodName := ⟨RX12, "seed", "(I)I"⟩
abbrev cX12_keep : ByteArray := prog_14_method_81_code
def yX12_keep : MethodName := ⟨RX12, "keep", "(I)I"⟩
abbrev cX12_goBack : ByteArray := prog_14_method_82_code
def yX12_goBack : MethodName := ⟨RX12, "goBack", "(I)I"⟩
def RJ6 : String := "java/lang/Integer"
abbrev cJ6_bitCount_0f7a4 : ByteArray := prog_15_method_49_code
def yJ6_bitCount_0f7a4 : MethodName := ⟨RJ6, "bitCount", "(I)I"⟩
def RJ9 : String := "java/lang/Math"
abbrev cJ9_abs_0f7a4 : ByteArray := prog_16_method_59_code
def yJ9_abs_0f7a4 : MethodName := ⟨RJ9, "abs", "(I)I"⟩
abbrev cJ9_max_7cf53 : ByteArray := prog_16_method_65_code
def yJ9_max_7cf53 : MethodName := ⟨RJ9, "max", "(II)I"⟩
abbrev cJ9_min_7cf53 : ByteArray := prog_16_method_69_code
def yJ9_min_7cf53 : MethodName := ⟨RJ9, "min", "(II)I"⟩
def RJ10 : String := "java/lang/System"
def RJ7 : String := "java/util/Arrays"
abbrev cJ7_fill_53178 : ByteArray := prog_18_method_103_code
def yJ7_fill_53178 : MethodName := ⟨RJ7, "fill", "([II)V"⟩
def RL : String := "StuckTownsLaw"
abbrev cL_law : ByteArray := code
def yL_law : MethodName := ⟨RL, "law", "([I)Z"⟩
abbrev vwCl : List vw_C := [(RX0, TX0, 3), (RX1, TX1, 7), (RX2, TX2, 2), (RX3, TX3, 5), (RX4, TX4, 5), (RX5, TX5, 7), (RX6, TX6, 8), (RX7, TX7, 3), (RX8, TX8, 9), (RX9, TX9, 2), (RX10, TX10, 5), (RX11, TX11, 12), (RX12, TX12, 36)]
end
section
/-! a small logic over the kit's rows. Memory: sg_M, numbers of all int fields and all int (boolean) arrays. A world: E = (launch, tables, array classes, picture of a memory). -/
abbrev sg_M : Type := (Nat → Int32) × (Nat → Nat → Int32)
abbrev sg_E : Type := Launch × va_G × List (ClassId × FieldType) × (sg_M → va_W)
def sg_tbl : List Cond := lw_tbl.filter goodWord
theorem sg_mem {w : Cond} {i : Nat} (h : lw_tbl[i]? = some w) (g : goodWord w = true) : w ∈ sg_tbl := List.mem_filter.mpr ⟨List.mem_of_getElem? h, g⟩
def sg_ws (y : MethodName) (cc : ByteArray) (nL : Nat) (ret : Option FieldType) : List Cond := Cond.code y cc nL ret :: sg_tbl
def sg_rm (d : Nat) : Room := { frames := d, cells := 0, slots := 0, locals := 64 * d }
def sg_B (E : sg_E) (A : Nat → Prop) (z : sg_M) (t : State) : Prop := va_P E.2.1 vwCl (E.2.2.2 z) t.heap ∧ va_K E.2.1 vwCl E.2.2.1 t ∧ va_D A (E.2.2.2 z)
def sg_Q (Q : Option Value → sg_M → Prop) (B : sg_M → State → Prop) (A : Nat → Prop) : Array Value → State → Outcome → State → Prop := fun _ st oc t => (∃ (v : Option Value) (z : sg_M), oc = .returned v ∧ Q v z ∧ B z t) ∧ va_F A st t
def sg_is (v0 : Option Value) (z0 : sg_M) : Option Value → sg_M → Prop := fun v z => v = v0 ∧ z = z0
/-- a method's contract: from any state that holds the picture of z it returns, with Q -/
def sg_Met (E : sg_E) (y : MethodName) (cc : ByteArray) (nL : Nat) (ret : Option FieldType) (d : Nat) (av : List Value) (z : sg_M) (Q : Option Value → sg_M → Prop) : Prop :=
  ∀ sz : Nat, Met E.1 y (sg_ws y cc nL ret) (sg_rm d) (va_Pc av (fun U => U.heap.size = sz ∧ va_P E.2.1 vwCl (E.2.2.2 z) U.heap ∧ va_K E.2.1 vwCl E.2.2.1 U ∧ va_D (fun _ => True) (E.2.2.2 z))) (sg_Q Q (sg_B E (va_A (E.2.2.2 z) sz)) (va_A (E.2.2.2 z) sz)) 0 0 (va_A (E.2.2.2 z) sz)
def sg_C (E : sg_E) (y : MethodName) (cc : ByteArray) (nL : Nat) (ret : Option FieldType) (p : Program) (s : State) (m : MethodId) (args : Array Value) (meth : Method) (c : Code) (A : Nat → Prop) : Prop :=
  p.tables.exec = Jvm.exec ∧ c.code = cc ∧ s.vm.findClass y.cls = some m.cls ∧ (∀ w ∈ sg_tbl, w.before args s = true) ∧ va_K E.2.1 vwCl E.2.2.1 s ∧ c.maxLocals = nL ∧ meth.sig.returnType = ret ∧ meth.locks = false ∧ ∀ q : Nat, s.heap.size ≤ q → A q
/-- at pc, with these locals, this stack, the picture of z: the method goes on and returns, with Q -/
def sg_G (E : sg_E) (y : MethodName) (cc : ByteArray) (nL : Nat) (ret : Option FieldType) (d : Nat) (pc : Nat) (lv : List (Nat × Value)) (st : List Value) (z : sg_M) (Q : Option Value → sg_M → Prop) : Prop :=
  ∀ (p : Program) (e : Env) (s : State) (m : MethodId) (args : Array Value) (below : List Frame) (meth : Method) (c : Code) (A : Nat → Prop) (H : Heap) (locs : List Loc) (ls : Array Slot), sg_C E y cc nL ret p s m args meth c A → lv_has ls nL lv → va_P E.2.1 vwCl (E.2.2.2 z) H → va_D A (E.2.2.2 z) → va_S A s.heap H locs → W p E.1 e (sg_rm d) s m args below meth c H locs 0 0 (MQ below (sg_Q Q (sg_B E A) A) args s 0 0 A) (F0 m pc ls st)
theorem sg_good : sg_tbl.all goodWord = true := List.all_eq_true.mpr (fun _ h => (List.mem_filter.mp h).2)
theorem sg_goodIn {y y' : MethodName} {cc cc' : ByteArray} {nL nL' : Nat} {ret ret' : Option FieldType} (h : Cond.code y' cc' nL' ret' ∈ sg_tbl) : GoodIn (sg_ws y cc nL ret) (sg_ws y' cc' nL' ret') := by
  intro w hw
  rcases List.mem_cons.mp hw with rfl | hw
  · exact ⟨List.mem_cons_of_mem _ h, good_of_word (List.all_eq_true.mp sg_good _ h)⟩
  · exact ⟨List.mem_cons_of_mem _ hw, good_of_word (List.all_eq_true.mp sg_good _ hw)⟩
def sg_shl (x y : Int32) : Int32 := x <<< (y &&& 31)
def sg_shr (x y : Int32) : Int32 := x >>> (y &&& 31)
def sg_ushr (x y : Int32) : Int32 := (x.toUInt32 >>> (y.toUInt32 &&& Int32.toUInt32 31)).toInt32
def sg_rem (x y : Int32) : Int32 := x - x / y * y
def sg_lrm (x y : Int64) : Int64 := x - x / y * y
section SG
variable {E : sg_E} {y : MethodName} {cc : ByteArray} {nL : Nat} {ret : Option FieldType} {d pc pn : Nat} {lv : List (Nat × Value)} {st : List Value} {z : sg_M} {Q : Option Value → sg_M → Prop}
theorem sg_enter {av : List Value} {lv0 : List (Nat × Value)} (hy : plainName y.cls = true) (hlen : (lg_sl av).length ≤ nL) (hlv : lv_args 0 av = lv0) (k : sg_G E y cc nL ret d 0 lv0 [] z Q) : sg_Met E y cc nL ret d av z Q := by
  subst hlv
  intro sz
  refine Met.ofW (cc := cc) (maxL := nL) (ret := ret) hy rfl ?_
  intro p e s m args below meth c s₁ B hml hv
  obtain ⟨rfl, hsz, hP, hK, hD0⟩ := hv
  have hts := atoms_spec (ws := sg_ws y cc nL ret) B.pre
  subst hsz
  rw [lg_entry_eq]
  exact k p e s m _ below meth c (va_A (E.2.2.2 z) s.heap.size) s.heap [] _ ⟨B.exec, B.bytes, findClass_of_methodNamed B.named, fun w hw => hts w (List.mem_cons_of_mem _ hw), hK, hml, B.returns, B.notSynchronized, fun q h => Or.inr h⟩ (lv_entry av hlen) hP hD0.self va_S.rf
theorem sg_mono {av : List Value} {Q2 : Option Value → sg_M → Prop} (h : sg_G E y cc nL ret d pc lv st z Q) (hq : ∀ v z, Q v z → Q2 v z) : sg_G E y cc nL ret d pc lv st z Q2 := by
  intro p e s m args below meth c A H locs ls hC hl hP hD hS T hT X
  obtain ⟨t, h1, o, h2, h3, ⟨⟨v, z2, h4, h5, h6⟩, h7⟩, h8⟩ := h p e s m args below meth c A H locs ls hC hl hP hD hS T hT X
  exact ⟨t, h1, o, h2, h3, ⟨⟨v, z2, h4, hq _ _ h5, h6⟩, h7⟩, h8⟩
theorem sg_sub (ks : List Nat) {lv' : List (Nat × Value)} (hl : lv_pick lv ks = lv') (k : sg_G E y cc nL ret d pc lv' st z Q) : sg_G E y cc nL ret d pc lv st z Q :=
  fun p e s m args below meth c A H locs ls hC hl0 hP hD hS => k p e s m args below meth c A H locs ls hC (lv_sub hl0 ks hl) hP hD hS
theorem sg_eqp {pc2 : Nat} (h : pc2 = pc) (k : sg_G E y cc nL ret d pc2 lv st z Q) : sg_G E y cc nL ret d pc lv st z Q := h ▸ k
theorem sg_iadd {x0 y0 : Int32} (hdg : decode cc pc = .ok (.iadd, 1)) (hn : pc + 1 = pn) (k : sg_G E y cc nL ret d pn lv (.int (x0 + y0) :: st) z Q) : sg_G E y cc nL ret d pc lv (.int y0 :: .int x0 :: st) z Q := by
  subst hn
  exact fun p e s m args below meth c A H locs ls hC hl hP hD hS => lv_iadd hC.1 hC.2.1 hdg (k p e s m args below meth c A H locs ls hC hl hP hD hS)
theorem sg_isub {x0 y0 : Int32} (hdg : decode cc pc = .ok (.isub, 1)) (hn : pc + 1 = pn) (k : sg_G E y cc nL ret d pn lv (.int (x0 - y0) :: st) z Q) : sg_G E y cc nL ret d pc lv (.int y0 :: .int x0 :: st) z Q := by
  subst hn
  exact fun p e s m args below meth c A H locs ls hC hl hP hD hS => lv_isub hC.1 hC.2.1 hdg (k p e s m args below meth c A H locs ls hC hl hP hD hS)
theorem sg_imul {x0 y0 : Int32} (hdg : decode cc pc = .ok (.imul, 1)) (hn : pc + 1 = pn) (k : sg_G E y cc nL ret d pn lv (.int (x0 * y0) :: st) z Q) : sg_G E y cc nL ret d pc lv (.int y0 :: .int x0 :: st) z Q := by
  subst hn
  exact fun p e s m args below meth c A H locs ls hC hl hP hD hS => lv_imul hC.1 hC.2.1 hdg (k p e s m args below meth c A H locs ls hC hl hP hD hS)
theorem sg_iand {x0 y0 : Int32} (hdg : decode cc pc = .ok (.iand, 1)) (hn : pc + 1 = pn) (k : sg_G E y cc nL ret d pn lv (.int (x0 &&& y0) :: st) z Q) : sg_G E y cc nL ret d pc lv (.int y0 :: .int x0 :: st) z Q := by
  subst hn
  exact fun p e s m args below meth c A H locs ls hC hl hP hD hS => lv_iand hC.1 hC.2.1 hdg (k p e s m args below meth c A H locs ls hC hl hP hD hS)
theorem sg_ior {x0 y0 : Int32} (hdg : decode cc pc = .ok (.ior, 1)) (hn : pc + 1 = pn) (k : sg_G E y cc nL ret d pn lv (.int (x0 ||| y0) :: st) z Q) : sg_G E y cc nL ret d pc lv (.int y0 :: .int x0 :: st) z Q := by
  subst hn
  exact fun p e s m args below meth c A H locs ls hC hl hP hD hS => lv_ior hC.1 hC.2.1 hdg (k p e s m args below meth c A H locs ls hC hl hP hD hS)
theorem sg_ixor {x0 y0 : Int32} (hdg : decode cc pc = .ok (.ixor, 1)) (hn : pc + 1 = pn) (k : sg_G E y cc nL ret d pn lv (.int (x0 ^^^ y0) :: st) z Q) : sg_G E y cc nL ret d pc lv (.int y0 :: .int x0 :: st) z Q := by
  subst hn
  exact fun p e s m args below meth c A H locs ls hC hl hP hD hS => lv_ixor hC.1 hC.2.1 hdg (k p e s m args below meth c A H locs ls hC hl hP hD hS)
theorem sg_ishl {x0 y0 : Int32} (hdg : decode cc pc = .ok (.ishl, 1)) (hn : pc + 1 = pn) (k : sg_G E y cc nL ret d pn lv (.int (sg_shl x0 y0) :: st) z Q) : sg_G E y cc nL ret d pc lv (.int y0 :: .int x0 :: st) z Q := by
  subst hn
  exact fun p e s m args below meth c A H locs ls hC hl hP hD hS => lv_ishl hC.1 hC.2.1 hdg (k p e s m args below meth c A H locs ls hC hl hP hD hS)
theorem sg_ishr {x0 y0 : Int32} (hdg : decode cc pc = .ok (.ishr, 1)) (hn : pc + 1 = pn) (k : sg_G E y cc nL ret d pn lv (.int (sg_shr x0 y0) :: st) z Q) : sg_G E y cc nL ret d pc lv (.int y0 :: .int x0 :: st) z Q := by
  subst hn
  exact fun p e s m args below meth c A H locs ls hC hl hP hD hS => lv_ishr hC.1 hC.2.1 hdg (k p e s m args below meth c A H locs ls hC hl hP hD hS)
theorem sg_iushr {x0 y0 : Int32} (hdg : decode cc pc = .ok (.iushr, 1)) (hn : pc + 1 = pn) (k : sg_G E y cc nL ret d pn lv (.int (sg_ushr x0 y0) :: st) z Q) : sg_G E y cc nL ret d pc lv (.int y0 :: .int x0 :: st) z Q := by
  subst hn
  exact fun p e s m args below meth c A H locs ls hC hl hP hD hS => lv_iushr hC.1 hC.2.1 hdg rfl (k p e s m args below meth c A H locs ls hC hl hP hD hS)
theorem sg_ineg {x0 : Int32} (hdg : decode cc pc = .ok (.ineg, 1)) (hn : pc + 1 = pn) (k : sg_G E y cc nL ret d pn lv (.int (-x0) :: st) z Q) : sg_G E y cc nL ret d pc lv (.int x0 :: st) z Q := by
  subst hn
  exact fun p e s m args below meth c A H locs ls hC hl hP hD hS => lv_ineg hC.1 hC.2.1 hdg (k p e s m args below meth c A H locs ls hC hl hP hD hS)
theorem sg_idiv {x0 y0 : Int32} (hdg : decode cc pc = .ok (.idiv, 1)) (hn : pc + 1 = pn) (hne : ¬ y0 = 0) (k : sg_G E y cc nL ret d pn lv (.int (x0 / y0) :: st) z Q) : sg_G E y cc nL ret d pc lv (.int y0 :: .int x0 :: st) z Q := by
  subst hn
  exact fun p e s m args below meth c A H locs ls hC hl hP hD hS => lv_idiv hC.1 hC.2.1 hdg hne (k p e s m args below meth c A H locs ls hC hl hP hD hS)
theorem sg_irem {x0 y0 : Int32} (hdg : decode cc pc = .ok (.irem, 1)) (hn : pc + 1 = pn) (hne : ¬ y0 = 0) (k : sg_G E y cc nL ret d pn lv (.int (sg_rem x0 y0) :: st) z Q) : sg_G E y cc nL ret d pc lv (.int y0 :: .int x0 :: st) z Q := by
  subst hn
  exact fun p e s m args below meth c A H locs ls hC hl hP hD hS => lv_irem hC.1 hC.2.1 hdg hne (k p e s m args below meth c A H locs ls hC hl hP hD hS)
theorem sg_ldiv {x0 y0 : Int64} (hdg : decode cc pc = .ok (.ldiv, 1)) (hn : pc + 1 = pn) (hne : ¬ y0 = 0) (k : sg_G E y cc nL ret d pn lv (.long (x0 / y0) :: st) z Q) : sg_G E y cc nL ret d pc lv (.long y0 :: .long x0 :: st) z Q := by
  subst hn
  exact fun p e s m args below meth c A H locs ls hC hl hP hD hS => lv_ldiv hC.1 hC.2.1 hdg hne (k p e s m args below meth c A H locs ls hC hl hP hD hS)
theorem sg_lrem {x0 y0 : Int64} (hdg : decode cc pc = .ok (.lrem, 1)) (hn : pc + 1 = pn) (hne : ¬ y0 = 0) (k : sg_G E y cc nL ret d pn lv (.long (sg_lrm x0 y0) :: st) z Q) : sg_G E y cc nL ret d pc lv (.long y0 :: .long x0 :: st) z Q := by
  subst hn
  exact fun p e s m args below meth c A H locs ls hC hl hP hD hS => lv_lrem hC.1 hC.2.1 hdg hne (k p e s m args below meth c A H locs ls hC hl hP hD hS)
theorem sg_ladd {x0 y0 : Int64} (hdg : decode cc pc = .ok (.ladd, 1)) (hn : pc + 1 = pn) (k : sg_G E y cc nL ret d pn lv (.long (x0 + y0) :: st) z Q) : sg_G E y cc nL ret d pc lv (.long y0 :: .long x0 :: st) z Q := by
  subst hn
  exact fun p e s m args below meth c A H locs ls hC hl hP hD hS => lv_ladd hC.1 hC.2.1 hdg (k p e s m args below meth c A H locs ls hC hl hP hD hS)
theorem sg_lmul {x0 y0 : Int64} (hdg : decode cc pc = .ok (.lmul, 1)) (hn : pc + 1 = pn) (k : sg_G E y cc nL ret d pn lv (.long (x0 * y0) :: st) z Q) : sg_G E y cc nL ret d pc lv (.long y0 :: .long x0 :: st) z Q := by
  subst hn
  exact fun p e s m args below meth c A H locs ls hC hl hP hD hS => lv_lmul hC.1 hC.2.1 hdg (k p e s m args below meth c A H locs ls hC hl hP hD hS)
theorem sg_land {x0 y0 : Int64} (hdg : decode cc pc = .ok (.land, 1)) (hn : pc + 1 = pn) (k : sg_G E y cc nL ret d pn lv (.long (x0 &&& y0) :: st) z Q) : sg_G E y cc nL ret d pc lv (.long y0 :: .long x0 :: st) z Q := by
  subst hn
  exact fun p e s m args below meth c A H locs ls hC hl hP hD hS => lv_land hC.1 hC.2.1 hdg (k p e s m args below meth c A H locs ls hC hl hP hD hS)
theorem sg_lcmp {x0 y0 : Int64} (hdg : decode cc pc = .ok (.lcmp, 1)) (hn : pc + 1 = pn) (k : sg_G E y cc nL ret d pn lv (.int (lg_cmp x0 y0) :: st) z Q) : sg_G E y cc nL ret d pc lv (.long y0 :: .long x0 :: st) z Q := by
  subst hn
  exact fun p e s m args below meth c A H locs ls hC hl hP hD hS => W.lcmp hC.1 hC.2.1 hdg (k p e s m args below meth c A H locs ls hC hl hP hD hS)
theorem sg_i2l {x0 : Int32} (hdg : decode cc pc = .ok (.i2l, 1)) (hn : pc + 1 = pn) (k : sg_G E y cc nL ret d pn lv (.long x0.toInt64 :: st) z Q) : sg_G E y cc nL ret d pc lv (.int x0 :: st) z Q := by
  subst hn
  exact fun p e s m args below meth c A H locs ls hC hl hP hD hS => lv_i2l hC.1 hC.2.1 hdg rfl (k p e s m args below meth c A H locs ls hC hl hP hD hS)
theorem sg_l2i {x0 : Int64} (hdg : decode cc pc = .ok (.l2i, 1)) (hn : pc + 1 = pn) (k : sg_G E y cc nL ret d pn lv (.int x0.toInt32 :: st) z Q) : sg_G E y cc nL ret d pc lv (.long x0 :: st) z Q := by
  subst hn
  exact fun p e s m args below meth c A H locs ls hC hl hP hD hS => lv_l2i hC.1 hC.2.1 hdg rfl (k p e s m args below meth c A H locs ls hC hl hP hD hS)
theorem sg_iconst {n0 : Int} {v : Int32} (hdg : decode cc pc = .ok (.iconst n0, 1)) (hn : pc + 1 = pn) (hv : Int32.ofInt n0 = v) (k : sg_G E y cc nL ret d pn lv (.int v :: st) z Q) : sg_G E y cc nL ret d pc lv (st) z Q := by
  subst hn
  exact fun p e s m args below meth c A H locs ls hC hl hP hD hS => lv_iconst hC.1 hC.2.1 hdg hv (k p e s m args below meth c A H locs ls hC hl hP hD hS)
theorem sg_bipush {n0 : Int} {v : Int32} (hdg : decode cc pc = .ok (.bipush n0, 2)) (hn : pc + 2 = pn) (hv : (Int8.ofInt n0).toInt32 = v) (k : sg_G E y cc nL ret d pn lv (.int v :: st) z Q) : sg_G E y cc nL ret d pc lv (st) z Q := by
  subst hn
  exact fun p e s m args below meth c A H locs ls hC hl hP hD hS => lv_bipush hC.1 hC.2.1 hdg hv (k p e s m args below meth c A H locs ls hC hl hP hD hS)
theorem sg_sipush {n0 : Int} {v : Int32} (hdg : decode cc pc = .ok (.sipush n0, 3)) (hn : pc + 3 = pn) (hv : (Int16.ofInt n0).toInt32 = v) (k : sg_G E y cc nL ret d pn lv (.int v :: st) z Q) : sg_G E y cc nL ret d pc lv (st) z Q := by
  subst hn
  exact fun p e s m args below meth c A H locs ls hC hl hP hD hS => lv_sipush hC.1 hC.2.1 hdg hv (k p e s m args below meth c A H locs ls hC hl hP hD hS)
theorem sg_lconst {n0 : Fin 2} {v : Int64} (hdg : decode cc pc = .ok (.lconst n0, 1)) (hn : pc + 1 = pn) (hv : Int64.ofNat (n0 : Nat) = v) (k : sg_G E y cc nL ret d pn lv (.long v :: st) z Q) : sg_G E y cc nL ret d pc lv (st) z Q := by
  subst hn
  exact fun p e s m args below meth c A H locs ls hC hl hP hD hS => lv_lconst hC.1 hC.2.1 hdg hv (k p e s m args below meth c A H locs ls hC hl hP hD hS)
theorem sg_ldc {ix : Nat} {v : Int32} (hdg : decode cc pc = .ok (.ldc ix, 2)) (hn : pc + 2 = pn) (hw : Cond.constant y.cls ix v ∈ sg_tbl) (k : sg_G E y cc nL ret d pn lv (.int v :: st) z Q) : sg_G E y cc nL ret d pc lv (st) z Q := by
  subst hn
  exact fun p e s m args below meth c A H locs ls hC hl hP hD hS => lv_ldc hC.1 hC.2.1 hC.2.2.1 (hC.2.2.2.1 _ hw) hdg (k p e s m args below meth c A H locs ls hC hl hP hD hS)
theorem sg_ldcw {ix : Nat} {v : Int32} (hdg : decode cc pc = .ok (.ldc_w ix, 3)) (hn : pc + 3 = pn) (hw : Cond.constant y.cls ix v ∈ sg_tbl) (k : sg_G E y cc nL ret d pn lv (.int v :: st) z Q) : sg_G E y cc nL ret d pc lv (st) z Q := by
  subst hn
  exact fun p e s m args below meth c A H locs ls hC hl hP hD hS => lv_ldcw hC.1 hC.2.1 hC.2.2.1 (hC.2.2.2.1 _ hw) hdg (k p e s m args below meth c A H locs ls hC hl hP hD hS)
theorem sg_ldc2 {ix : Nat} {v : Int64} (hdg : decode cc pc = .ok (.ldc2_w ix, 3)) (hn : pc + 3 = pn) (hw : Cond.constantLong y.cls ix v ∈ sg_tbl) (k : sg_G E y cc nL ret d pn lv (.long v :: st) z Q) : sg_G E y cc nL ret d pc lv (st) z Q := by
  subst hn
  exact fun p e s m args below meth c A H locs ls hC hl hP hD hS => lv_ldc2 hC.1 hC.2.1 hC.2.2.1 (hC.2.2.2.1 _ hw) hdg (k p e s m args below meth c A H locs ls hC hl hP hD hS)
theorem sg_dup {va : Value} (hdg : decode cc pc = .ok (.dup, 1)) (hn : pc + 1 = pn) (hva : va.category = 1) (k : sg_G E y cc nL ret d pn lv (va :: va :: st) z Q) : sg_G E y cc nL ret d pc lv (va :: st) z Q := by
  subst hn
  exact fun p e s m args below meth c A H locs ls hC hl hP hD hS => lv_dup hC.1 hC.2.1 hdg hva (k p e s m args below meth c A H locs ls hC hl hP hD hS)
theorem sg_dup2 {va vb : Value} (hdg : decode cc pc = .ok (.dup2, 1)) (hn : pc + 1 = pn) (hva : va.category = 1) (hvb : vb.category = 1) (k : sg_G E y cc nL ret d pn lv (va :: vb :: va :: vb :: st) z Q) : sg_G E y cc nL ret d pc lv (va :: vb :: st) z Q := by
  subst hn
  exact fun p e s m args below meth c A H locs ls hC hl hP hD hS => lv_dup2_11 hC.1 hC.2.1 hdg hva hvb (k p e s m args below meth c A H locs ls hC hl hP hD hS)
theorem sg_pop {va : Value} (hdg : decode cc pc = .ok (.pop, 1)) (hn : pc + 1 = pn) (hva : va.category = 1) (k : sg_G E y cc nL ret d pn lv (st) z Q) : sg_G E y cc nL ret d pc lv (va :: st) z Q := by
  subst hn
  exact fun p e s m args below meth c A H locs ls hC hl hP hD hS => lv_pop hC.1 hC.2.1 hdg hva (k p e s m args below meth c A H locs ls hC hl hP hD hS)
theorem sg_iload_n {k1 : Fin 4} {i : Nat} {x0 : Int32} (hdg : decode cc pc = .ok (.iload_n k1, 1)) (hn : pc + 1 = pn) (hi : (k1 : Nat) = i) (k0 : Nat) (hk : lv[k0]? = some (i, .int x0)) (k : sg_G E y cc nL ret d pn lv (.int x0 :: st) z Q) : sg_G E y cc nL ret d pc lv (st) z Q := by
  subst hn
  exact fun p e s m args below meth c A H locs ls hC hl hP hD hS => lv_iload_n hC.1 hC.2.1 hdg hi (lv_at hl k0 hk) (k p e s m args below meth c A H locs ls hC hl hP hD hS)
theorem sg_iload {i : Nat} {x0 : Int32} (hdg : decode cc pc = .ok (.iload i, 2)) (hn : pc + 2 = pn) (k0 : Nat) (hk : lv[k0]? = some (i, .int x0)) (k : sg_G E y cc nL ret d pn lv (.int x0 :: st) z Q) : sg_G E y cc nL ret d pc lv (st) z Q := by
  subst hn
  exact fun p e s m args below meth c A H locs ls hC hl hP hD hS => lv_iload hC.1 hC.2.1 hdg (lv_at hl k0 hk) (k p e s m args below meth c A H locs ls hC hl hP hD hS)
theorem sg_aload_n {k1 : Fin 4} {i : Nat} {x0 : Nat} (hdg : decode cc pc = .ok (.aload_n k1, 1)) (hn : pc + 1 = pn) (hi : (k1 : Nat) = i) (k0 : Nat) (hk : lv[k0]? = some (i, .ref x0)) (k : sg_G E y cc nL ret d pn lv (.ref x0 :: st) z Q) : sg_G E y cc nL ret d pc lv (st) z Q := by
  subst hn
  exact fun p e s m args below meth c A H locs ls hC hl hP hD hS => lv_aload_n hC.1 hC.2.1 hdg hi (lv_at hl k0 hk) (k p e s m args below meth c A H locs ls hC hl hP hD hS)
theorem sg_aload {i : Nat} {x0 : Nat} (hdg : decode cc pc = .ok (.aload i, 2)) (hn : pc + 2 = pn) (k0 : Nat) (hk : lv[k0]? = some (i, .ref x0)) (k : sg_G E y cc nL ret d pn lv (.ref x0 :: st) z Q) : sg_G E y cc nL ret d pc lv (st) z Q := by
  subst hn
  exact fun p e s m args below meth c A H locs ls hC hl hP hD hS => lv_aload hC.1 hC.2.1 hdg (lv_at hl k0 hk) (k p e s m args below meth c A H locs ls hC hl hP hD hS)
theorem sg_lload_n {k1 : Fin 4} {i : Nat} {x0 : Int64} (hdg : decode cc pc = .ok (.lload_n k1, 1)) (hn : pc + 1 = pn) (hi : (k1 : Nat) = i) (k0 : Nat) (hk : lv[k0]? = some (i, .long x0)) (k : sg_G E y cc nL ret d pn lv (.long x0 :: st) z Q) : sg_G E y cc nL ret d pc lv (st) z Q := by
  subst hn
  exact fun p e s m args below meth c A H locs ls hC hl hP hD hS => lv_lload_n hC.1 hC.2.1 hdg hi (lv_at hl k0 hk) (k p e s m args below meth c A H locs ls hC hl hP hD hS)
theorem sg_lload {i : Nat} {x0 : Int64} (hdg : decode cc pc = .ok (.lload i, 2)) (hn : pc + 2 = pn) (k0 : Nat) (hk : lv[k0]? = some (i, .long x0)) (k : sg_G E y cc nL ret d pn lv (.long x0 :: st) z Q) : sg_G E y cc nL ret d pc lv (st) z Q := by
  subst hn
  exact fun p e s m args below meth c A H locs ls hC hl hP hD hS => lv_lload hC.1 hC.2.1 hdg (lv_at hl k0 hk) (k p e s m args below meth c A H locs ls hC hl hP hD hS)
theorem sg_istore_n {k1 : Fin 4} {i : Nat} {x0 : Int32} {lv' : List (Nat × Value)} (hdg : decode cc pc = .ok (.istore_n k1, 1)) (hn : pc + 1 = pn) (hi : (k1 : Nat) = i) (hb : i < nL) (ks : List Nat) (hl0 : lv_pick ((i, Value.int x0) :: lv.filter (fun q => !(q.1 == i) && !(q.1 + 1 == i && q.2.category == 2))) ks = lv') (k : sg_G E y cc nL ret d pn lv' st z Q) : sg_G E y cc nL ret d pc lv (Value.int x0 :: st) z Q := by
  subst hn
  exact fun p e s m args below meth c A H locs ls hC hl hP hD hS => lv_istore_n hC.1 hC.2.1 hdg hi hl hb rfl (fun ls2 hl2 => k p e s m args below meth c A H locs ls2 hC (lv_sub hl2 ks hl0) hP hD hS)
theorem sg_istore {i : Nat} {x0 : Int32} {lv' : List (Nat × Value)} (hdg : decode cc pc = .ok (.istore i, 2)) (hn : pc + 2 = pn) (hb : i < nL) (ks : List Nat) (hl0 : lv_pick ((i, Value.int x0) :: lv.filter (fun q => !(q.1 == i) && !(q.1 + 1 == i && q.2.category == 2))) ks = lv') (k : sg_G E y cc nL ret d pn lv' st z Q) : sg_G E y cc nL ret d pc lv (Value.int x0 :: st) z Q := by
  subst hn
  exact fun p e s m args below meth c A H locs ls hC hl hP hD hS => lv_istore hC.1 hC.2.1 hdg hl hb rfl (fun ls2 hl2 => k p e s m args below meth c A H locs ls2 hC (lv_sub hl2 ks hl0) hP hD hS)
theorem sg_astore_n {k1 : Fin 4} {i : Nat} {x0 : Nat} {lv' : List (Nat × Value)} (hdg : decode cc pc = .ok (.astore_n k1, 1)) (hn : pc + 1 = pn) (hi : (k1 : Nat) = i) (hb : i < nL) (ks : List Nat) (hl0 : lv_pick ((i, Value.ref x0) :: lv.filter (fun q => !(q.1 == i) && !(q.1 + 1 == i && q.2.category == 2))) ks = lv') (k : sg_G E y cc nL ret d pn lv' st z Q) : sg_G E y cc nL ret d pc lv (Value.ref x0 :: st) z Q := by
  subst hn
  exact fun p e s m args below meth c A H locs ls hC hl hP hD hS => lv_astore_n hC.1 hC.2.1 hdg hi hl hb rfl (fun ls2 hl2 => k p e s m args below meth c A H locs ls2 hC (lv_sub hl2 ks hl0) hP hD hS)
theorem sg_lstore_n {k1 : Fin 4} {i : Nat} {x0 : Int64} {lv' : List (Nat × Value)} (hdg : decode cc pc = .ok (.lstore_n k1, 1)) (hn : pc + 1 = pn) (hi : (k1 : Nat) = i) (hb : i + 1 < nL) (ks : List Nat) (hl0 : lv_pick ((i, Value.long x0) :: lv.filter (fun q => !(q.1 == i) && (!(q.1 == i + 1) && !(q.1 + 1 == i && q.2.category == 2)))) ks = lv') (k : sg_G E y cc nL ret d pn lv' st z Q) : sg_G E y cc nL ret d pc lv (Value.long x0 :: st) z Q := by
  subst hn
  exact fun p e s m args below meth c A H locs ls hC hl hP hD hS => lv_lstore_n hC.1 hC.2.1 hdg hi hl hb rfl (fun ls2 hl2 => k p e s m args below meth c A H locs ls2 hC (lv_sub hl2 ks hl0) hP hD hS)
theorem sg_iinc {i : Nat} {n0 : Int} {x0 v : Int32} {lv' : List (Nat × Value)} (hdg : decode cc pc = .ok (.iinc i n0, 3)) (hn : pc + 3 = pn) (k0 : Nat) (hk : lv[k0]? = some (i, .int x0)) (hv : x0 + Int32.ofInt n0 = v) (hb : i < nL) (ks : List Nat) (hl0 : lv_pick ((i, Value.int v) :: lv.filter (fun q => !(q.1 == i) && !(q.1 + 1 == i && q.2.category == 2))) ks = lv') (k : sg_G E y cc nL ret d pn lv' st z Q) : sg_G E y cc nL ret d pc lv st z Q := by
  subst hn
  exact fun p e s m args below meth c A H locs ls hC hl hP hD hS => lv_iinc hC.1 hC.2.1 hdg hl hk hv hb rfl (fun ls2 hl2 => k p e s m args below meth c A H locs ls2 hC (lv_sub hl2 ks hl0) hP hD hS)
theorem sg_icmp_eq {x0 y0 : Int32} {off : Int} {tgt : Nat} (hdg : decode cc pc = .ok (.if_icmp .eq off, 3)) (hn : pc + 3 = pn) (ht : (pc : Int) + off = (tgt : Int)) (kt : x0 = y0 → sg_G E y cc nL ret d tgt lv st z Q) (kf : ¬ x0 = y0 → sg_G E y cc nL ret d pn lv st z Q) : sg_G E y cc nL ret d pc lv (.int y0 :: .int x0 :: st) z Q := by
  subst hn
  exact fun p e s m args below meth c A H locs ls hC hl hP hD hS => lv_icmp_eq hC.1 hC.2.1 hdg ht (fun h => kt h p e s m args below meth c A H locs ls hC hl hP hD hS) (fun h => kf h p e s m args below meth c A H locs ls hC hl hP hD hS)
theorem sg_icmp_ne {x0 y0 : Int32} {off : Int} {tgt : Nat} (hdg : decode cc pc = .ok (.if_icmp .ne off, 3)) (hn : pc + 3 = pn) (ht : (pc : Int) + off = (tgt : Int)) (kt : ¬ x0 = y0 → sg_G E y cc nL ret d tgt lv st z Q) (kf : x0 = y0 → sg_G E y cc nL ret d pn lv st z Q) : sg_G E y cc nL ret d pc lv (.int y0 :: .int x0 :: st) z Q := by
  subst hn
  exact fun p e s m args below meth c A H locs ls hC hl hP hD hS => lv_icmp_ne hC.1 hC.2.1 hdg ht (fun h => kt h p e s m args below meth c A H locs ls hC hl hP hD hS) (fun h => kf h p e s m args below meth c A H locs ls hC hl hP hD hS)
theorem sg_icmp_lt {x0 y0 : Int32} {off : Int} {tgt : Nat} (hdg : decode cc pc = .ok (.if_icmp .lt off, 3)) (hn : pc + 3 = pn) (ht : (pc : Int) + off = (tgt : Int)) (kt : x0 < y0 → sg_G E y cc nL ret d tgt lv st z Q) (kf : ¬ x0 < y0 → sg_G E y cc nL ret d pn lv st z Q) : sg_G E y cc nL ret d pc lv (.int y0 :: .int x0 :: st) z Q := by
  subst hn
  exact fun p e s m args below meth c A H locs ls hC hl hP hD hS => lv_icmp_lt hC.1 hC.2.1 hdg ht (fun h => kt h p e s m args below meth c A H locs ls hC hl hP hD hS) (fun h => kf h p e s m args below meth c A H locs ls hC hl hP hD hS)
theorem sg_icmp_ge {x0 y0 : Int32} {off : Int} {tgt : Nat} (hdg : decode cc pc = .ok (.if_icmp .ge off, 3)) (hn : pc + 3 = pn) (ht : (pc : Int) + off = (tgt : Int)) (kt : y0 ≤ x0 → sg_G E y cc nL ret d tgt lv st z Q) (kf : ¬ y0 ≤ x0 → sg_G E y cc nL ret d pn lv st z Q) : sg_G E y cc nL ret d pc lv (.int y0 :: .int x0 :: st) z Q := by
  subst hn
  exact fun p e s m args below meth c A H locs ls hC hl hP hD hS => lv_icmp_ge hC.1 hC.2.1 hdg ht (fun h => kt h p e s m args below meth c A H locs ls hC hl hP hD hS) (fun h => kf h p e s m args below meth c A H locs ls hC hl hP hD hS)
theorem sg_icmp_gt {x0 y0 : Int32} {off : Int} {tgt : Nat} (hdg : decode cc pc = .ok (.if_icmp .gt off, 3)) (hn : pc + 3 = pn) (ht : (pc : Int) + off = (tgt : Int)) (kt : y0 < x0 → sg_G E y cc nL ret d tgt lv st z Q) (kf : ¬ y0 < x0 → sg_G E y cc nL ret d pn lv st z Q) : sg_G E y cc nL ret d pc lv (.int y0 :: .int x0 :: st) z Q := by
  subst hn
  exact fun p e s m args below meth c A H locs ls hC hl hP hD hS => lv_icmp_gt hC.1 hC.2.1 hdg ht (fun h => kt h p e s m args below meth c A H locs ls hC hl hP hD hS) (fun h => kf h p e s m args below meth c A H locs ls hC hl hP hD hS)
theorem sg_icmp_le {x0 y0 : Int32} {off : Int} {tgt : Nat} (hdg : decode cc pc = .ok (.if_icmp .le off, 3)) (hn : pc + 3 = pn) (ht : (pc : Int) + off = (tgt : Int)) (kt : x0 ≤ y0 → sg_G E y cc nL ret d tgt lv st z Q) (kf : ¬ x0 ≤ y0 → sg_G E y cc nL ret d pn lv st z Q) : sg_G E y cc nL ret d pc lv (.int y0 :: .int x0 :: st) z Q := by
  subst hn
  exact fun p e s m args below meth c A H locs ls hC hl hP hD hS => lv_icmp_le hC.1 hC.2.1 hdg ht (fun h => kt h p e s m args below meth c A H locs ls hC hl hP hD hS) (fun h => kf h p e s m args below meth c A H locs ls hC hl hP hD hS)
theorem sg_if_eq {x0 : Int32} {off : Int} {tgt : Nat} (hdg : decode cc pc = .ok (.ifCond .eq off, 3)) (hn : pc + 3 = pn) (ht : (pc : Int) + off = (tgt : Int)) (kt : x0 = 0 → sg_G E y cc nL ret d tgt lv st z Q) (kf : ¬ x0 = 0 → sg_G E y cc nL ret d pn lv st z Q) : sg_G E y cc nL ret d pc lv (.int x0 :: st) z Q := by
  subst hn
  exact fun p e s m args below meth c A H locs ls hC hl hP hD hS => lv_if_eq hC.1 hC.2.1 hdg ht (fun h => kt h p e s m args below meth c A H locs ls hC hl hP hD hS) (fun h => kf h p e s m args below meth c A H locs ls hC hl hP hD hS)
theorem sg_if_ne {x0 : Int32} {off : Int} {tgt : Nat} (hdg : decode cc pc = .ok (.ifCond .ne off, 3)) (hn : pc + 3 = pn) (ht : (pc : Int) + off = (tgt : Int)) (kt : ¬ x0 = 0 → sg_G E y cc nL ret d tgt lv st z Q) (kf : x0 = 0 → sg_G E y cc nL ret d pn lv st z Q) : sg_G E y cc nL ret d pc lv (.int x0 :: st) z Q := by
  subst hn
  exact fun p e s m args below meth c A H locs ls hC hl hP hD hS => lv_if_ne hC.1 hC.2.1 hdg ht (fun h => kt h p e s m args below meth c A H locs ls hC hl hP hD hS) (fun h => kf h p e s m args below meth c A H locs ls hC hl hP hD hS)
theorem sg_if_lt {x0 : Int32} {off : Int} {tgt : Nat} (hdg : decode cc pc = .ok (.ifCond .lt off, 3)) (hn : pc + 3 = pn) (ht : (pc : Int) + off = (tgt : Int)) (kt : x0 < 0 → sg_G E y cc nL ret d tgt lv st z Q) (kf : ¬ x0 < 0 → sg_G E y cc nL ret d pn lv st z Q) : sg_G E y cc nL ret d pc lv (.int x0 :: st) z Q := by
  subst hn
  exact fun p e s m args below meth c A H locs ls hC hl hP hD hS => lv_if_lt hC.1 hC.2.1 hdg ht (fun h => kt h p e s m args below meth c A H locs ls hC hl hP hD hS) (fun h => kf h p e s m args below meth c A H locs ls hC hl hP hD hS)
theorem sg_if_ge {x0 : Int32} {off : Int} {tgt : Nat} (hdg : decode cc pc = .ok (.ifCond .ge off, 3)) (hn : pc + 3 = pn) (ht : (pc : Int) + off = (tgt : Int)) (kt : 0 ≤ x0 → sg_G E y cc nL ret d tgt lv st z Q) (kf : ¬ 0 ≤ x0 → sg_G E y cc nL ret d pn lv st z Q) : sg_G E y cc nL ret d pc lv (.int x0 :: st) z Q := by
  subst hn
  exact fun p e s m args below meth c A H locs ls hC hl hP hD hS => lv_if_ge hC.1 hC.2.1 hdg ht (fun h => kt h p e s m args below meth c A H locs ls hC hl hP hD hS) (fun h => kf h p e s m args below meth c A H locs ls hC hl hP hD hS)
theorem sg_if_gt {x0 : Int32} {off : Int} {tgt : Nat} (hdg : decode cc pc = .ok (.ifCond .gt off, 3)) (hn : pc + 3 = pn) (ht : (pc : Int) + off = (tgt : Int)) (kt : 0 < x0 → sg_G E y cc nL ret d tgt lv st z Q) (kf : ¬ 0 < x0 → sg_G E y cc nL ret d pn lv st z Q) : sg_G E y cc nL ret d pc lv (.int x0 :: st) z Q := by
  subst hn
  exact fun p e s m args below meth c A H locs ls hC hl hP hD hS => lv_if_gt hC.1 hC.2.1 hdg ht (fun h => kt h p e s m args below meth c A H locs ls hC hl hP hD hS) (fun h => kf h p e s m args below meth c A H locs ls hC hl hP hD hS)
theorem sg_if_le {x0 : Int32} {off : Int} {tgt : Nat} (hdg : decode cc pc = .ok (.ifCond .le off, 3)) (hn : pc + 3 = pn) (ht : (pc : Int) + off = (tgt : Int)) (kt : x0 ≤ 0 → sg_G E y cc nL ret d tgt lv st z Q) (kf : ¬ x0 ≤ 0 → sg_G E y cc nL ret d pn lv st z Q) : sg_G E y cc nL ret d pc lv (.int x0 :: st) z Q := by
  subst hn
  exact fun p e s m args below meth c A H locs ls hC hl hP hD hS => lv_if_le hC.1 hC.2.1 hdg ht (fun h => kt h p e s m args below meth c A H locs ls hC hl hP hD hS) (fun h => kf h p e s m args below meth c A H locs ls hC hl hP hD hS)
theorem sg_goto {off : Int} {tgt : Nat} (hdg : decode cc pc = .ok (.goto off, 3)) (ht : (pc : Int) + off = (tgt : Int)) (k : sg_G E y cc nL ret d tgt lv st z Q) : sg_G E y cc nL ret d pc lv st z Q :=
  fun p e s m args below meth c A H locs ls hC hl hP hD hS => lv_goto hC.1 hC.2.1 hdg ht (k p e s m args below meth c A H locs ls hC hl hP hD hS)
theorem sg_tabIn {x0 : Int32} {dflt lo hi off : Int} {offs : Array Int} {len tgt : Nat} (hdg : decode cc pc = .ok (.tableswitch dflt lo hi offs, len)) (h1 : ¬ x0.toInt < lo) (h2 : ¬ hi < x0.toInt) (ho : offs[(x0.toInt - lo).toNat]? = some off) (ht : (pc : Int) + off = (tgt : Int)) (k : sg_G E y cc nL ret d tgt lv st z Q) : sg_G E y cc nL ret d pc lv (.int x0 :: st) z Q :=
  fun p e s m args below meth c A H locs ls hC hl hP hD hS => lv_tableIn hC.1 hC.2.1 hdg h1 h2 ho ht (k p e s m args below meth c A H locs ls hC hl hP hD hS)
theorem sg_tabOut {x0 : Int32} {dflt lo hi : Int} {offs : Array Int} {len tgt : Nat} (hdg : decode cc pc = .ok (.tableswitch dflt lo hi offs, len)) (h : x0.toInt < lo ∨ hi < x0.toInt) (ht : (pc : Int) + dflt = (tgt : Int)) (k : sg_G E y cc nL ret d tgt lv st z Q) : sg_G E y cc nL ret d pc lv (.int x0 :: st) z Q :=
  fun p e s m args below meth c A H locs ls hC hl hP hD hS => lv_tableOut hC.1 hC.2.1 hdg h ht (k p e s m args below meth c A H locs ls hC hl hP hD hS)
theorem sg_lookup {x0 : Int32} {dflt off : Int} {ps : Array (Int × Int)} {len tgt : Nat} (hdg : decode cc pc = .ok (.lookupswitch dflt ps, len)) (hp : (ps.toList.zip (ps.toList.drop 1)).all (fun (a, next) => a.1 < next.1) = true) (ho : Op.lookupswitch.offset ps.toList dflt x0.toInt = off) (ht : (pc : Int) + off = (tgt : Int)) (k : sg_G E y cc nL ret d tgt lv st z Q) : sg_G E y cc nL ret d pc lv (.int x0 :: st) z Q :=
  fun p e s m args below meth c A H locs ls hC hl hP hD hS => lv_lookup hC.1 hC.2.1 hdg hp ho ht (k p e s m args below meth c A H locs ls hC hl hP hD hS)
theorem sg_iret {v : Int32} (hdg : decode cc pc = .ok (.ireturn, 1)) (hr : ret = some .int) (hq : Q (some (.int v)) z) : sg_G E y cc nL ret d pc lv [.int v] z Q :=
  fun p e s m args below meth c A H locs ls hC hl hP hD hS => W.iret hC.1 hC.2.1 (hC.2.2.2.2.2.2.1.trans hr) (fun t ht hW => ⟨⟨_, z, rfl, hq, by rw [ht]; exact hP, va_K.moved hW.alike hC.2.2.2.2.1, hD⟩, hS.F ht⟩) hS.2.2 hdg (hlocks := hC.2.2.2.2.2.2.2.1)
theorem sg_zret {v : Int32} (hdg : decode cc pc = .ok (.ireturn, 1)) (hr : ret = some .boolean) (hb : narrow .boolean (.int v) = .int v) (hq : Q (some (.int v)) z) : sg_G E y cc nL ret d pc lv [.int v] z Q :=
  fun p e s m args below meth c A H locs ls hC hl hP hD hS => W.zret hC.1 hC.2.1 (hC.2.2.2.2.2.2.1.trans hr) hb (fun t ht hW => ⟨⟨_, z, rfl, hq, by rw [ht]; exact hP, va_K.moved hW.alike hC.2.2.2.2.1, hD⟩, hS.F ht⟩) hS.2.2 hdg (hlocks := hC.2.2.2.2.2.2.2.1)
theorem sg_vret (hdg : decode cc pc = .ok (.return_, 1)) (hr : ret = none) (hq : Q none z) : sg_G E y cc nL ret d pc lv [] z Q :=
  fun p e s m args below meth c A H locs ls hC hl hP hD hS => W.vret hC.1 hC.2.1 (hC.2.2.2.2.2.2.1.trans hr) (fun t ht hW => ⟨⟨_, z, rfl, hq, by rw [ht]; exact hP, va_K.moved hW.alike hC.2.2.2.2.1, hD⟩, hS.F ht⟩) hS.2.2 hdg (hlocks := hC.2.2.2.2.2.2.2.1)
theorem sg_aret {a : Nat} {C : String} (hdg : decode cc pc = .ok (.areturn, 1)) (hr : ret = some (.object C)) (hq : Q (some (.ref a)) z) : sg_G E y cc nL ret d pc lv [.ref a] z Q :=
  fun p e s m args below meth c A H locs ls hC hl hP hD hS => W.aret hC.1 hC.2.1 (hC.2.2.2.2.2.2.1.trans hr) (Or.inl ⟨_, rfl⟩) (Or.inr ⟨_, rfl⟩) (fun t ht hW => ⟨⟨_, z, rfl, hq, by rw [ht]; exact hP, va_K.moved hW.alike hC.2.2.2.2.1, hD⟩, hS.F ht⟩) hS.2.2 hdg (hlocks := hC.2.2.2.2.2.2.2.1)
theorem sg_get {a ci ix N : Nat} {C rf : String} {T : u_T} {fs : List Value} {v : Value} (q0 k0 : Nat) (hdg : decode cc pc = .ok (.getfield ix, 3)) (hn : pc + 3 = pn) (hin : ∀ w ∈ u_ws C T N, w ∈ sg_tbl) (he : (E.2.2.2 z)[q0]? = some (a, .inr (ci, fs))) (hc : vwCl[ci]? = some (C, T, N)) (hk : k0 < N) (hw : Cond.fieldLink y.cls ix rf (T k0).2.1 (T k0).2.2.1 ∈ sg_tbl) (hs : rf = (T k0).1) (hv : fs[k0]? = some v) (k : sg_G E y cc nL ret d pn lv (v :: st) z Q) : sg_G E y cc nL ret d pc lv (.ref a :: st) z Q := by
  subst hn
  exact fun p e s m args below meth c A H locs ls hC hl hP hD hS => va_get (D := E.2.1) hC.1 hC.2.1 hC.2.2.2.1 hin hC.2.2.1 hC.2.2.2.2.1 hP q0 he hc k0 hk (hC.2.2.2.1 _ hw) (fun _ h9 => by rw [hs]; exact h9) hv hdg (k p e s m args below meth c A H locs ls hC hl hP hD hS)
theorem sg_put {a ci ix N : Nat} {C rf : String} {T : u_T} {fs : List Value} {v : Value} {ty : FieldType} {z2 : sg_M} (q0 k0 : Nat) (hdg : decode cc pc = .ok (.putfield ix, 3)) (hn : pc + 3 = pn) (hin : ∀ w ∈ u_ws C T N, w ∈ sg_tbl) (ty0 : Nat → FieldType) (hty : ∀ k, k < N → parseFieldDescriptor (T k).2.2.1 = some (ty0 k)) (hnm : ∀ a, a < N → ∀ b, b < N → a ≠ b → (T a).2.1 ≠ (T b).2.1) (he : (E.2.2.2 z)[q0]? = some (a, .inr (ci, fs))) (hc : vwCl[ci]? = some (C, T, N)) (hk : k0 < N) (hw : Cond.fieldLink y.cls ix rf (T k0).2.1 (T k0).2.2.1 ∈ sg_tbl) (hs : rf = (T k0).1) (hfin : (T k0).2.2.2 = false) (hd0 : parseFieldDescriptor (T k0).2.2.1 = some ty) (hnr : narrow ty v = v) (hft : fits ty v = true) (hl1 : k0 < fs.length) (hz : (E.2.2.2 z).set q0 (a, .inr (ci, fs.set k0 v)) = E.2.2.2 z2) (k : sg_G E y cc nL ret d pn lv st z2 Q) : sg_G E y cc nL ret d pc lv (v :: .ref a :: st) z Q := by
  subst hn
  exact fun p e s m args below meth c A H locs ls hC hl hP hD hS => va_put (D := E.2.1) hC.1 hC.2.1 hC.2.2.2.1 hin ty0 hty hnm hC.2.2.1 hC.2.2.2.2.1 hP hD hS q0 he hc k0 hk (hC.2.2.2.1 _ hw) (fun _ h9 => by rw [hs]; exact h9) hfin hd0 hnr hft hl1 hdg (fun H1 l1 hP1 hD1 hS1 => k p e s m args below meth c A H1 l1 ls hC hl (by rw [← hz]; exact hP1) (by rw [← hz]; exact hD1) hS1)
theorem sg_iald {a n : Nat} {cA : ClassId} {f : Nat → Int32} {i : Int32} (q0 t0 : Nat) (hdg : decode cc pc = .ok (.iaload, 1)) (hn : pc + 1 = pn) (he : (E.2.2.2 z)[q0]? = some (a, .inl (cA, n, .inl f))) (ht : E.2.2.1[t0]? = some (cA, .int)) (hi : vp_in i n) (k : sg_G E y cc nL ret d pn lv (.int (f i.toNatClampNeg) :: st) z Q) : sg_G E y cc nL ret d pc lv (.int i :: .ref a :: st) z Q := by
  subst hn
  exact fun p e s m args below meth c A H locs ls hC hl hP hD hS => va_iald (D := E.2.1) hC.1 hC.2.1 hC.2.2.2.2.1 hP q0 t0 he ht hi hdg (k p e s m args below meth c A H locs ls hC hl hP hD hS)
theorem sg_zald {a n : Nat} {cA : ClassId} {f : Nat → Int32} {i : Int32} (q0 t0 : Nat) (hdg : decode cc pc = .ok (.baload, 1)) (hn : pc + 1 = pn) (he : (E.2.2.2 z)[q0]? = some (a, .inl (cA, n, .inl f))) (ht : E.2.2.1[t0]? = some (cA, .boolean)) (hi : vp_in i n) (k : sg_G E y cc nL ret d pn lv (.int (f i.toNatClampNeg) :: st) z Q) : sg_G E y cc nL ret d pc lv (.int i :: .ref a :: st) z Q := by
  subst hn
  exact fun p e s m args below meth c A H locs ls hC hl hP hD hS => va_zald (D := E.2.1) hC.1 hC.2.1 hC.2.2.2.2.1 hP q0 t0 he ht hi hdg (k p e s m args below meth c A H locs ls hC hl hP hD hS)
theorem sg_iast {a n : Nat} {cA : ClassId} {f : Nat → Int32} {i x0 : Int32} {z2 : sg_M} (q0 t0 : Nat) (hdg : decode cc pc = .ok (.iastore, 1)) (hn : pc + 1 = pn) (he : (E.2.2.2 z)[q0]? = some (a, .inl (cA, n, .inl f))) (ht : E.2.2.1[t0]? = some (cA, .int)) (hi : vp_in i n) (hz : (E.2.2.2 z).set q0 (a, .inl (cA, n, .inl (upd f i.toNatClampNeg x0))) = E.2.2.2 z2) (k : sg_G E y cc nL ret d pn lv st z2 Q) : sg_G E y cc nL ret d pc lv (.int x0 :: .int i :: .ref a :: st) z Q := by
  subst hn
  exact fun p e s m args below meth c A H locs ls hC hl hP hD hS => va_iast (D := E.2.1) hC.1 hC.2.1 hC.2.2.2.2.1 hP hD hS q0 t0 he ht hi hdg (fun H1 l1 hP1 hD1 hS1 => k p e s m args below meth c A H1 l1 ls hC hl (by rw [← hz]; exact hP1) (by rw [← hz]; exact hD1) hS1)
theorem sg_zast {a n : Nat} {cA : ClassId} {f : Nat → Int32} {i x0 : Int32} {z2 : sg_M} (q0 t0 : Nat) (hdg : decode cc pc = .ok (.bastore, 1)) (hn : pc + 1 = pn) (he : (E.2.2.2 z)[q0]? = some (a, .inl (cA, n, .inl f))) (ht : E.2.2.1[t0]? = some (cA, .boolean)) (hi : vp_in i n) (hz : (E.2.2.2 z).set q0 (a, .inl (cA, n, .inl (upd f i.toNatClampNeg (vp_nar .boolean x0)))) = E.2.2.2 z2) (k : sg_G E y cc nL ret d pn lv st z2 Q) : sg_G E y cc nL ret d pc lv (.int x0 :: .int i :: .ref a :: st) z Q := by
  subst hn
  exact fun p e s m args below meth c A H locs ls hC hl hP hD hS => va_zast (D := E.2.1) hC.1 hC.2.1 hC.2.2.2.2.1 hP hD hS q0 t0 he ht hi hdg (fun H1 l1 hP1 hD1 hS1 => k p e s m args below meth c A H1 l1 ls hC hl (by rw [← hz]; exact hP1) (by rw [← hz]; exact hD1) hS1)
theorem sg_alen {a n : Nat} {cA : ClassId} {f : Nat → Int32} {v : Int32} {ty : FieldType} (q0 t0 : Nat) (hdg : decode cc pc = .ok (.arraylength, 1)) (hn : pc + 1 = pn) (he : (E.2.2.2 z)[q0]? = some (a, .inl (cA, n, .inl f))) (ht : E.2.2.1[t0]? = some (cA, ty)) (hv : Int32.ofNat n = v) (k : sg_G E y cc nL ret d pn lv (.int v :: st) z Q) : sg_G E y cc nL ret d pc lv (.ref a :: st) z Q := by
  subst hn
  exact fun p e s m args below meth c A H locs ls hC hl hP hD hS => va_alen (D := E.2.1) hC.1 hC.2.1 hC.2.2.2.2.1 hP q0 t0 he ht hv hdg (k p e s m args below meth c A H locs ls hC hl hP hD hS)
theorem sg_fitI (x : Int32) : fits .int (.int x) = true := rfl
theorem sg_copy {a a0 n0 n1 ix : Nat} {c0 c1 : ClassId} {f g : Nat → Int32} {sp dp n : Int32} {z2 : sg_M} (q0 q1 t0 t1 : Nat) (hdg : decode cc pc = .ok (.invokestatic ix, 3)) (hn : pc + 3 = pn) (hw : Cond.methodLink y.cls ix arraycopyName ∈ sg_tbl) (hw2 : Cond.native arraycopyName ∈ sg_tbl ∧ Cond.static arraycopyName ∈ sg_tbl ∧ Cond.initialized "java/lang/System" ∈ sg_tbl) (he0 : (E.2.2.2 z)[q0]? = some (a0, .inl (c0, n0, .inl f))) (he1 : (E.2.2.2 z)[q1]? = some (a, .inl (c1, n1, .inl g))) (ht0 : E.2.2.1[t0]? = some (c0, .int)) (ht1 : E.2.2.1[t1]? = some (c1, .int)) (h1 : ¬ sp < 0) (h2 : ¬ dp < 0) (h3 : ¬ n < 0) (h4 : sp.toNatClampNeg + n.toNatClampNeg ≤ n0) (h5 : dp.toNatClampNeg + n.toNatClampNeg ≤ n1) (hd1 : 1 ≤ d) (hst : (st.map fun v => v.category).sum ≤ 8) (hz : (E.2.2.2 z).set q1 (a, .inl (c1, n1, .inl (va_cpy f g sp.toNatClampNeg dp.toNatClampNeg n.toNatClampNeg))) = E.2.2.2 z2) (k : sg_G E y cc nL ret d pn lv st z2 Q) : sg_G E y cc nL ret d pc lv (.int n :: .int dp :: .ref a :: .int sp :: .ref a0 :: st) z Q := by
  subst hn
  exact fun p e s m args below meth c A H locs ls hC hl hP hD hS => va_copyi (D := E.2.1) hC.1 hC.2.1 (hC.2.2.2.2.2.1.trans hl.1.symm) hC.2.2.1 (hC.2.2.2.1 _ hw) (hC.2.2.2.1 _ hw2.1) (hC.2.2.2.1 _ hw2.2.1) (hC.2.2.2.1 _ hw2.2.2) hC.2.2.2.2.1 hP hD hS q0 q1 t0 t1 he0 he1 ht0 ht1 rfl h1 h2 h3 h4 h5 (fun i _ => sg_fitI _) hd1 (by
    have e1 : nativeFrameWords "java/lang/System" "arraycopy" 5 + 11 ≤ 50 := by decide +kernel
    have e2 : (sg_rm d).locals = 64 * d := rfl
    omega) hdg (fun H1 l1 hP1 hD1 hS1 => k p e s m args below meth c A H1 l1 ls hC hl (by rw [← hz]; exact hP1) (by rw [← hz]; exact hD1) hS1)
def sg_max (x y : Int32) : Int32 := if x < y then y else x
def sg_min (x y : Int32) : Int32 := if y < x then y else x
def sg_abs (x : Int32) : Int32 := if 0 ≤ x then x else 0 - x
theorem sg_mmax {ix : Nat} {x0 y0 : Int32} (hdg : decode cc pc = .ok (.invokestatic ix, 3)) (hn : pc + 3 = pn) (hw : Cond.methodLink y.cls ix Lib.Math.max.name ∈ sg_tbl) (hw2 : Cond.static Lib.Math.max.name ∈ sg_tbl ∧ Cond.initialized "java/lang/Math" ∈ sg_tbl ∧ Cond.code Lib.Math.max.name Lib.Math.max.code 2 (some .int) ∈ sg_tbl) (hd1 : 1 ≤ d) (hst : (st.map fun v => v.category).sum ≤ 8) (k : sg_G E y cc nL ret d pn lv (.int (sg_max x0 y0) :: st) z Q) : sg_G E y cc nL ret d pc lv (.int y0 :: .int x0 :: st) z Q := by
  subst hn
  exact fun p e s m args below meth c A H locs ls hC hl hP hD hS => va_mmax hC.1 hC.2.1 (hC.2.2.2.2.2.1.trans hl.1.symm) hC.2.2.1 (hC.2.2.2.1 _ hw) (hC.2.2.2.1 _ hw2.1) (hC.2.2.2.1 _ hw2.2.1) (hC.2.2.2.1 _ hw2.2.2) hd1 (by
    have e2 : (sg_rm d).locals = 64 * d := rfl
    omega) (Nat.zero_le _) (Nat.zero_le _) hdg (k p e s m args below meth c A H locs ls hC hl hP hD hS)
theorem sg_mmin {ix : Nat} {x0 y0 : Int32} (hdg : decode cc pc = .ok (.invokestatic ix, 3)) (hn : pc + 3 = pn) (hw : Cond.methodLink y.cls ix Lib.Math.min.name ∈ sg_tbl) (hw2 : Cond.static Lib.Math.min.name ∈ sg_tbl ∧ Cond.initialized "java/lang/Math" ∈ sg_tbl ∧ Cond.code Lib.Math.min.name Lib.Math.min.code 2 (some .int) ∈ sg_tbl) (hd1 : 1 ≤ d) (hst : (st.map fun v => v.category).sum ≤ 8) (k : sg_G E y cc nL ret d pn lv (.int (sg_min x0 y0) :: st) z Q) : sg_G E y cc nL ret d pc lv (.int y0 :: .int x0 :: st) z Q := by
  subst hn
  exact fun p e s m args below meth c A H locs ls hC hl hP hD hS => va_mmin hC.1 hC.2.1 (hC.2.2.2.2.2.1.trans hl.1.symm) hC.2.2.1 (hC.2.2.2.1 _ hw) (hC.2.2.2.1 _ hw2.1) (hC.2.2.2.1 _ hw2.2.1) (hC.2.2.2.1 _ hw2.2.2) hd1 (by
    have e2 : (sg_rm d).locals = 64 * d := rfl
    omega) (Nat.zero_le _) (Nat.zero_le _) hdg (k p e s m args below meth c A H locs ls hC hl hP hD hS)
theorem sg_mabs {ix : Nat} {x0 : Int32} (hdg : decode cc pc = .ok (.invokestatic ix, 3)) (hn : pc + 3 = pn) (hw : Cond.methodLink y.cls ix Lib.Math.abs.name ∈ sg_tbl) (hw2 : Cond.static Lib.Math.abs.name ∈ sg_tbl ∧ Cond.initialized "java/lang/Math" ∈ sg_tbl ∧ Cond.code Lib.Math.abs.name Lib.Math.abs.code 1 (some .int) ∈ sg_tbl) (hd1 : 1 ≤ d) (hst : (st.map fun v => v.category).sum ≤ 8) (k : sg_G E y cc nL ret d pn lv (.int (sg_abs x0) :: st) z Q) : sg_G E y cc nL ret d pc lv (.int x0 :: st) z Q := by
  subst hn
  exact fun p e s m args below meth c A H locs ls hC hl hP hD hS => va_mabs hC.1 hC.2.1 (hC.2.2.2.2.2.1.trans hl.1.symm) hC.2.2.1 (hC.2.2.2.1 _ hw) (hC.2.2.2.1 _ hw2.1) (hC.2.2.2.1 _ hw2.2.1) (hC.2.2.2.1 _ hw2.2.2) hd1 (by
    have e2 : (sg_rm d).locals = 64 * d := rfl
    omega) (Nat.zero_le _) (Nat.zero_le _) hdg (k p e s m args below meth c A H locs ls hC hl hP hD hS)
end SG
/-- what the tables say of a call: the caller's class, the entry, the callee -/
def sg_kB (own : String) (ix : Nat) (y' : MethodName) (cc' : ByteArray) (nL' : Nat) (ret' : Option FieldType) (n : Nat) : Prop :=
  Cond.code y' cc' nL' ret' ∈ sg_tbl ∧ Cond.initialized y'.cls ∈ sg_tbl ∧ Cond.methodLink own ix y' ∈ sg_tbl ∧ (y'.cls ≠ "java/lang/invoke/MethodHandle" ∧ y'.cls ≠ "java/lang/invoke/VarHandle" ∧ (parseMethodDescriptor y'.desc).map (fun q => q.parameters.length) = some n) ∧ nL' ≤ 40
section SGC
variable {E : sg_E} {y : MethodName} {cc : ByteArray} {nL : Nat} {ret : Option FieldType} {d pc pn : Nat} {lv : List (Nat × Value)} {st : List Value} {z : sg_M} {Q : Option Value → sg_M → Prop}
variable {y' : MethodName} {cc' : ByteArray} {nL' n ix d' : Nat} {ret' : Option FieldType} {As rest : List Value} {v0 : Option Value} {z1 : sg_M}
theorem sg_blind {av : List Value} {sz : Nat} : FrameBlind (va_Pc av (fun U => U.heap.size = sz ∧ va_P E.2.1 vwCl (E.2.2.2 z) U.heap ∧ va_K E.2.1 vwCl E.2.2.1 U ∧ va_D (fun _ => True) (E.2.2.2 z))) :=
  fun a U g mk q => by obtain ⟨q0, q1, qP, qK, qD⟩ := q; exact ⟨q0, q1, qP, va_K.moved (u := U) (U := U.calling g mk a) (Vm.Alike.refl U.vm) qK, qD⟩
theorem sg_after {p : Program} {e : Env} {s : State} {m : MethodId} {args : Array Value} {below : List Frame} {meth : Method} {c : Code} {A : Nat → Prop} {H : Heap} {locs : List Loc} {ls : Array Slot} {a : Array Value} {st0 : List Value}
    (hr : va_Run p E.1 e (sg_rm d) s m args below meth c H locs 0 0 0 0 (F0 m pc ls st0) rest (sg_Q (sg_is v0 z1) (sg_B E (va_A (E.2.2.2 z) H.size)) (va_A (E.2.2.2 z) H.size) a) (va_A (E.2.2.2 z) H.size))
    (hC : sg_C E y cc nL ret p s m args meth c A) (hl : lv_has ls nL lv) (hP : va_P E.2.1 vwCl (E.2.2.2 z) H) (hD : va_D A (E.2.2.2 z)) (hS : va_S A s.heap H locs)
    (k : sg_G E y cc nL ret d (pc + 3) lv (v0.toList ++ rest) z1 Q) : W p E.1 e (sg_rm d) s m args below meth c H locs 0 0 (MQ below (sg_Q Q (sg_B E A) A) args s 0 0 A) (F0 m pc ls st0) := by
  intro T hT X
  obtain ⟨v, st₀, t, T', L, h0, X', hL, e1, e2, ⟨⟨v2, z2, hv, ⟨hq1, hq2⟩, hb1, hb2, hb3⟩, hz, hk⟩, st1⟩ := hr T hT X
  cases hv
  subst hq1; subst hq2
  rw [h0] at hz hk
  have hfree : ∀ q, va_A (E.2.2.2 z) H.size q → A q := by
    intro q hq
    rcases hq with ⟨k2, e3, h⟩ | h
    · exact hD.2 k2 _ h
    · exact hC.2.2.2.2.2.2.2.2 q (Nat.le_trans hS.1 h)
  obtain ⟨t2, a1, b1⟩ := k p e s m args below meth c A T'.heap (locs ++ L) ls hC hl (by rw [e1]; exact hb1) (hb3.weaken (fun k q _ h => hfree q.1 h))
    ⟨Nat.le_trans hS.1 (by rw [e1]; exact hz), fun q h1 h2 => by rw [e1, hk q (Nat.lt_of_lt_of_le h1 hS.1) (fun z9 => h2 (hfree q z9))]; exact hS.2.1 q h1 h2, fun q hq => by
      rcases List.mem_append.mp hq with h | h
      · exact hS.2.2 q h
      · exact hfree _ (hL q h)⟩ T' rfl X'
  exact ⟨t2, st1 t2 a1, b1⟩
theorem sg_callV {a ci : Nat} {fs : List Value} (q0 : Nat) (hdg : decode cc pc = .ok (.invokevirtual ix, 3)) (hn : pc + 3 = pn) (kw : sg_kB y.cls ix y' cc' nL' ret' n) (kv : Cond.instanceMethod y' ∈ sg_tbl ∧ Cond.selects y'.cls y' y' ∈ sg_tbl) (he : (E.2.2.2 z)[q0]? = some (a, .inr (ci, fs))) (hc : (vwCl[ci]?).map (fun q => q.1) = some y'.cls) (hd : d' + 1 ≤ d) (hM : sg_Met E y' cc' nL' ret' d' (.ref a :: As) z (sg_is v0 z1)) (hlen : As.length = n) (hst : st = As.reverse ++ .ref a :: rest) (hW : (rest.map fun v => v.category).sum ≤ 8)
    (k : sg_G E y cc nL ret d pn lv (v0.toList ++ rest) z1 Q) : sg_G E y cc nL ret d pc lv st z Q := by
  subst hn
  subst hst
  intro p e s m args below meth c A H locs ls hC hl hP hD hS
  obtain ⟨kc, ki, kl, kd, kn⟩ := kw
  have hts : ∀ w ∈ sg_ws y' cc' nL' ret', w.before args s = true := by
    intro w hw
    rcases List.mem_cons.mp hw with rfl | hw
    · exact hC.2.2.2.1 _ kc
    · exact hC.2.2.2.1 _ hw
  obtain ⟨q9, hq9, hq8⟩ : ∃ q : vw_C, vwCl[ci]? = some q ∧ q.1 = y'.cls := by
    cases hcc : vwCl[ci]? with
    | none => rw [hcc] at hc; cases hc
    | some q => rw [hcc] at hc; exact ⟨q, rfl, Option.some.inj hc⟩
  refine sg_after (pc := pc) (rest := rest) (va_runV (As := As) (rest := rest) (Ts := sg_ws y' cc' nL' ret') (nL := nL) ⟨hC.1, hC.2.1, hC.2.2.2.2.2.1, hC.2.2.1, hts⟩ (hM H.size) ⟨callB_of (Ts := sg_ws y' cc' nL' ret') n hts (sg_goodIn kc) rfl rfl rfl (hC.2.2.2.1 _ ki) (hC.2.2.2.1 _ kl) kd ⟨hd, ?_⟩, hC.2.2.2.1 _ kv.1, hC.2.2.2.1 _ kv.2⟩ ⟨sg_blind, ?_, fun U hU hW2 => ⟨rfl, by rw [hU], by rw [hU]; exact hP, va_K.moved hW2.alike hC.2.2.2.2.1, hD.weaken (fun _ _ _ _ => trivial)⟩⟩ rfl hlen hl.1 rfl (lv_room hW) hdg ⟨Nat.zero_le _, Nat.zero_le _⟩) hC hl hP hD hS k
  · show 8 + (nL' + 11) + 64 * d' ≤ 64 * d
    omega
  · have h := va_recv hC.2.2.2.2.1 hP (ci := ci) (q0 := q0) hq9 he
    rw [hq8] at h
    exact h
theorem sg_callS (hdg : decode cc pc = .ok (.invokestatic ix, 3)) (hn : pc + 3 = pn) (kw : sg_kB y.cls ix y' cc' nL' ret' n) (kv : Cond.static y' ∈ sg_tbl) (hd : d' + 1 ≤ d) (hM : sg_Met E y' cc' nL' ret' d' As z (sg_is v0 z1)) (hlen : As.length = n) (hst : st = As.reverse ++ rest) (hW : (rest.map fun v => v.category).sum ≤ 8)
    (k : sg_G E y cc nL ret d pn lv (v0.toList ++ rest) z1 Q) : sg_G E y cc nL ret d pc lv st z Q := by
  subst hn
  subst hst
  intro p e s m args below meth c A H locs ls hC hl hP hD hS
  obtain ⟨kc, ki, kl, kd, kn⟩ := kw
  have hts : ∀ w ∈ sg_ws y' cc' nL' ret', w.before args s = true := by
    intro w hw
    rcases List.mem_cons.mp hw with rfl | hw
    · exact hC.2.2.2.1 _ kc
    · exact hC.2.2.2.1 _ hw
  refine sg_after (pc := pc) (rest := rest) (va_runS (As := As) (rest := rest) (Ts := sg_ws y' cc' nL' ret') (nL := nL) ⟨hC.1, hC.2.1, hC.2.2.2.2.2.1, hC.2.2.1, hts⟩ (hM H.size) ⟨callB_of (Ts := sg_ws y' cc' nL' ret') n hts (sg_goodIn kc) rfl rfl rfl (hC.2.2.2.1 _ ki) (hC.2.2.2.1 _ kl) kd ⟨hd, ?_⟩, hC.2.2.2.1 _ kv⟩ ⟨sg_blind, fun U hU hW2 => ⟨rfl, by rw [hU], by rw [hU]; exact hP, va_K.moved hW2.alike hC.2.2.2.2.1, hD.weaken (fun _ _ _ _ => trivial)⟩⟩ rfl hlen hl.1 rfl (lv_room hW) hdg ⟨Nat.zero_le _, Nat.zero_le _⟩) hC hl hP hD hS k
  show 8 + (nL' + 11) + 64 * d' ≤ 64 * d
  omega
end SGC
/-! guards, binds -/
def sg_in (i : Int32) (n : Nat) : Bool := decide (¬ i < 0) && decide (i.toNatClampNeg < n)
theorem sg_in_vp {i : Int32} {n : Nat} (h : sg_in i n = true) : vp_in i n := by
  simp only [sg_in, Bool.and_eq_true, decide_eq_true_eq] at h
  intro q
  rcases q with q | q
  · exact h.1 q
  · omega
theorem sg_guard {α : Type} {b : Bool} {t : Option α} {r : α} (h : (if b = true then t else none) = some r) : b = true ∧ t = some r := by
  cases b
  · cases h
  · exact ⟨rfl, h⟩
theorem sg_bind {α β : Type} {a : Option α} {f : α → Option β} {r : β} (h : a.bind f = some r) : ∃ x, a = some x ∧ f x = some r := by
  cases a with
  | none => cases h
  | some x => exact ⟨x, rfl, h⟩
def sg_s (z : sg_M) (k : Nat) (x : Int32) : sg_M := (fun j => if j = k then x else z.1 j, z.2)
def sg_a (z : sg_M) (k : Nat) (f : Nat → Int32) : sg_M := (z.1, fun j => if j = k then f else z.2 j)
def sg_w (z : sg_M) (k : Nat) (i x : Int32) : sg_M := sg_a z k (upd (z.2 k) i.toNatClampNeg x)
def sg_cp (z : sg_M) (src dst : Nat) (sp dp n : Int32) : sg_M := sg_a z dst (va_cpy (z.2 src) (z.2 dst) sp.toNatClampNeg dp.toNatClampNeg n.toNatClampNeg)
def sg_cpin (sp dp n : Int32) (n0 n1 : Nat) : Bool := decide (¬ sp < 0) && decide (¬ dp < 0) && decide (¬ n < 0) && decide (sp.toNatClampNeg + n.toNatClampNeg ≤ n0) && decide (dp.toNatClampNeg + n.toNatClampNeg ≤ n1)
theorem sg_cp_of {sp dp n : Int32} {n0 n1 : Nat} (h : sg_cpin sp dp n n0 n1 = true) : ¬ sp < 0 ∧ ¬ dp < 0 ∧ ¬ n < 0 ∧ sp.toNatClampNeg + n.toNatClampNeg ≤ n0 ∧ dp.toNatClampNeg + n.toNatClampNeg ≤ n1 := by
  simpa [sg_cpin, and_assoc] using h
theorem sg_nb {c : Prop} [Decidable c] : narrow .boolean (.int (if c then 1 else 0)) = .int (if c then 1 else 0) := by split <;> rfl
theorem sg_nb' {c : Prop} [Decidable c] : narrow .boolean (.int (if c then 0 else 1)) = .int (if c then 0 else 1) := by split <;> rfl
def sg_bool (v : Int32) : Bool := decide (v = 0) || decide (v = 1)
theorem sg_bool_n {v : Int32} (h : sg_bool v = true) : narrow .boolean (.int v) = .int v := by
  simp only [sg_bool, Bool.or_eq_true, decide_eq_true_eq] at h
  rcases h with rfl | rfl <;> rfl
end
section
def sg_let {α β : Type} (a : α) (f : α → β) : β := f a
theorem sg_letE {α β : Type} {a : α} {f : α → β} {r : β} (h : sg_let a f = r) : ∃ x, x = a ∧ f x = r := ⟨a, rfl, h⟩
theorem sg_letJ {α β : Type} {a : α} {f : α → β} {r : β} (h : sg_let a f = r) : ∃ x, a = x ∧ f x = r := ⟨a, rfl, h⟩
theorem sg_ifp {α : Type} {c : Prop} [Decidable c] {a b r : α} (hc : c) (h : (if c then a else b) = r) : a = r := by rw [if_pos hc] at h; exact h
theorem sg_ifn {α : Type} {c : Prop} [Decidable c] {a b r : α} (hc : ¬ c) (h : (if c then a else b) = r) : b = r := by rw [if_neg hc] at h; exact h
theorem sg_nz {α : Type} {c : Prop} [Decidable c] {t : Option α} {r : α} (h : (if c then none else t) = some r) : ¬ c ∧ t = some r := by
  by_cases hc : c
  · rw [if_pos hc] at h; cases h
  · rw [if_neg hc] at h; exact ⟨hc, h⟩
section SGT
variable {E : sg_E} {y : MethodName} {cc : ByteArray} {nL : Nat} {ret : Option FieldType} {d pc pn : Nat} {lv : List (Nat × Value)} {st : List Value} {z : sg_M} {Q : Option Value → sg_M → Prop}
theorem sg_topi {x v : Int32} (e : v = x) (k : sg_G E y cc nL ret d pc lv (.int v :: st) z Q) : sg_G E y cc nL ret d pc lv (.int x :: st) z Q := e ▸ k
theorem sg_topl {x v : Int64} (e : v = x) (k : sg_G E y cc nL ret d pc lv (.long v :: st) z Q) : sg_G E y cc nL ret d pc lv (.long x :: st) z Q := e ▸ k
theorem sg_zE {z2 : sg_M} (e : z2 = z) (k : sg_G E y cc nL ret d pc lv st z2 Q) : sg_G E y cc nL ret d pc lv st z Q := e ▸ k
theorem sg_callVi {y' : MethodName} {cc' : ByteArray} {nL' n ix d' : Nat} {ret' : Option FieldType} {As rest : List Value} {z1 : sg_M} {r : Int32} {a ci : Nat} {fs : List Value} (q0 : Nat) (hdg : decode cc pc = .ok (.invokevirtual ix, 3)) (hn : pc + 3 = pn) (kw : sg_kB y.cls ix y' cc' nL' ret' n) (kv : Cond.instanceMethod y' ∈ sg_tbl ∧ Cond.selects y'.cls y' y' ∈ sg_tbl) (he : (E.2.2.2 z)[q0]? = some (a, .inr (ci, fs))) (hc : (vwCl[ci]?).map (fun q => q.1) = some y'.cls) (hd : d' + 1 ≤ d) (hM : sg_Met E y' cc' nL' ret' d' (.ref a :: As) z (sg_is (some (.int r)) z1)) (hlen : As.length = n) (hst : st = As.reverse ++ .ref a :: rest) (hW : (rest.map fun v => v.category).sum ≤ 8) (k : sg_G E y cc nL ret d pn lv (.int r :: rest) z1 Q) : sg_G E y cc nL ret d pc lv st z Q := sg_callV q0 hdg hn kw kv he hc hd hM hlen hst hW k
theorem sg_callSi {y' : MethodName} {cc' : ByteArray} {nL' n ix d' : Nat} {ret' : Option FieldType} {As rest : List Value} {z1 : sg_M} {r : Int32} (hdg : decode cc pc = .ok (.invokestatic ix, 3)) (hn : pc + 3 = pn) (kw : sg_kB y.cls ix y' cc' nL' ret' n) (kv : Cond.static y' ∈ sg_tbl) (hd : d' + 1 ≤ d) (hM : sg_Met E y' cc' nL' ret' d' As z (sg_is (some (.int r)) z1)) (hlen : As.length = n) (hst : st = As.reverse ++ rest) (hW : (rest.map fun v => v.category).sum ≤ 8) (k : sg_G E y cc nL ret d pn lv (.int r :: rest) z1 Q) : sg_G E y cc nL ret d pc lv st z Q := sg_callS hdg hn kw kv hd hM hlen hst hW k
theorem sg_callVv {y' : MethodName} {cc' : ByteArray} {nL' n ix d' : Nat} {ret' : Option FieldType} {As rest : List Value} {z1 : sg_M} {a ci : Nat} {fs : List Value} (q0 : Nat) (hdg : decode cc pc = .ok (.invokevirtual ix, 3)) (hn : pc + 3 = pn) (kw : sg_kB y.cls ix y' cc' nL' ret' n) (kv : Cond.instanceMethod y' ∈ sg_tbl ∧ Cond.selects y'.cls y' y' ∈ sg_tbl) (he : (E.2.2.2 z)[q0]? = some (a, .inr (ci, fs))) (hc : (vwCl[ci]?).map (fun q => q.1) = some y'.cls) (hd : d' + 1 ≤ d) (hM : sg_Met E y' cc' nL' ret' d' (.ref a :: As) z (sg_is none z1)) (hlen : As.length = n) (hst : st = As.reverse ++ .ref a :: rest) (hW : (rest.map fun v => v.category).sum ≤ 8) (k : sg_G E y cc nL ret d pn lv (rest) z1 Q) : sg_G E y cc nL ret d pc lv st z Q := sg_callV q0 hdg hn kw kv he hc hd hM hlen hst hW k
theorem sg_callSv {y' : MethodName} {cc' : ByteArray} {nL' n ix d' : Nat} {ret' : Option FieldType} {As rest : List Value} {z1 : sg_M} (hdg : decode cc pc = .ok (.invokestatic ix, 3)) (hn : pc + 3 = pn) (kw : sg_kB y.cls ix y' cc' nL' ret' n) (kv : Cond.static y' ∈ sg_tbl) (hd : d' + 1 ≤ d) (hM : sg_Met E y' cc' nL' ret' d' As z (sg_is none z1)) (hlen : As.length = n) (hst : st = As.reverse ++ rest) (hW : (rest.map fun v => v.category).sum ≤ 8) (k : sg_G E y cc nL ret d pn lv (rest) z1 Q) : sg_G E y cc nL ret d pc lv st z Q := sg_callS hdg hn kw kv hd hM hlen hst hW k
theorem sg_callVa {y' : MethodName} {cc' : ByteArray} {nL' n ix d' : Nat} {ret' : Option FieldType} {As rest : List Value} {z1 : sg_M} {r : Nat} {a ci : Nat} {fs : List Value} (q0 : Nat) (hdg : decode cc pc = .ok (.invokevirtual ix, 3)) (hn : pc + 3 = pn) (kw : sg_kB y.cls ix y' cc' nL' ret' n) (kv : Cond.instanceMethod y' ∈ sg_tbl ∧ Cond.selects y'.cls y' y' ∈ sg_tbl) (he : (E.2.2.2 z)[q0]? = some (a, .inr (ci, fs))) (hc : (vwCl[ci]?).map (fun q => q.1) = some y'.cls) (hd : d' + 1 ≤ d) (hM : sg_Met E y' cc' nL' ret' d' (.ref a :: As) z (sg_is (some (.ref r)) z1)) (hlen : As.length = n) (hst : st = As.reverse ++ .ref a :: rest) (hW : (rest.map fun v => v.category).sum ≤ 8) (k : sg_G E y cc nL ret d pn lv (.ref r :: rest) z1 Q) : sg_G E y cc nL ret d pc lv st z Q := sg_callV q0 hdg hn kw kv he hc hd hM hlen hst hW k
theorem sg_callSa {y' : MethodName} {cc' : ByteArray} {nL' n ix d' : Nat} {ret' : Option FieldType} {As rest : List Value} {z1 : sg_M} {r : Nat} (hdg : decode cc pc = .ok (.invokestatic ix, 3)) (hn : pc + 3 = pn) (kw : sg_kB y.cls ix y' cc' nL' ret' n) (kv : Cond.static y' ∈ sg_tbl) (hd : d' + 1 ≤ d) (hM : sg_Met E y' cc' nL' ret' d' As z (sg_is (some (.ref r)) z1)) (hlen : As.length = n) (hst : st = As.reverse ++ rest) (hW : (rest.map fun v => v.category).sum ≤ 8) (k : sg_G E y cc nL ret d pn lv (.ref r :: rest) z1 Q) : sg_G E y cc nL ret d pc lv st z Q := sg_callS hdg hn kw kv hd hM hlen hst hW k
end SGT
theorem pn_J6 : plainName RJ6 = true := by decide +kernel
theorem pn_J7 : plainName RJ7 = true := by decide +kernel
theorem pn_X0 : plainName RX0 = true := by decide +kernel
theorem pn_X1 : plainName RX1 = true := by decide +kernel
theorem pn_X10 : plainName RX10 = true := by decide +kernel
theorem pn_X11 : plainName RX11 = true := by decide +kernel
theorem pn_X12 : plainName RX12 = true := by decide +kernel
theorem pn_X2 : plainName RX2 = true := by decide +kernel
theorem pn_X3 : plainName RX3 = true := by decide +kernel
theorem pn_X4 : plainName RX4 = true := by decide +kernel
theorem pn_X5 : plainName RX5 = true := by decide +kernel
theorem pn_X6 : plainName RX6 = true := by decide +kernel
theorem pn_X7 : plainName RX7 = true := by decide +kernel
theorem pn_X8 : plainName RX8 = true := by decide +kernel
theorem pn_X9 : plainName RX9 = true := by decide +kernel
theorem inX_X0 : ∀ w ∈ u_ws RX0 TX0 3, w ∈ sg_tbl := by decide +kernel
theorem inX_X1 : ∀ w ∈ u_ws RX1 TX1 7, w ∈ sg_tbl := by decide +kernel
theorem inX_X10 : ∀ w ∈ u_ws RX10 TX10 5, w ∈ sg_tbl := by decide +kernel
theorem inX_X11 : ∀ w ∈ u_ws RX11 TX11 12, w ∈ sg_tbl := by decide +kernel
theorem inX_X12 : ∀ w ∈ u_ws RX12 TX12 36, w ∈ sg_tbl := by decide +kernel
theorem inX_X2 : ∀ w ∈ u_ws RX2 TX2 2, w ∈ sg_tbl := by decide +kernel
theorem inX_X3 : ∀ w ∈ u_ws RX3 TX3 5, w ∈ sg_tbl := by decide +kernel
theorem inX_X4 : ∀ w ∈ u_ws RX4 TX4 5, w ∈ sg_tbl := by decide +kernel
theorem inX_X5 : ∀ w ∈ u_ws RX5 TX5 7, w ∈ sg_tbl := by decide +kernel
theorem inX_X6 : ∀ w ∈ u_ws RX6 TX6 8, w ∈ sg_tbl := by decide +kernel
theorem inX_X7 : ∀ w ∈ u_ws RX7 TX7 3, w ∈ sg_tbl := by decide +kernel
theorem inX_X8 : ∀ w ∈ u_ws RX8 TX8 9, w ∈ sg_tbl := by decide +kernel
theorem inX_X9 : ∀ w ∈ u_ws RX9 TX9 2, w ∈ sg_tbl := by decide +kernel
theorem ib_m60 : (Int8.ofInt (-60)).toInt32 = (-60 : Int32) := by decide
theorem ib_m10 : (Int8.ofInt (-10)).toInt32 = (-10 : Int32) := by decide
theorem ib_6 : (Int8.ofInt (6)).toInt32 = (6 : Int32) := by decide
theorem ib_8 : (Int8.ofInt (8)).toInt32 = (8 : Int32) := by decide
theorem ib_9 : (Int8.ofInt (9)).toInt32 = (9 : Int32) := by decide
theorem ib_10 : (Int8.ofInt (10)).toInt32 = (10 : Int32) := by decide
theorem ib_12 : (Int8.ofInt (12)).toInt32 = (12 : Int32) := by decide
theorem ib_15 : (Int8.ofInt (15)).toInt32 = (15 : Int32) := by decide
theorem ib_16 : (Int8.ofInt (16)).toInt32 = (16 : Int32) := by decide
theorem ib_20 : (Int8.ofInt (20)).toInt32 = (20 : Int32) := by decide
theorem ib_21 : (Int8.ofInt (21)).toInt32 = (21 : Int32) := by decide
theorem ib_30 : (Int8.ofInt (30)).toInt32 = (30 : Int32) := by decide
theorem ib_31 : (Int8.ofInt (31)).toInt32 = (31 : Int32) := by decide
theorem ib_32 : (Int8.ofInt (32)).toInt32 = (32 : Int32) := by decide
theorem ib_40 : (Int8.ofInt (40)).toInt32 = (40 : Int32) := by decide
theorem ib_44 : (Int8.ofInt (44)).toInt32 = (44 : Int32) := by decide
theorem ib_48 : (Int8.ofInt (48)).toInt32 = (48 : Int32) := by decide
theorem ib_57 : (Int8.ofInt (57)).toInt32 = (57 : Int32) := by decide
theorem ib_59 : (Int8.ofInt (59)).toInt32 = (59 : Int32) := by decide
theorem ib_60 : (Int8.ofInt (60)).toInt32 = (60 : Int32) := by decide
theorem ib_63 : (Int8.ofInt (63)).toInt32 = (63 : Int32) := by decide
theorem ib_80 : (Int8.ofInt (80)).toInt32 = (80 : Int32) := by decide
theorem ib_88 : (Int8.ofInt (88)).toInt32 = (88 : Int32) := by decide
theorem ib_96 : (Int8.ofInt (96)).toInt32 = (96 : Int32) := by decide
theorem ib_99 : (Int8.ofInt (99)).toInt32 = (99 : Int32) := by decide
theorem ib_100 : (Int8.ofInt (100)).toInt32 = (100 : Int32) := by decide
theorem ib_104 : (Int8.ofInt (104)).toInt32 = (104 : Int32) := by decide
theorem ib_105 : (Int8.ofInt (105)).toInt32 = (105 : Int32) := by decide
theorem ib_106 : (Int8.ofInt (106)).toInt32 = (106 : Int32) := by decide
theorem ib_107 : (Int8.ofInt (107)).toInt32 = (107 : Int32) := by decide
theorem ib_114 : (Int8.ofInt (114)).toInt32 = (114 : Int32) := by decide
theorem ib_119 : (Int8.ofInt (119)).toInt32 = (119 : Int32) := by decide
theorem ic_m1 : Int32.ofInt (-1) = (-1 : Int32) := by decide
theorem ic_0 : Int32.ofInt (0) = (0 : Int32) := by decide
theorem ic_1 : Int32.ofInt (1) = (1 : Int32) := by decide
theorem ic_2 : Int32.ofInt (2) = (2 : Int32) := by decide
theorem ic_3 : Int32.ofInt (3) = (3 : Int32) := by decide
theorem ic_4 : Int32.ofInt (4) = (4 : Int32) := by decide
theorem ic_5 : Int32.ofInt (5) = (5 : Int32) := by decide
theorem ii_1 (x : Int32) : x + Int32.ofInt (1) = x + (1 : Int32) := rfl
theorem lc_0 : Int64.ofNat ((0 : Fin 2) : Nat) = (0 : Int64) := by decide
theorem lc_1 : Int64.ofNat ((1 : Fin 2) : Nat) = (1 : Int64) := by decide
theorem is_240 : (Int16.ofInt (240)).toInt32 = (240 : Int32) := by decide
theorem is_255 : (Int16.ofInt (255)).toInt32 = (255 : Int32) := by decide
theorem is_1696 : (Int16.ofInt (1696)).toInt32 = (1696 : Int32) := by decide
theorem is_9000 : (Int16.ofInt (9000)).toInt32 = (9000 : Int32) := by decide
theorem is_9999 : (Int16.ofInt (9999)).toInt32 = (9999 : Int32) := by decide
theorem is_10000 : (Int16.ofInt (10000)).toInt32 = (10000 : Int32) := by decide
theorem kc_J6_265 : Cond.constant RJ6 265 (1431655765) ∈ sg_tbl := sg_mem (i := 803) (by decide +kernel) (by decide +kernel)
theorem kc_J6_266 : Cond.constant RJ6 266 (858993459) ∈ sg_tbl := sg_mem (i := 804) (by decide +kernel) (by decide +kernel)
theorem kc_J6_267 : Cond.constant RJ6 267 (252645135) ∈ sg_tbl := sg_mem (i := 805) (by decide +kernel) (by decide +kernel)
theorem kc_X11_104 : Cond.constant RX11 104 (-1000000004) ∈ sg_tbl := sg_mem (i := 455) (by decide +kernel) (by decide +kernel)
theorem kc_X11_171 : Cond.constant RX11 171 (-1000000001) ∈ sg_tbl := sg_mem (i := 611) (by decide +kernel) (by decide +kernel)
theorem kc_X11_216 : Cond.constant RX11 216 (-1000000003) ∈ sg_tbl := sg_mem (i := 635) (by decide +kernel) (by decide +kernel)
theorem kc_X11_349 : Cond.constant RX11 349 (65536) ∈ sg_tbl := sg_mem (i := 720) (by decide +kernel) (by decide +kernel)
theorem kc_X11_99 : Cond.constant RX11 99 (-1000000002) ∈ sg_tbl := sg_mem (i := 454) (by decide +kernel) (by decide +kernel)
theorem kc_X12_193 : Cond.constant RX12 193 (1000000) ∈ sg_tbl := sg_mem (i := 1166) (by decide +kernel) (by decide +kernel)
theorem kc_X12_225 : Cond.constant RX12 225 (-1000000001) ∈ sg_tbl := sg_mem (i := 1190) (by decide +kernel) (by decide +kernel)
theorem kc_X12_232 : Cond.constant RX12 232 (-1000000003) ∈ sg_tbl := sg_mem (i := 1211) (by decide +kernel) (by decide +kernel)
theorem kc_X12_265 : Cond.constant RX12 265 (65536) ∈ sg_tbl := sg_mem (i := 1277) (by decide +kernel) (by decide +kernel)
theorem kc_X12_90 : Cond.constant RX12 90 (-1000000002) ∈ sg_tbl := sg_mem (i := 1056) (by decide +kernel) (by decide +kernel)
theorem kc_X12_94 : Cond.constant RX12 94 (-1000000004) ∈ sg_tbl := sg_mem (i := 1057) (by decide +kernel) (by decide +kernel)
theorem kl_X11_297 : Cond.constantLong RX11 297 (1000000000) ∈ sg_tbl := sg_mem (i := 840) (by decide +kernel) (by decide +kernel)
theorem kl_X11_299 : Cond.constantLong RX11 299 (100) ∈ sg_tbl := sg_mem (i := 841) (by decide +kernel) (by decide +kernel)
theorem kl_X11_343 : Cond.constantLong RX11 343 (1103515245) ∈ sg_tbl := sg_mem (i := 717) (by decide +kernel) (by decide +kernel)
theorem kl_X11_345 : Cond.constantLong RX11 345 (12345) ∈ sg_tbl := sg_mem (i := 718) (by decide +kernel) (by decide +kernel)
theorem kl_X11_347 : Cond.constantLong RX11 347 (2147483647) ∈ sg_tbl := sg_mem (i := 719) (by decide +kernel) (by decide +kernel)
theorem kl_X12_102 : Cond.constantLong RX12 102 (48) ∈ sg_tbl := sg_mem (i := 1086) (by decide +kernel) (by decide +kernel)
theorem kl_X12_104 : Cond.constantLong RX12 104 (57) ∈ sg_tbl := sg_mem (i := 1087) (by decide +kernel) (by decide +kernel)
theorem kl_X12_242 : Cond.constantLong RX12 242 (60) ∈ sg_tbl := sg_mem (i := 1236) (by decide +kernel) (by decide +kernel)
theorem kl_X12_250 : Cond.constantLong RX12 250 (-60) ∈ sg_tbl := sg_mem (i := 1245) (by decide +kernel) (by decide +kernel)
theorem kl_X12_259 : Cond.constantLong RX12 259 (1103515245) ∈ sg_tbl := sg_mem (i := 1274) (by decide +kernel) (by decide +kernel)
theorem kl_X12_261 : Cond.constantLong RX12 261 (12345) ∈ sg_tbl := sg_mem (i := 1275) (by decide +kernel) (by decide +kernel)
theorem kl_X12_263 : Cond.constantLong RX12 263 (2147483648) ∈ sg_tbl := sg_mem (i := 1276) (by decide +kernel) (by decide +kernel)
theorem kl_X12_272 : Cond.constantLong RX12 272 (100) ∈ sg_tbl := sg_mem (i := 1286) (by decide +kernel) (by decide +kernel)
theorem kl_X12_274 : Cond.constantLong RX12 274 (2) ∈ sg_tbl := sg_mem (i := 1295) (by decide +kernel) (by decide +kernel)
theorem kl_X12_288 : Cond.constantLong RX12 288 (9) ∈ sg_tbl := sg_mem (i := 1331) (by decide +kernel) (by decide +kernel)
theorem kl_X12_290 : Cond.constantLong RX12 290 (1000000000) ∈ sg_tbl := sg_mem (i := 1336) (by decide +kernel) (by decide +kernel)
theorem kl_X12_301 : Cond.constantLong RX12 301 (-1) ∈ sg_tbl := sg_mem (i := 1362) (by decide +kernel) (by decide +kernel)
theorem kl_X12_303 : Cond.constantLong RX12 303 (9999) ∈ sg_tbl := sg_mem (i := 1363) (by decide +kernel) (by decide +kernel)
theorem kl_X12_88 : Cond.constantLong RX12 88 (255) ∈ sg_tbl := sg_mem (i := 1052) (by decide +kernel) (by decide +kernel)
theorem ks_J6_bitCount_0f7a4 : Cond.static yJ6_bitCount_0f7a4 ∈ sg_tbl := sg_mem (i := 801) (by decide +kernel) (by decide +kernel)
theorem ks_J7_fill_53178 : Cond.static yJ7_fill_53178 ∈ sg_tbl := sg_mem (i := 408) (by decide +kernel) (by decide +kernel)
theorem ks_X12_bits : Cond.static yX12_bits ∈ sg_tbl := sg_mem (i := 1317) (by decide +kernel) (by decide +kernel)
theorem ks_X12_copyRow : Cond.static yX12_copyRow ∈ sg_tbl := sg_mem (i := 1101) (by decide +kernel) (by decide +kernel)
theorem ks_X12_has : Cond.static yX12_has ∈ sg_tbl := sg_mem (i := 1168) (by decide +kernel) (by decide +kernel)
theorem ks_X12_in : Cond.static yX12_in ∈ sg_tbl := sg_mem (i := 1054) (by decide +kernel) (by decide +kernel)
theorem ks_X12_notBelow : Cond.static yX12_notBelow ∈ sg_tbl := sg_mem (i := 1152) (by decide +kernel) (by decide +kernel)
theorem kv_X0_append : Cond.instanceMethod yX0_append ∈ sg_tbl ∧ Cond.selects yX0_append.cls yX0_append yX0_append ∈ sg_tbl := ⟨sg_mem (i := 851) (by decide +kernel) (by decide +kernel), sg_mem (i := 852) (by decide +kernel) (by decide +kernel)⟩
theorem kv_X0_isFull : Cond.instanceMethod yX0_isFull ∈ sg_tbl ∧ Cond.selects yX0_isFull.cls yX0_isFull yX0_isFull ∈ sg_tbl := ⟨sg_mem (i := 847) (by decide +kernel) (by decide +kernel), sg_mem (i := 848) (by decide +kernel) (by decide +kernel)⟩
theorem kv_X10_gravelAhead : Cond.instanceMethod yX10_gravelAhead ∈ sg_tbl ∧ Cond.selects yX10_gravelAhead.cls yX10_gravelAhead yX10_gravelAhead ∈ sg_tbl := ⟨sg_mem (i := 774) (by decide +kernel) (by decide +kernel), sg_mem (i := 775) (by decide +kernel) (by decide +kernel)⟩
theorem kv_X10_greatestNeedAt : Cond.instanceMethod yX10_greatestNeedAt ∈ sg_tbl ∧ Cond.selects yX10_greatestNeedAt.cls yX10_greatestNeedAt yX10_greatestNeedAt ∈ sg_tbl := ⟨sg_mem (i := 779) (by decide +kernel) (by decide +kernel), sg_mem (i := 14) (by decide +kernel) (by decide +kernel)⟩
theorem kv_X10_loadsFor : Cond.instanceMethod yX10_loadsFor ∈ sg_tbl ∧ Cond.selects yX10_loadsFor.cls yX10_loadsFor yX10_loadsFor ∈ sg_tbl := ⟨sg_mem (i := 752) (by decide +kernel) (by decide +kernel), sg_mem (i := 753) (by decide +kernel) (by decide +kernel)⟩
theorem kv_X10_needAt : Cond.instanceMethod yX10_needAt ∈ sg_tbl ∧ Cond.selects yX10_needAt.cls yX10_needAt yX10_needAt ∈ sg_tbl := ⟨sg_mem (i := 783) (by decide +kernel) (by decide +kernel), sg_mem (i := 15) (by decide +kernel) (by decide +kernel)⟩
theorem kv_X10_soonestAt : Cond.instanceMethod yX10_soonestAt ∈ sg_tbl ∧ Cond.selects yX10_soonestAt.cls yX10_soonestAt yX10_soonestAt ∈ sg_tbl := ⟨sg_mem (i := 744) (by decide +kernel) (by decide +kernel), sg_mem (i := 745) (by decide +kernel) (by decide +kernel)⟩
theorem kv_X10_stopper : Cond.instanceMethod yX10_stopper ∈ sg_tbl ∧ Cond.selects yX10_stopper.cls yX10_stopper yX10_stopper ∈ sg_tbl := ⟨sg_mem (i := 548) (by decide +kernel) (by decide +kernel), sg_mem (i := 549) (by decide +kernel) (by decide +kernel)⟩
theorem kv_X11_doByDraw : Cond.instanceMethod yX11_doByDraw ∈ sg_tbl ∧ Cond.selects yX11_doByDraw.cls yX11_doByDraw yX11_doByDraw ∈ sg_tbl := ⟨sg_mem (i := 711) (by decide +kernel) (by decide +kernel), sg_mem (i := 12) (by decide +kernel) (by decide +kernel)⟩
theorem kv_X11_drawOf : Cond.instanceMethod yX11_drawOf ∈ sg_tbl ∧ Cond.selects yX11_drawOf.cls yX11_drawOf yX11_drawOf ∈ sg_tbl := ⟨sg_mem (i := 715) (by decide +kernel) (by decide +kernel), sg_mem (i := 13) (by decide +kernel) (by decide +kernel)⟩
theorem kv_X11_refusalOfDays : Cond.instanceMethod yX11_refusalOfDays ∈ sg_tbl ∧ Cond.selects yX11_refusalOfDays.cls yX11_refusalOfDays yX11_refusalOfDays ∈ sg_tbl := ⟨sg_mem (i := 674) (by decide +kernel) (by decide +kernel), sg_mem (i := 11) (by decide +kernel) (by decide +kernel)⟩
theorem kv_X12_allFolk : Cond.instanceMethod yX12_allFolk ∈ sg_tbl ∧ Cond.selects yX12_allFolk.cls yX12_allFolk yX12_allFolk ∈ sg_tbl := ⟨sg_mem (i := 1180) (by decide +kernel) (by decide +kernel), sg_mem (i := 43) (by decide +kernel) (by decide +kernel)⟩
theorem kv_X12_biggest : Cond.instanceMethod yX12_biggest ∈ sg_tbl ∧ Cond.selects yX12_biggest.cls yX12_biggest yX12_biggest ∈ sg_tbl := ⟨sg_mem (i := 1176) (by decide +kernel) (by decide +kernel), sg_mem (i := 42) (by decide +kernel) (by decide +kernel)⟩
theorem kv_X12_cell : Cond.instanceMethod yX12_cell ∈ sg_tbl ∧ Cond.selects yX12_cell.cls yX12_cell yX12_cell ∈ sg_tbl := ⟨sg_mem (i := 1183) (by decide +kernel) (by decide +kernel), sg_mem (i := 1184) (by decide +kernel) (by decide +kernel)⟩
theorem kv_X12_chance : Cond.instanceMethod yX12_chance ∈ sg_tbl ∧ Cond.selects yX12_chance.cls yX12_chance yX12_chance ∈ sg_tbl := ⟨sg_mem (i := 1268) (by decide +kernel) (by decide +kernel), sg_mem (i := 53) (by decide +kernel) (by decide +kernel)⟩
theorem kv_X12_couldBe : Cond.instanceMethod yX12_couldBe ∈ sg_tbl ∧ Cond.selects yX12_couldBe.cls yX12_couldBe yX12_couldBe ∈ sg_tbl := ⟨sg_mem (i := 1347) (by decide +kernel) (by decide +kernel), sg_mem (i := 58) (by decide +kernel) (by decide +kernel)⟩
theorem kv_X12_daysRefused : Cond.instanceMethod yX12_daysRefused ∈ sg_tbl ∧ Cond.selects yX12_daysRefused.cls yX12_daysRefused yX12_daysRefused ∈ sg_tbl := ⟨sg_mem (i := 1234) (by decide +kernel) (by decide +kernel), sg_mem (i := 50) (by decide +kernel) (by decide +kernel)⟩
theorem kv_X12_distanceTo : Cond.instanceMethod yX12_distanceTo ∈ sg_tbl ∧ Cond.selects yX12_distanceTo.cls yX12_distanceTo yX12_distanceTo ∈ sg_tbl := ⟨sg_mem (i := 1164) (by decide +kernel) (by decide +kernel), sg_mem (i := 40) (by decide +kernel) (by decide +kernel)⟩
theorem kv_X12_draw : Cond.instanceMethod yX12_draw ∈ sg_tbl ∧ Cond.selects yX12_draw.cls yX12_draw yX12_draw ∈ sg_tbl := ⟨sg_mem (i := 1272) (by decide +kernel) (by decide +kernel), sg_mem (i := 54) (by decide +kernel) (by decide +kernel)⟩
theorem kv_X12_driveNow : Cond.instanceMethod yX12_driveNow ∈ sg_tbl ∧ Cond.selects yX12_driveNow.cls yX12_driveNow yX12_driveNow ∈ sg_tbl := ⟨sg_mem (i := 1218) (by decide +kernel) (by decide +kernel), sg_mem (i := 48) (by decide +kernel) (by decide +kernel)⟩
theorem kv_X12_fails : Cond.instanceMethod yX12_fails ∈ sg_tbl ∧ Cond.selects yX12_fails.cls yX12_fails yX12_fails ∈ sg_tbl := ⟨sg_mem (i := 1072) (by decide +kernel) (by decide +kernel), sg_mem (i := 21) (by decide +kernel) (by decide +kernel)⟩
theorem kv_X12_farOf : Cond.instanceMethod yX12_farOf ∈ sg_tbl ∧ Cond.selects yX12_farOf.cls yX12_farOf yX12_farOf ∈ sg_tbl := ⟨sg_mem (i := 1160) (by decide +kernel) (by decide +kernel), sg_mem (i := 39) (by decide +kernel) (by decide +kernel)⟩
theorem kv_X12_foundedBy : Cond.instanceMethod yX12_foundedBy ∈ sg_tbl ∧ Cond.selects yX12_foundedBy.cls yX12_foundedBy yX12_foundedBy ∈ sg_tbl := ⟨sg_mem (i := 1321) (by decide +kernel) (by decide +kernel), sg_mem (i := 57) (by decide +kernel) (by decide +kernel)⟩
theorem kv_X12_greatestPart : Cond.instanceMethod yX12_greatestPart ∈ sg_tbl ∧ Cond.selects yX12_greatestPart.cls yX12_greatestPart yX12_greatestPart ∈ sg_tbl := ⟨sg_mem (i := 1356) (by decide +kernel) (by decide +kernel), sg_mem (i := 59) (by decide +kernel) (by decide +kernel)⟩
theorem kv_X12_groundOf : Cond.instanceMethod yX12_groundOf ∈ sg_tbl ∧ Cond.selects yX12_groundOf.cls yX12_groundOf yX12_groundOf ∈ sg_tbl := ⟨sg_mem (i := 1149) (by decide +kernel) (by decide +kernel), sg_mem (i := 37) (by decide +kernel) (by decide +kernel)⟩
theorem kv_X12_here : Cond.instanceMethod yX12_here ∈ sg_tbl ∧ Cond.selects yX12_here.cls yX12_here yX12_here ∈ sg_tbl := ⟨sg_mem (i := 1064) (by decide +kernel) (by decide +kernel), sg_mem (i := 19) (by decide +kernel) (by decide +kernel)⟩
theorem kv_X12_into : Cond.instanceMethod yX12_into ∈ sg_tbl ∧ Cond.selects yX12_into.cls yX12_into yX12_into ∈ sg_tbl := ⟨sg_mem (i := 1080) (by decide +kernel) (by decide +kernel), sg_mem (i := 23) (by decide +kernel) (by decide +kernel)⟩
theorem kv_X12_isCart : Cond.instanceMethod yX12_isCart ∈ sg_tbl ∧ Cond.selects yX12_isCart.cls yX12_isCart yX12_isCart ∈ sg_tbl := ⟨sg_mem (i := 1197) (by decide +kernel) (by decide +kernel), sg_mem (i := 45) (by decide +kernel) (by decide +kernel)⟩
theorem kv_X12_isCell : Cond.instanceMethod yX12_isCell ∈ sg_tbl ∧ Cond.selects yX12_isCell.cls yX12_isCell yX12_isCell ∈ sg_tbl := ⟨sg_mem (i := 1188) (by decide +kernel) (by decide +kernel), sg_mem (i := 44) (by decide +kernel) (by decide +kernel)⟩
theorem kv_X12_isSet : Cond.instanceMethod yX12_isSet ∈ sg_tbl ∧ Cond.selects yX12_isSet.cls yX12_isSet yX12_isSet ∈ sg_tbl := ⟨sg_mem (i := 1310) (by decide +kernel) (by decide +kernel), sg_mem (i := 56) (by decide +kernel) (by decide +kernel)⟩
theorem kv_X12_isTown : Cond.instanceMethod yX12_isTown ∈ sg_tbl ∧ Cond.selects yX12_isTown.cls yX12_isTown yX12_isTown ∈ sg_tbl := ⟨sg_mem (i := 1129) (by decide +kernel) (by decide +kernel), sg_mem (i := 32) (by decide +kernel) (by decide +kernel)⟩
theorem kv_X12_layNow : Cond.instanceMethod yX12_layNow ∈ sg_tbl ∧ Cond.selects yX12_layNow.cls yX12_layNow yX12_layNow ∈ sg_tbl := ⟨sg_mem (i := 1248) (by decide +kernel) (by decide +kernel), sg_mem (i := 52) (by decide +kernel) (by decide +kernel)⟩
theorem kv_X12_longest : Cond.instanceMethod yX12_longest ∈ sg_tbl ∧ Cond.selects yX12_longest.cls yX12_longest yX12_longest ∈ sg_tbl := ⟨sg_mem (i := 1172) (by decide +kernel) (by decide +kernel), sg_mem (i := 41) (by decide +kernel) (by decide +kernel)⟩
theorem kv_X12_mayorOf : Cond.instanceMethod yX12_mayorOf ∈ sg_tbl ∧ Cond.selects yX12_mayorOf.cls yX12_mayorOf yX12_mayorOf ∈ sg_tbl := ⟨sg_mem (i := 1201) (by decide +kernel) (by decide +kernel), sg_mem (i := 46) (by decide +kernel) (by decide +kernel)⟩
theorem kv_X12_needOf : Cond.instanceMethod yX12_needOf ∈ sg_tbl ∧ Cond.selects yX12_needOf.cls yX12_needOf yX12_needOf ∈ sg_tbl := ⟨sg_mem (i := 1302) (by decide +kernel) (by decide +kernel), sg_mem (i := 55) (by decide +kernel) (by decide +kernel)⟩
theorem kv_X12_pass : Cond.instanceMethod yX12_pass ∈ sg_tbl ∧ Cond.selects yX12_pass.cls yX12_pass yX12_pass ∈ sg_tbl := ⟨sg_mem (i := 1239) (by decide +kernel) (by decide +kernel), sg_mem (i := 51) (by decide +kernel) (by decide +kernel)⟩
theorem kv_X12_pullNow : Cond.instanceMethod yX12_pullNow ∈ sg_tbl ∧ Cond.selects yX12_pullNow.cls yX12_pullNow yX12_pullNow ∈ sg_tbl := ⟨sg_mem (i := 1226) (by decide +kernel) (by decide +kernel), sg_mem (i := 49) (by decide +kernel) (by decide +kernel)⟩
theorem kv_X12_rains : Cond.instanceMethod yX12_rains ∈ sg_tbl ∧ Cond.selects yX12_rains.cls yX12_rains yX12_rains ∈ sg_tbl := ⟨sg_mem (i := 1342) (by decide +kernel) (by decide +kernel), sg_mem (i := 1343) (by decide +kernel) (by decide +kernel)⟩
theorem kv_X12_remember : Cond.instanceMethod yX12_remember ∈ sg_tbl ∧ Cond.selects yX12_remember.cls yX12_remember yX12_remember ∈ sg_tbl := ⟨sg_mem (i := 1214) (by decide +kernel) (by decide +kernel), sg_mem (i := 47) (by decide +kernel) (by decide +kernel)⟩
theorem kv_X12_stopBy : Cond.instanceMethod yX12_stopBy ∈ sg_tbl ∧ Cond.selects yX12_stopBy.cls yX12_stopBy yX12_stopBy ∈ sg_tbl := ⟨sg_mem (i := 1145) (by decide +kernel) (by decide +kernel), sg_mem (i := 36) (by decide +kernel) (by decide +kernel)⟩
theorem kv_X12_stopOf : Cond.instanceMethod yX12_stopOf ∈ sg_tbl ∧ Cond.selects yX12_stopOf.cls yX12_stopOf yX12_stopOf ∈ sg_tbl := ⟨sg_mem (i := 1141) (by decide +kernel) (by decide +kernel), sg_mem (i := 35) (by decide +kernel) (by decide +kernel)⟩
theorem kv_X12_stopper : Cond.instanceMethod yX12_stopper ∈ sg_tbl ∧ Cond.selects yX12_stopper.cls yX12_stopper yX12_stopper ∈ sg_tbl := ⟨sg_mem (i := 1137) (by decide +kernel) (by decide +kernel), sg_mem (i := 34) (by decide +kernel) (by decide +kernel)⟩
theorem kv_X12_stuckOnes : Cond.instanceMethod yX12_stuckOnes ∈ sg_tbl ∧ Cond.selects yX12_stuckOnes.cls yX12_stuckOnes yX12_stuckOnes ∈ sg_tbl := ⟨sg_mem (i := 1133) (by decide +kernel) (by decide +kernel), sg_mem (i := 33) (by decide +kernel) (by decide +kernel)⟩
theorem kv_X12_takeCart : Cond.instanceMethod yX12_takeCart ∈ sg_tbl ∧ Cond.selects yX12_takeCart.cls yX12_takeCart yX12_takeCart ∈ sg_tbl := ⟨sg_mem (i := 1094) (by decide +kernel) (by decide +kernel), sg_mem (i := 26) (by decide +kernel) (by decide +kernel)⟩
theorem kv_X12_takeClause : Cond.instanceMethod yX12_takeClause ∈ sg_tbl ∧ Cond.selects yX12_takeClause.cls yX12_takeClause yX12_takeClause ∈ sg_tbl := ⟨sg_mem (i := 1068) (by decide +kernel) (by decide +kernel), sg_mem (i := 20) (by decide +kernel) (by decide +kernel)⟩
theorem kv_X12_takeNumber : Cond.instanceMethod yX12_takeNumber ∈ sg_tbl ∧ Cond.selects yX12_takeNumber.cls yX12_takeNumber yX12_takeNumber ∈ sg_tbl := ⟨sg_mem (i := 1084) (by decide +kernel) (by decide +kernel), sg_mem (i := 24) (by decide +kernel) (by decide +kernel)⟩
theorem kv_X12_takeRead : Cond.instanceMethod yX12_takeRead ∈ sg_tbl ∧ Cond.selects yX12_takeRead.cls yX12_takeRead yX12_takeRead ∈ sg_tbl := ⟨sg_mem (i := 1098) (by decide +kernel) (by decide +kernel), sg_mem (i := 27) (by decide +kernel) (by decide +kernel)⟩
theorem kv_X12_takeRoad : Cond.instanceMethod yX12_takeRoad ∈ sg_tbl ∧ Cond.selects yX12_takeRoad.cls yX12_takeRoad yX12_takeRoad ∈ sg_tbl := ⟨sg_mem (i := 1076) (by decide +kernel) (by decide +kernel), sg_mem (i := 22) (by decide +kernel) (by decide +kernel)⟩
theorem kv_X12_takeWeather : Cond.instanceMethod yX12_takeWeather ∈ sg_tbl ∧ Cond.selects yX12_takeWeather.cls yX12_takeWeather yX12_takeWeather ∈ sg_tbl := ⟨sg_mem (i := 1090) (by decide +kernel) (by decide +kernel), sg_mem (i := 25) (by decide +kernel) (by decide +kernel)⟩
theorem kv_X12_towns : Cond.instanceMethod yX12_towns ∈ sg_tbl ∧ Cond.selects yX12_towns.cls yX12_towns yX12_towns ∈ sg_tbl := ⟨sg_mem (i := 1125) (by decide +kernel) (by decide +kernel), sg_mem (i := 31) (by decide +kernel) (by decide +kernel)⟩
theorem kv_X12_weatherOf : Cond.instanceMethod yX12_weatherOf ∈ sg_tbl ∧ Cond.selects yX12_weatherOf.cls yX12_weatherOf yX12_weatherOf ∈ sg_tbl := ⟨sg_mem (i := 1121) (by decide +kernel) (by decide +kernel), sg_mem (i := 30) (by decide +kernel) (by decide +kernel)⟩
theorem kv_X12_weighs : Cond.instanceMethod yX12_weighs ∈ sg_tbl ∧ Cond.selects yX12_weighs.cls yX12_weighs yX12_weighs ∈ sg_tbl := ⟨sg_mem (i := 1156) (by decide +kernel) (by decide +kernel), sg_mem (i := 38) (by decide +kernel) (by decide +kernel)⟩
theorem kv_X12_wet : Cond.instanceMethod yX12_wet ∈ sg_tbl ∧ Cond.selects yX12_wet.cls yX12_wet yX12_wet ∈ sg_tbl := ⟨sg_mem (i := 1113) (by decide +kernel) (by decide +kernel), sg_mem (i := 28) (by decide +kernel) (by decide +kernel)⟩
theorem kv_X12_wetBehind : Cond.instanceMethod yX12_wetBehind ∈ sg_tbl ∧ Cond.selects yX12_wetBehind.cls yX12_wetBehind yX12_wetBehind ∈ sg_tbl := ⟨sg_mem (i := 1117) (by decide +kernel) (by decide +kernel), sg_mem (i := 29) (by decide +kernel) (by decide +kernel)⟩
theorem kv_X1_bestToSend : Cond.instanceMethod yX1_bestToSend ∈ sg_tbl ∧ Cond.selects yX1_bestToSend.cls yX1_bestToSend yX1_bestToSend ∈ sg_tbl := ⟨sg_mem (i := 876) (by decide +kernel) (by decide +kernel), sg_mem (i := 877) (by decide +kernel) (by decide +kernel)⟩
theorem kv_X1_fittingRains : Cond.instanceMethod yX1_fittingRains ∈ sg_tbl ∧ Cond.selects yX1_fittingRains.cls yX1_fittingRains yX1_fittingRains ∈ sg_tbl := ⟨sg_mem (i := 860) (by decide +kernel) (by decide +kernel), sg_mem (i := 861) (by decide +kernel) (by decide +kernel)⟩
theorem kv_X1_greatestPart : Cond.instanceMethod yX1_greatestPart ∈ sg_tbl ∧ Cond.selects yX1_greatestPart.cls yX1_greatestPart yX1_greatestPart ∈ sg_tbl := ⟨sg_mem (i := 883) (by decide +kernel) (by decide +kernel), sg_mem (i := 18) (by decide +kernel) (by decide +kernel)⟩
theorem kv_X1_isAsHeard : Cond.instanceMethod yX1_isAsHeard ∈ sg_tbl ∧ Cond.selects yX1_isAsHeard.cls yX1_isAsHeard yX1_isAsHeard ∈ sg_tbl := ⟨sg_mem (i := 866) (by decide +kernel) (by decide +kernel), sg_mem (i := 17) (by decide +kernel) (by decide +kernel)⟩
theorem kv_X2_driveOut : Cond.instanceMethod yX2_driveOut ∈ sg_tbl ∧ Cond.selects yX2_driveOut.cls yX2_driveOut yX2_driveOut ∈ sg_tbl := ⟨sg_mem (i := 648) (by decide +kernel) (by decide +kernel), sg_mem (i := 649) (by decide +kernel) (by decide +kernel)⟩
theorem kv_X2_groundFor : Cond.instanceMethod yX2_groundFor ∈ sg_tbl ∧ Cond.selects yX2_groundFor.cls yX2_groundFor yX2_groundFor ∈ sg_tbl := ⟨sg_mem (i := 566) (by decide +kernel) (by decide +kernel), sg_mem (i := 567) (by decide +kernel) (by decide +kernel)⟩
theorem kv_X2_layGravel : Cond.instanceMethod yX2_layGravel ∈ sg_tbl ∧ Cond.selects yX2_layGravel.cls yX2_layGravel yX2_layGravel ∈ sg_tbl := ⟨sg_mem (i := 685) (by decide +kernel) (by decide +kernel), sg_mem (i := 686) (by decide +kernel) (by decide +kernel)⟩
theorem kv_X2_passDay : Cond.instanceMethod yX2_passDay ∈ sg_tbl ∧ Cond.selects yX2_passDay.cls yX2_passDay yX2_passDay ∈ sg_tbl := ⟨sg_mem (i := 677) (by decide +kernel) (by decide +kernel), sg_mem (i := 678) (by decide +kernel) (by decide +kernel)⟩
theorem kv_X2_pullOut : Cond.instanceMethod yX2_pullOut ∈ sg_tbl ∧ Cond.selects yX2_pullOut.cls yX2_pullOut yX2_pullOut ∈ sg_tbl := ⟨sg_mem (i := 663) (by decide +kernel) (by decide +kernel), sg_mem (i := 664) (by decide +kernel) (by decide +kernel)⟩
theorem kv_X2_settle : Cond.instanceMethod yX2_settle ∈ sg_tbl ∧ Cond.selects yX2_settle.cls yX2_settle yX2_settle ∈ sg_tbl := ⟨sg_mem (i := 654) (by decide +kernel) (by decide +kernel), sg_mem (i := 10) (by decide +kernel) (by decide +kernel)⟩
theorem kv_X2_sinkOf : Cond.instanceMethod yX2_sinkOf ∈ sg_tbl ∧ Cond.selects yX2_sinkOf.cls yX2_sinkOf yX2_sinkOf ∈ sg_tbl := ⟨sg_mem (i := 562) (by decide +kernel) (by decide +kernel), sg_mem (i := 563) (by decide +kernel) (by decide +kernel)⟩
theorem kv_X2_stopBehind : Cond.instanceMethod yX2_stopBehind ∈ sg_tbl ∧ Cond.selects yX2_stopBehind.cls yX2_stopBehind yX2_stopBehind ∈ sg_tbl := ⟨sg_mem (i := 553) (by decide +kernel) (by decide +kernel), sg_mem (i := 554) (by decide +kernel) (by decide +kernel)⟩
theorem kv_X2_stopOf : Cond.instanceMethod yX2_stopOf ∈ sg_tbl ∧ Cond.selects yX2_stopOf.cls yX2_stopOf yX2_stopOf ∈ sg_tbl := ⟨sg_mem (i := 558) (by decide +kernel) (by decide +kernel), sg_mem (i := 559) (by decide +kernel) (by decide +kernel)⟩
theorem kv_X2_weightOf : Cond.instanceMethod yX2_weightOf ∈ sg_tbl ∧ Cond.selects yX2_weightOf.cls yX2_weightOf yX2_weightOf ∈ sg_tbl := ⟨sg_mem (i := 570) (by decide +kernel) (by decide +kernel), sg_mem (i := 571) (by decide +kernel) (by decide +kernel)⟩
theorem kv_X2_wetBehind : Cond.instanceMethod yX2_wetBehind ∈ sg_tbl ∧ Cond.selects yX2_wetBehind.cls yX2_wetBehind yX2_wetBehind ∈ sg_tbl := ⟨sg_mem (i := 524) (by decide +kernel) (by decide +kernel), sg_mem (i := 525) (by decide +kernel) (by decide +kernel)⟩
theorem kv_X3_fetchImage : Cond.instanceMethod yX3_fetchImage ∈ sg_tbl ∧ Cond.selects yX3_fetchImage.cls yX3_fetchImage yX3_fetchImage ∈ sg_tbl := ⟨sg_mem (i := 925) (by decide +kernel) (by decide +kernel), sg_mem (i := 926) (by decide +kernel) (by decide +kernel)⟩
theorem kv_X3_forgetAll : Cond.instanceMethod yX3_forgetAll ∈ sg_tbl ∧ Cond.selects yX3_forgetAll.cls yX3_forgetAll yX3_forgetAll ∈ sg_tbl := ⟨sg_mem (i := 511) (by decide +kernel) (by decide +kernel), sg_mem (i := 512) (by decide +kernel) (by decide +kernel)⟩
theorem kv_X3_hasKept : Cond.instanceMethod yX3_hasKept ∈ sg_tbl ∧ Cond.selects yX3_hasKept.cls yX3_hasKept yX3_hasKept ∈ sg_tbl := ⟨sg_mem (i := 921) (by decide +kernel) (by decide +kernel), sg_mem (i := 922) (by decide +kernel) (by decide +kernel)⟩
theorem kv_X3_hasRoomFor : Cond.instanceMethod yX3_hasRoomFor ∈ sg_tbl ∧ Cond.selects yX3_hasRoomFor.cls yX3_hasRoomFor yX3_hasRoomFor ∈ sg_tbl := ⟨sg_mem (i := 908) (by decide +kernel) (by decide +kernel), sg_mem (i := 909) (by decide +kernel) (by decide +kernel)⟩
theorem kv_X3_keepImage : Cond.instanceMethod yX3_keepImage ∈ sg_tbl ∧ Cond.selects yX3_keepImage.cls yX3_keepImage yX3_keepImage ∈ sg_tbl := ⟨sg_mem (i := 912) (by decide +kernel) (by decide +kernel), sg_mem (i := 913) (by decide +kernel) (by decide +kernel)⟩
theorem kv_X3_remember : Cond.instanceMethod yX3_remember ∈ sg_tbl ∧ Cond.selects yX3_remember.cls yX3_remember yX3_remember ∈ sg_tbl := ⟨sg_mem (i := 637) (by decide +kernel) (by decide +kernel), sg_mem (i := 638) (by decide +kernel) (by decide +kernel)⟩
theorem kv_X3_seedOfImage : Cond.instanceMethod yX3_seedOfImage ∈ sg_tbl ∧ Cond.selects yX3_seedOfImage.cls yX3_seedOfImage yX3_seedOfImage ∈ sg_tbl := ⟨sg_mem (i := 930) (by decide +kernel) (by decide +kernel), sg_mem (i := 931) (by decide +kernel) (by decide +kernel)⟩
theorem kv_X3_takeBack : Cond.instanceMethod yX3_takeBack ∈ sg_tbl ∧ Cond.selects yX3_takeBack.cls yX3_takeBack yX3_takeBack ∈ sg_tbl := ⟨sg_mem (i := 726) (by decide +kernel) (by decide +kernel), sg_mem (i := 727) (by decide +kernel) (by decide +kernel)⟩
theorem kv_X4_look : Cond.instanceMethod yX4_look ∈ sg_tbl ∧ Cond.selects yX4_look.cls yX4_look yX4_look ∈ sg_tbl := ⟨sg_mem (i := 807) (by decide +kernel) (by decide +kernel), sg_mem (i := 808) (by decide +kernel) (by decide +kernel)⟩
theorem kv_X4_sendNext : Cond.instanceMethod yX4_sendNext ∈ sg_tbl ∧ Cond.selects yX4_sendNext.cls yX4_sendNext yX4_sendNext ∈ sg_tbl := ⟨sg_mem (i := 813) (by decide +kernel) (by decide +kernel), sg_mem (i := 16) (by decide +kernel) (by decide +kernel)⟩
theorem kv_X5_append : Cond.instanceMethod yX5_append ∈ sg_tbl ∧ Cond.selects yX5_append.cls yX5_append yX5_append ∈ sg_tbl := ⟨sg_mem (i := 457) (by decide +kernel) (by decide +kernel), sg_mem (i := 458) (by decide +kernel) (by decide +kernel)⟩
theorem kv_X5_fail : Cond.instanceMethod yX5_fail ∈ sg_tbl ∧ Cond.selects yX5_fail.cls yX5_fail yX5_fail ∈ sg_tbl := ⟨sg_mem (i := 479) (by decide +kernel) (by decide +kernel), sg_mem (i := 2) (by decide +kernel) (by decide +kernel)⟩
theorem kv_X5_isFigure : Cond.instanceMethod yX5_isFigure ∈ sg_tbl ∧ Cond.selects yX5_isFigure.cls yX5_isFigure yX5_isFigure ∈ sg_tbl := ⟨sg_mem (i := 499) (by decide +kernel) (by decide +kernel), sg_mem (i := 7) (by decide +kernel) (by decide +kernel)⟩
theorem kv_X5_isOneTooMany : Cond.instanceMethod yX5_isOneTooMany ∈ sg_tbl ∧ Cond.selects yX5_isOneTooMany.cls yX5_isOneTooMany yX5_isOneTooMany ∈ sg_tbl := ⟨sg_mem (i := 483) (by decide +kernel) (by decide +kernel), sg_mem (i := 3) (by decide +kernel) (by decide +kernel)⟩
theorem kv_X5_nextLetter : Cond.instanceMethod yX5_nextLetter ∈ sg_tbl ∧ Cond.selects yX5_nextLetter.cls yX5_nextLetter yX5_nextLetter ∈ sg_tbl := ⟨sg_mem (i := 471) (by decide +kernel) (by decide +kernel), sg_mem (i := 0) (by decide +kernel) (by decide +kernel)⟩
theorem kv_X5_readCart : Cond.instanceMethod yX5_readCart ∈ sg_tbl ∧ Cond.selects yX5_readCart.cls yX5_readCart yX5_readCart ∈ sg_tbl := ⟨sg_mem (i := 503) (by decide +kernel) (by decide +kernel), sg_mem (i := 8) (by decide +kernel) (by decide +kernel)⟩
theorem kv_X5_readClause : Cond.instanceMethod yX5_readClause ∈ sg_tbl ∧ Cond.selects yX5_readClause.cls yX5_readClause yX5_readClause ∈ sg_tbl := ⟨sg_mem (i := 475) (by decide +kernel) (by decide +kernel), sg_mem (i := 1) (by decide +kernel) (by decide +kernel)⟩
theorem kv_X5_readNumber : Cond.instanceMethod yX5_readNumber ∈ sg_tbl ∧ Cond.selects yX5_readNumber.cls yX5_readNumber yX5_readNumber ∈ sg_tbl := ⟨sg_mem (i := 495) (by decide +kernel) (by decide +kernel), sg_mem (i := 6) (by decide +kernel) (by decide +kernel)⟩
theorem kv_X5_readRest : Cond.instanceMethod yX5_readRest ∈ sg_tbl ∧ Cond.selects yX5_readRest.cls yX5_readRest yX5_readRest ∈ sg_tbl := ⟨sg_mem (i := 487) (by decide +kernel) (by decide +kernel), sg_mem (i := 4) (by decide +kernel) (by decide +kernel)⟩
theorem kv_X5_readRow : Cond.instanceMethod yX5_readRow ∈ sg_tbl ∧ Cond.selects yX5_readRow.cls yX5_readRow yX5_readRow ∈ sg_tbl := ⟨sg_mem (i := 491) (by decide +kernel) (by decide +kernel), sg_mem (i := 5) (by decide +kernel) (by decide +kernel)⟩
theorem kv_X5_readText : Cond.instanceMethod yX5_readText ∈ sg_tbl ∧ Cond.selects yX5_readText.cls yX5_readText yX5_readText ∈ sg_tbl := ⟨sg_mem (i := 465) (by decide +kernel) (by decide +kernel), sg_mem (i := 466) (by decide +kernel) (by decide +kernel)⟩
theorem kv_X6_become : Cond.instanceMethod yX6_become ∈ sg_tbl ∧ Cond.selects yX6_become.cls yX6_become yX6_become ∈ sg_tbl := ⟨sg_mem (i := 506) (by decide +kernel) (by decide +kernel), sg_mem (i := 507) (by decide +kernel) (by decide +kernel)⟩
theorem kv_X6_clear : Cond.instanceMethod yX6_clear ∈ sg_tbl ∧ Cond.selects yX6_clear.cls yX6_clear yX6_clear ∈ sg_tbl := ⟨sg_mem (i := 400) (by decide +kernel) (by decide +kernel), sg_mem (i := 401) (by decide +kernel) (by decide +kernel)⟩
theorem kv_X6_hasCart : Cond.instanceMethod yX6_hasCart ∈ sg_tbl ∧ Cond.selects yX6_hasCart.cls yX6_hasCart yX6_hasCart ∈ sg_tbl := ⟨sg_mem (i := 618) (by decide +kernel) (by decide +kernel), sg_mem (i := 619) (by decide +kernel) (by decide +kernel)⟩
theorem kv_X6_hasCarts : Cond.instanceMethod yX6_hasCarts ∈ sg_tbl ∧ Cond.selects yX6_hasCarts.cls yX6_hasCarts yX6_hasCarts ∈ sg_tbl := ⟨sg_mem (i := 793) (by decide +kernel) (by decide +kernel), sg_mem (i := 794) (by decide +kernel) (by decide +kernel)⟩
theorem kv_X6_hasCell : Cond.instanceMethod yX6_hasCell ∈ sg_tbl ∧ Cond.selects yX6_hasCell.cls yX6_hasCell yX6_hasCell ∈ sg_tbl := ⟨sg_mem (i := 574) (by decide +kernel) (by decide +kernel), sg_mem (i := 575) (by decide +kernel) (by decide +kernel)⟩
theorem kv_X6_weatherOn : Cond.instanceMethod yX6_weatherOn ∈ sg_tbl ∧ Cond.selects yX6_weatherOn.cls yX6_weatherOn yX6_weatherOn ∈ sg_tbl := ⟨sg_mem (i := 528) (by decide +kernel) (by decide +kernel), sg_mem (i := 529) (by decide +kernel) (by decide +kernel)⟩
theorem kv_X7_answer : Cond.instanceMethod yX7_answer ∈ sg_tbl ∧ Cond.selects yX7_answer.cls yX7_answer yX7_answer ∈ sg_tbl := ⟨sg_mem (i := 766) (by decide +kernel) (by decide +kernel), sg_mem (i := 767) (by decide +kernel) (by decide +kernel)⟩
theorem kv_X7_clear : Cond.instanceMethod yX7_clear ∈ sg_tbl ∧ Cond.selects yX7_clear.cls yX7_clear yX7_clear ∈ sg_tbl := ⟨sg_mem (i := 757) (by decide +kernel) (by decide +kernel), sg_mem (i := 758) (by decide +kernel) (by decide +kernel)⟩
theorem kv_X7_put : Cond.instanceMethod yX7_put ∈ sg_tbl ∧ Cond.selects yX7_put.cls yX7_put yX7_put ∈ sg_tbl := ⟨sg_mem (i := 762) (by decide +kernel) (by decide +kernel), sg_mem (i := 763) (by decide +kernel) (by decide +kernel)⟩
theorem kv_X8_begin : Cond.instanceMethod yX8_begin ∈ sg_tbl ∧ Cond.selects yX8_begin.cls yX8_begin yX8_begin ∈ sg_tbl := ⟨sg_mem (i := 404) (by decide +kernel) (by decide +kernel), sg_mem (i := 405) (by decide +kernel) (by decide +kernel)⟩
theorem kv_X8_clearTown : Cond.instanceMethod yX8_clearTown ∈ sg_tbl ∧ Cond.selects yX8_clearTown.cls yX8_clearTown yX8_clearTown ∈ sg_tbl := ⟨sg_mem (i := 702) (by decide +kernel) (by decide +kernel), sg_mem (i := 703) (by decide +kernel) (by decide +kernel)⟩
theorem kv_X8_copyFrom : Cond.instanceMethod yX8_copyFrom ∈ sg_tbl ∧ Cond.selects yX8_copyFrom.cls yX8_copyFrom yX8_copyFrom ∈ sg_tbl := ⟨sg_mem (i := 731) (by decide +kernel) (by decide +kernel), sg_mem (i := 732) (by decide +kernel) (by decide +kernel)⟩
theorem kv_X8_copyTo : Cond.instanceMethod yX8_copyTo ∈ sg_tbl ∧ Cond.selects yX8_copyTo.cls yX8_copyTo yX8_copyTo ∈ sg_tbl := ⟨sg_mem (i := 641) (by decide +kernel) (by decide +kernel), sg_mem (i := 642) (by decide +kernel) (by decide +kernel)⟩
theorem kv_X8_folkAt : Cond.instanceMethod yX8_folkAt ∈ sg_tbl ∧ Cond.selects yX8_folkAt.cls yX8_folkAt yX8_folkAt ∈ sg_tbl := ⟨sg_mem (i := 598) (by decide +kernel) (by decide +kernel), sg_mem (i := 599) (by decide +kernel) (by decide +kernel)⟩
theorem kv_X8_hasTown : Cond.instanceMethod yX8_hasTown ∈ sg_tbl ∧ Cond.selects yX8_hasTown.cls yX8_hasTown yX8_hasTown ∈ sg_tbl := ⟨sg_mem (i := 536) (by decide +kernel) (by decide +kernel), sg_mem (i := 537) (by decide +kernel) (by decide +kernel)⟩
theorem kv_X8_isStuck : Cond.instanceMethod yX8_isStuck ∈ sg_tbl ∧ Cond.selects yX8_isStuck.cls yX8_isStuck yX8_isStuck ∈ sg_tbl := ⟨sg_mem (i := 544) (by decide +kernel) (by decide +kernel), sg_mem (i := 545) (by decide +kernel) (by decide +kernel)⟩
theorem kv_X9_bestPlace : Cond.instanceMethod yX9_bestPlace ∈ sg_tbl ∧ Cond.selects yX9_bestPlace.cls yX9_bestPlace yX9_bestPlace ∈ sg_tbl := ⟨sg_mem (i := 820) (by decide +kernel) (by decide +kernel), sg_mem (i := 821) (by decide +kernel) (by decide +kernel)⟩
theorem kv_X9_biggest : Cond.instanceMethod yX9_biggest ∈ sg_tbl ∧ Cond.selects yX9_biggest.cls yX9_biggest yX9_biggest ∈ sg_tbl := ⟨sg_mem (i := 594) (by decide +kernel) (by decide +kernel), sg_mem (i := 595) (by decide +kernel) (by decide +kernel)⟩
theorem kv_X9_distanceWith : Cond.instanceMethod yX9_distanceWith ∈ sg_tbl ∧ Cond.selects yX9_distanceWith.cls yX9_distanceWith yX9_distanceWith ∈ sg_tbl := ⟨sg_mem (i := 583) (by decide +kernel) (by decide +kernel), sg_mem (i := 9) (by decide +kernel) (by decide +kernel)⟩
theorem kv_X9_distancesWith : Cond.instanceMethod yX9_distancesWith ∈ sg_tbl ∧ Cond.selects yX9_distancesWith.cls yX9_distancesWith yX9_distancesWith ∈ sg_tbl := ⟨sg_mem (i := 824) (by decide +kernel) (by decide +kernel), sg_mem (i := 825) (by decide +kernel) (by decide +kernel)⟩
theorem kv_X9_farthest : Cond.instanceMethod yX9_farthest ∈ sg_tbl ∧ Cond.selects yX9_farthest.cls yX9_farthest yX9_farthest ∈ sg_tbl := ⟨sg_mem (i := 578) (by decide +kernel) (by decide +kernel), sg_mem (i := 579) (by decide +kernel) (by decide +kernel)⟩
theorem kv_X9_folkOfAll : Cond.instanceMethod yX9_folkOfAll ∈ sg_tbl ∧ Cond.selects yX9_folkOfAll.cls yX9_folkOfAll yX9_folkOfAll ∈ sg_tbl := ⟨sg_mem (i := 603) (by decide +kernel) (by decide +kernel), sg_mem (i := 604) (by decide +kernel) (by decide +kernel)⟩
theorem kv_X9_longestWay : Cond.instanceMethod yX9_longestWay ∈ sg_tbl ∧ Cond.selects yX9_longestWay.cls yX9_longestWay yX9_longestWay ∈ sg_tbl := ⟨sg_mem (i := 590) (by decide +kernel) (by decide +kernel), sg_mem (i := 591) (by decide +kernel) (by decide +kernel)⟩
theorem kv_X9_mayorOf : Cond.instanceMethod yX9_mayorOf ∈ sg_tbl ∧ Cond.selects yX9_mayorOf.cls yX9_mayorOf yX9_mayorOf ∈ sg_tbl := ⟨sg_mem (i := 622) (by decide +kernel) (by decide +kernel), sg_mem (i := 623) (by decide +kernel) (by decide +kernel)⟩
theorem kv_X9_stuckSet : Cond.instanceMethod yX9_stuckSet ∈ sg_tbl ∧ Cond.selects yX9_stuckSet.cls yX9_stuckSet yX9_stuckSet ∈ sg_tbl := ⟨sg_mem (i := 540) (by decide +kernel) (by decide +kernel), sg_mem (i := 541) (by decide +kernel) (by decide +kernel)⟩
theorem kv_X9_townSet : Cond.instanceMethod yX9_townSet ∈ sg_tbl ∧ Cond.selects yX9_townSet.cls yX9_townSet yX9_townSet ∈ sg_tbl := ⟨sg_mem (i := 532) (by decide +kernel) (by decide +kernel), sg_mem (i := 533) (by decide +kernel) (by decide +kernel)⟩
theorem kv_X9_townsNamed : Cond.instanceMethod yX9_townsNamed ∈ sg_tbl ∧ Cond.selects yX9_townsNamed.cls yX9_townsNamed yX9_townsNamed ∈ sg_tbl := ⟨sg_mem (i := 833) (by decide +kernel) (by decide +kernel), sg_mem (i := 834) (by decide +kernel) (by decide +kernel)⟩
theorem lf_X0_13 : Cond.fieldLink RX0 13 "StuckTowns$Entries" "first" "[I" ∈ sg_tbl := sg_mem (i := 332) (by decide +kernel) (by decide +kernel)
theorem lf_X0_19 : Cond.fieldLink RX0 19 "StuckTowns$Entries" "second" "[I" ∈ sg_tbl := sg_mem (i := 335) (by decide +kernel) (by decide +kernel)
theorem lf_X0_22 : Cond.fieldLink RX0 22 "StuckTowns$Entries" "count" "I" ∈ sg_tbl := sg_mem (i := 329) (by decide +kernel) (by decide +kernel)
theorem lf_X10_18 : Cond.fieldLink RX10 18 "StuckTowns$Trials" "span" "LStuckTowns$Span;" ∈ sg_tbl := sg_mem (i := 284) (by decide +kernel) (by decide +kernel)
theorem lf_X10_22 : Cond.fieldLink RX10 22 "StuckTowns$Trials" "map" "LStuckTowns$Road;" ∈ sg_tbl := sg_mem (i := 280) (by decide +kernel) (by decide +kernel)
theorem lf_X10_26 : Cond.fieldLink RX10 26 "StuckTowns$Trials" "now" "LStuckTowns$State;" ∈ sg_tbl := sg_mem (i := 281) (by decide +kernel) (by decide +kernel)
theorem lf_X10_30 : Cond.fieldLink RX10 30 "StuckTowns$Trials" "kingdom" "LStuckTowns$Kingdom;" ∈ sg_tbl := sg_mem (i := 282) (by decide +kernel) (by decide +kernel)
theorem lf_X10_40 : Cond.fieldLink RX10 40 "StuckTowns$Road" "carts" "I" ∈ sg_tbl := sg_mem (i := 107) (by decide +kernel) (by decide +kernel)
theorem lf_X10_56 : Cond.fieldLink RX10 56 "StuckTowns$Road" "cells" "I" ∈ sg_tbl := sg_mem (i := 100) (by decide +kernel) (by decide +kernel)
theorem lf_X10_77 : Cond.fieldLink RX10 77 "StuckTowns$State" "loadOf" "[I" ∈ sg_tbl := sg_mem (i := 204) (by decide +kernel) (by decide +kernel)
theorem lf_X10_9 : Cond.fieldLink RX10 9 "StuckTowns$Trials" "stopped" "[I" ∈ sg_tbl := sg_mem (i := 283) (by decide +kernel) (by decide +kernel)
theorem lf_X11_100 : Cond.fieldLink RX11 100 "StuckTowns$Reader" "length" "I" ∈ sg_tbl := sg_mem (i := 151) (by decide +kernel) (by decide +kernel)
theorem lf_X11_112 : Cond.fieldLink RX11 112 "StuckTowns$Reader" "draft" "LStuckTowns$Road;" ∈ sg_tbl := sg_mem (i := 149) (by decide +kernel) (by decide +kernel)
theorem lf_X11_118 : Cond.fieldLink RX11 118 "StuckTowns$Entries" "count" "I" ∈ sg_tbl := sg_mem (i := 331) (by decide +kernel) (by decide +kernel)
theorem lf_X11_12 : Cond.fieldLink RX11 12 "StuckTowns" "reader" "LStuckTowns$Reader;" ∈ sg_tbl := sg_mem (i := 413) (by decide +kernel) (by decide +kernel)
theorem lf_X11_124 : Cond.fieldLink RX11 124 "StuckTowns$Road" "cells" "I" ∈ sg_tbl := sg_mem (i := 101) (by decide +kernel) (by decide +kernel)
theorem lf_X11_127 : Cond.fieldLink RX11 127 "StuckTowns$Reader" "faultPlace" "I" ∈ sg_tbl := sg_mem (i := 153) (by decide +kernel) (by decide +kernel)
theorem lf_X11_130 : Cond.fieldLink RX11 130 "StuckTowns$Road" "carts" "I" ∈ sg_tbl := sg_mem (i := 112) (by decide +kernel) (by decide +kernel)
theorem lf_X11_133 : Cond.fieldLink RX11 133 "StuckTowns$State" "days" "I" ∈ sg_tbl := sg_mem (i := 183) (by decide +kernel) (by decide +kernel)
theorem lf_X11_140 : Cond.fieldLink RX11 140 "StuckTowns$State" "stormLeft" "I" ∈ sg_tbl := sg_mem (i := 186) (by decide +kernel) (by decide +kernel)
theorem lf_X11_164 : Cond.fieldLink RX11 164 "StuckTowns$Memory" "undoable" "I" ∈ sg_tbl := sg_mem (i := 383) (by decide +kernel) (by decide +kernel)
theorem lf_X11_172 : Cond.fieldLink RX11 172 "StuckTowns$Road" "soft" "[I" ∈ sg_tbl := sg_mem (i := 116) (by decide +kernel) (by decide +kernel)
theorem lf_X11_176 : Cond.fieldLink RX11 176 "StuckTowns$State" "gravel" "[I" ∈ sg_tbl := sg_mem (i := 189) (by decide +kernel) (by decide +kernel)
theorem lf_X11_179 : Cond.fieldLink RX11 179 "StuckTowns$State" "townName" "[I" ∈ sg_tbl := sg_mem (i := 191) (by decide +kernel) (by decide +kernel)
theorem lf_X11_182 : Cond.fieldLink RX11 182 "StuckTowns$State" "mayor" "[I" ∈ sg_tbl := sg_mem (i := 196) (by decide +kernel) (by decide +kernel)
theorem lf_X11_19 : Cond.fieldLink RX11 19 "StuckTowns" "map" "LStuckTowns$Road;" ∈ sg_tbl := sg_mem (i := 414) (by decide +kernel) (by decide +kernel)
theorem lf_X11_191 : Cond.fieldLink RX11 191 "StuckTowns$Road" "wheels" "[I" ∈ sg_tbl := sg_mem (i := 121) (by decide +kernel) (by decide +kernel)
theorem lf_X11_194 : Cond.fieldLink RX11 194 "StuckTowns$State" "loadOf" "[I" ∈ sg_tbl := sg_mem (i := 206) (by decide +kernel) (by decide +kernel)
theorem lf_X11_197 : Cond.fieldLink RX11 197 "StuckTowns$Road" "says" "[I" ∈ sg_tbl := sg_mem (i := 127) (by decide +kernel) (by decide +kernel)
theorem lf_X11_200 : Cond.fieldLink RX11 200 "StuckTowns$State" "stuckAt" "[I" ∈ sg_tbl := sg_mem (i := 208) (by decide +kernel) (by decide +kernel)
theorem lf_X11_203 : Cond.fieldLink RX11 203 "StuckTowns$State" "timesStuck" "[I" ∈ sg_tbl := sg_mem (i := 212) (by decide +kernel) (by decide +kernel)
theorem lf_X11_240 : Cond.fieldLink RX11 240 "StuckTowns$State" "folk" "[I" ∈ sg_tbl := sg_mem (i := 201) (by decide +kernel) (by decide +kernel)
theorem lf_X11_26 : Cond.fieldLink RX11 26 "StuckTowns" "now" "LStuckTowns$State;" ∈ sg_tbl := sg_mem (i := 415) (by decide +kernel) (by decide +kernel)
theorem lf_X11_282 : Cond.fieldLink RX11 282 "StuckTowns$Orders" "bestCount" "I" ∈ sg_tbl := sg_mem (i := 303) (by decide +kernel) (by decide +kernel)
theorem lf_X11_285 : Cond.fieldLink RX11 285 "StuckTowns$Orders" "bestFigures" "I" ∈ sg_tbl := sg_mem (i := 305) (by decide +kernel) (by decide +kernel)
theorem lf_X11_314 : Cond.fieldLink RX11 314 "StuckTowns$Entries" "first" "[I" ∈ sg_tbl := sg_mem (i := 334) (by decide +kernel) (by decide +kernel)
theorem lf_X11_317 : Cond.fieldLink RX11 317 "StuckTowns$Entries" "second" "[I" ∈ sg_tbl := sg_mem (i := 337) (by decide +kernel) (by decide +kernel)
theorem lf_X11_320 : Cond.fieldLink RX11 320 "StuckTowns" "theSeed" "I" ∈ sg_tbl := sg_mem (i := 424) (by decide +kernel) (by decide +kernel)
theorem lf_X11_35 : Cond.fieldLink RX11 35 "StuckTowns" "kingdom" "LStuckTowns$Kingdom;" ∈ sg_tbl := sg_mem (i := 416) (by decide +kernel) (by decide +kernel)
theorem lf_X11_42 : Cond.fieldLink RX11 42 "StuckTowns" "survey" "LStuckTowns$Survey;" ∈ sg_tbl := sg_mem (i := 417) (by decide +kernel) (by decide +kernel)
theorem lf_X11_51 : Cond.fieldLink RX11 51 "StuckTowns" "trials" "LStuckTowns$Trials;" ∈ sg_tbl := sg_mem (i := 418) (by decide +kernel) (by decide +kernel)
theorem lf_X11_60 : Cond.fieldLink RX11 60 "StuckTowns" "orders" "LStuckTowns$Orders;" ∈ sg_tbl := sg_mem (i := 419) (by decide +kernel) (by decide +kernel)
theorem lf_X11_69 : Cond.fieldLink RX11 69 "StuckTowns" "heard" "LStuckTowns$Entries;" ∈ sg_tbl := sg_mem (i := 420) (by decide +kernel) (by decide +kernel)
theorem lf_X11_73 : Cond.fieldLink RX11 73 "StuckTowns" "book" "LStuckTowns$Entries;" ∈ sg_tbl := sg_mem (i := 421) (by decide +kernel) (by decide +kernel)
theorem lf_X11_81 : Cond.fieldLink RX11 81 "StuckTowns" "guesses" "LStuckTowns$Guesses;" ∈ sg_tbl := sg_mem (i := 422) (by decide +kernel) (by decide +kernel)
theorem lf_X11_88 : Cond.fieldLink RX11 88 "StuckTowns" "memory" "LStuckTowns$Memory;" ∈ sg_tbl := sg_mem (i := 423) (by decide +kernel) (by decide +kernel)
theorem lf_X12_110 : Cond.fieldLink RX12 110 "StuckTownsModel" "numberAt" "I" ∈ sg_tbl := sg_mem (i := 954) (by decide +kernel) (by decide +kernel)
theorem lf_X12_113 : Cond.fieldLink RX12 113 "StuckTownsModel" "number" "I" ∈ sg_tbl := sg_mem (i := 953) (by decide +kernel) (by decide +kernel)
theorem lf_X12_123 : Cond.fieldLink RX12 123 "StuckTownsModel" "readCells" "I" ∈ sg_tbl := sg_mem (i := 955) (by decide +kernel) (by decide +kernel)
theorem lf_X12_126 : Cond.fieldLink RX12 126 "StuckTownsModel" "readWeathers" "I" ∈ sg_tbl := sg_mem (i := 957) (by decide +kernel) (by decide +kernel)
theorem lf_X12_129 : Cond.fieldLink RX12 129 "StuckTownsModel" "readCarts" "I" ∈ sg_tbl := sg_mem (i := 959) (by decide +kernel) (by decide +kernel)
theorem lf_X12_13 : Cond.fieldLink RX12 13 "StuckTownsModel" "weather" "[I" ∈ sg_tbl := sg_mem (i := 942) (by decide +kernel) (by decide +kernel)
theorem lf_X12_141 : Cond.fieldLink RX12 141 "StuckTownsModel" "weathers" "I" ∈ sg_tbl := sg_mem (i := 941) (by decide +kernel) (by decide +kernel)
theorem lf_X12_154 : Cond.fieldLink RX12 154 "StuckTownsModel" "heard" "I" ∈ sg_tbl := sg_mem (i := 966) (by decide +kernel) (by decide +kernel)
theorem lf_X12_157 : Cond.fieldLink RX12 157 "StuckTownsModel" "booked" "I" ∈ sg_tbl := sg_mem (i := 970) (by decide +kernel) (by decide +kernel)
theorem lf_X12_16 : Cond.fieldLink RX12 16 "StuckTownsModel" "wheels" "[I" ∈ sg_tbl := sg_mem (i := 944) (by decide +kernel) (by decide +kernel)
theorem lf_X12_160 : Cond.fieldLink RX12 160 "StuckTownsModel" "undos" "I" ∈ sg_tbl := sg_mem (i := 963) (by decide +kernel) (by decide +kernel)
theorem lf_X12_19 : Cond.fieldLink RX12 19 "StuckTownsModel" "loadTold" "[I" ∈ sg_tbl := sg_mem (i := 945) (by decide +kernel) (by decide +kernel)
theorem lf_X12_22 : Cond.fieldLink RX12 22 "StuckTownsModel" "says" "[I" ∈ sg_tbl := sg_mem (i := 946) (by decide +kernel) (by decide +kernel)
theorem lf_X12_25 : Cond.fieldLink RX12 25 "StuckTownsModel" "now" "[I" ∈ sg_tbl := sg_mem (i := 947) (by decide +kernel) (by decide +kernel)
theorem lf_X12_256 : Cond.fieldLink RX12 256 "StuckTownsModel" "seed" "I" ∈ sg_tbl := sg_mem (i := 948) (by decide +kernel) (by decide +kernel)
theorem lf_X12_28 : Cond.fieldLink RX12 28 "StuckTownsModel" "text" "[I" ∈ sg_tbl := sg_mem (i := 949) (by decide +kernel) (by decide +kernel)
theorem lf_X12_31 : Cond.fieldLink RX12 31 "StuckTownsModel" "faultPlace" "I" ∈ sg_tbl := sg_mem (i := 951) (by decide +kernel) (by decide +kernel)
theorem lf_X12_35 : Cond.fieldLink RX12 35 "StuckTownsModel" "readSoft" "[I" ∈ sg_tbl := sg_mem (i := 956) (by decide +kernel) (by decide +kernel)
theorem lf_X12_38 : Cond.fieldLink RX12 38 "StuckTownsModel" "readWeather" "[I" ∈ sg_tbl := sg_mem (i := 958) (by decide +kernel) (by decide +kernel)
theorem lf_X12_41 : Cond.fieldLink RX12 41 "StuckTownsModel" "readWheels" "[I" ∈ sg_tbl := sg_mem (i := 960) (by decide +kernel) (by decide +kernel)
theorem lf_X12_44 : Cond.fieldLink RX12 44 "StuckTownsModel" "readLoad" "[I" ∈ sg_tbl := sg_mem (i := 961) (by decide +kernel) (by decide +kernel)
theorem lf_X12_47 : Cond.fieldLink RX12 47 "StuckTownsModel" "readSays" "[I" ∈ sg_tbl := sg_mem (i := 962) (by decide +kernel) (by decide +kernel)
theorem lf_X12_50 : Cond.fieldLink RX12 50 "StuckTownsModel" "past" "[I" ∈ sg_tbl := sg_mem (i := 964) (by decide +kernel) (by decide +kernel)
theorem lf_X12_53 : Cond.fieldLink RX12 53 "StuckTownsModel" "stopOn" "[I" ∈ sg_tbl := sg_mem (i := 965) (by decide +kernel) (by decide +kernel)
theorem lf_X12_56 : Cond.fieldLink RX12 56 "StuckTownsModel" "heardOf" "[I" ∈ sg_tbl := sg_mem (i := 967) (by decide +kernel) (by decide +kernel)
theorem lf_X12_59 : Cond.fieldLink RX12 59 "StuckTownsModel" "heardAt" "[I" ∈ sg_tbl := sg_mem (i := 968) (by decide +kernel) (by decide +kernel)
theorem lf_X12_62 : Cond.fieldLink RX12 62 "StuckTownsModel" "counts" "[I" ∈ sg_tbl := sg_mem (i := 969) (by decide +kernel) (by decide +kernel)
theorem lf_X12_65 : Cond.fieldLink RX12 65 "StuckTownsModel" "bookOf" "[I" ∈ sg_tbl := sg_mem (i := 971) (by decide +kernel) (by decide +kernel)
theorem lf_X12_68 : Cond.fieldLink RX12 68 "StuckTownsModel" "bookIs" "[I" ∈ sg_tbl := sg_mem (i := 972) (by decide +kernel) (by decide +kernel)
theorem lf_X12_7 : Cond.fieldLink RX12 7 "StuckTownsModel" "soft" "[I" ∈ sg_tbl := sg_mem (i := 940) (by decide +kernel) (by decide +kernel)
theorem lf_X12_71 : Cond.fieldLink RX12 71 "StuckTownsModel" "images" "[I" ∈ sg_tbl := sg_mem (i := 973) (by decide +kernel) (by decide +kernel)
theorem lf_X12_74 : Cond.fieldLink RX12 74 "StuckTownsModel" "isKept" "[Z" ∈ sg_tbl := sg_mem (i := 974) (by decide +kernel) (by decide +kernel)
theorem lf_X12_78 : Cond.fieldLink RX12 78 "StuckTownsModel" "cells" "I" ∈ sg_tbl := sg_mem (i := 939) (by decide +kernel) (by decide +kernel)
theorem lf_X12_85 : Cond.fieldLink RX12 85 "StuckTownsModel" "carts" "I" ∈ sg_tbl := sg_mem (i := 943) (by decide +kernel) (by decide +kernel)
theorem lf_X12_91 : Cond.fieldLink RX12 91 "StuckTownsModel" "texted" "I" ∈ sg_tbl := sg_mem (i := 950) (by decide +kernel) (by decide +kernel)
theorem lf_X12_95 : Cond.fieldLink RX12 95 "StuckTownsModel" "at0" "I" ∈ sg_tbl := sg_mem (i := 952) (by decide +kernel) (by decide +kernel)
theorem lf_X1_15 : Cond.fieldLink RX1 15 "StuckTowns$Guesses" "alike" "[I" ∈ sg_tbl := sg_mem (i := 358) (by decide +kernel) (by decide +kernel)
theorem lf_X1_22 : Cond.fieldLink RX1 22 "StuckTowns$Guesses" "span" "LStuckTowns$Span;" ∈ sg_tbl := sg_mem (i := 359) (by decide +kernel) (by decide +kernel)
theorem lf_X1_26 : Cond.fieldLink RX1 26 "StuckTowns$Guesses" "map" "LStuckTowns$Road;" ∈ sg_tbl := sg_mem (i := 353) (by decide +kernel) (by decide +kernel)
theorem lf_X1_30 : Cond.fieldLink RX1 30 "StuckTowns$Guesses" "now" "LStuckTowns$State;" ∈ sg_tbl := sg_mem (i := 354) (by decide +kernel) (by decide +kernel)
theorem lf_X1_34 : Cond.fieldLink RX1 34 "StuckTowns$Guesses" "kingdom" "LStuckTowns$Kingdom;" ∈ sg_tbl := sg_mem (i := 355) (by decide +kernel) (by decide +kernel)
theorem lf_X1_38 : Cond.fieldLink RX1 38 "StuckTowns$Guesses" "heard" "LStuckTowns$Entries;" ∈ sg_tbl := sg_mem (i := 356) (by decide +kernel) (by decide +kernel)
theorem lf_X1_42 : Cond.fieldLink RX1 42 "StuckTowns$Entries" "count" "I" ∈ sg_tbl := sg_mem (i := 330) (by decide +kernel) (by decide +kernel)
theorem lf_X1_48 : Cond.fieldLink RX1 48 "StuckTowns$Entries" "first" "[I" ∈ sg_tbl := sg_mem (i := 333) (by decide +kernel) (by decide +kernel)
theorem lf_X1_57 : Cond.fieldLink RX1 57 "StuckTowns$State" "loadOf" "[I" ∈ sg_tbl := sg_mem (i := 203) (by decide +kernel) (by decide +kernel)
theorem lf_X1_68 : Cond.fieldLink RX1 68 "StuckTowns$Entries" "second" "[I" ∈ sg_tbl := sg_mem (i := 336) (by decide +kernel) (by decide +kernel)
theorem lf_X1_89 : Cond.fieldLink RX1 89 "StuckTowns$Road" "carts" "I" ∈ sg_tbl := sg_mem (i := 110) (by decide +kernel) (by decide +kernel)
theorem lf_X1_9 : Cond.fieldLink RX1 9 "StuckTowns$Guesses" "fits" "[Z" ∈ sg_tbl := sg_mem (i := 357) (by decide +kernel) (by decide +kernel)
theorem lf_X2_15 : Cond.fieldLink RX2 15 "StuckTowns$Kingdom" "now" "LStuckTowns$State;" ∈ sg_tbl := sg_mem (i := 239) (by decide +kernel) (by decide +kernel)
theorem lf_X2_19 : Cond.fieldLink RX2 19 "StuckTowns$State" "stormLeft" "I" ∈ sg_tbl := sg_mem (i := 184) (by decide +kernel) (by decide +kernel)
theorem lf_X2_25 : Cond.fieldLink RX2 25 "StuckTowns$State" "days" "I" ∈ sg_tbl := sg_mem (i := 182) (by decide +kernel) (by decide +kernel)
theorem lf_X2_34 : Cond.fieldLink RX2 34 "StuckTowns$Road" "wheels" "[I" ∈ sg_tbl := sg_mem (i := 120) (by decide +kernel) (by decide +kernel)
theorem lf_X2_38 : Cond.fieldLink RX2 38 "StuckTowns$Road" "soft" "[I" ∈ sg_tbl := sg_mem (i := 114) (by decide +kernel) (by decide +kernel)
theorem lf_X2_41 : Cond.fieldLink RX2 41 "StuckTowns$State" "gravel" "[I" ∈ sg_tbl := sg_mem (i := 188) (by decide +kernel) (by decide +kernel)
theorem lf_X2_44 : Cond.fieldLink RX2 44 "StuckTowns$State" "timesStuck" "[I" ∈ sg_tbl := sg_mem (i := 211) (by decide +kernel) (by decide +kernel)
theorem lf_X2_55 : Cond.fieldLink RX2 55 "StuckTowns$Road" "cells" "I" ∈ sg_tbl := sg_mem (i := 103) (by decide +kernel) (by decide +kernel)
theorem lf_X2_65 : Cond.fieldLink RX2 65 "StuckTowns$State" "loadOf" "[I" ∈ sg_tbl := sg_mem (i := 205) (by decide +kernel) (by decide +kernel)
theorem lf_X2_78 : Cond.fieldLink RX2 78 "StuckTowns$State" "stuckAt" "[I" ∈ sg_tbl := sg_mem (i := 209) (by decide +kernel) (by decide +kernel)
theorem lf_X2_85 : Cond.fieldLink RX2 85 "StuckTowns$State" "townName" "[I" ∈ sg_tbl := sg_mem (i := 192) (by decide +kernel) (by decide +kernel)
theorem lf_X2_88 : Cond.fieldLink RX2 88 "StuckTowns$Road" "says" "[I" ∈ sg_tbl := sg_mem (i := 129) (by decide +kernel) (by decide +kernel)
theorem lf_X2_9 : Cond.fieldLink RX2 9 "StuckTowns$Kingdom" "map" "LStuckTowns$Road;" ∈ sg_tbl := sg_mem (i := 238) (by decide +kernel) (by decide +kernel)
theorem lf_X2_91 : Cond.fieldLink RX2 91 "StuckTowns$State" "folk" "[I" ∈ sg_tbl := sg_mem (i := 199) (by decide +kernel) (by decide +kernel)
theorem lf_X2_94 : Cond.fieldLink RX2 94 "StuckTowns$State" "mayor" "[I" ∈ sg_tbl := sg_mem (i := 197) (by decide +kernel) (by decide +kernel)
theorem lf_X3_15 : Cond.fieldLink RX3 15 "StuckTowns$Memory" "kept" "[Z" ∈ sg_tbl := sg_mem (i := 386) (by decide +kernel) (by decide +kernel)
theorem lf_X3_19 : Cond.fieldLink RX3 19 "StuckTowns$Memory" "seeds" "[I" ∈ sg_tbl := sg_mem (i := 387) (by decide +kernel) (by decide +kernel)
theorem lf_X3_22 : Cond.fieldLink RX3 22 "StuckTowns$Memory" "undoable" "I" ∈ sg_tbl := sg_mem (i := 382) (by decide +kernel) (by decide +kernel)
theorem lf_X3_32 : Cond.fieldLink RX3 32 "StuckTowns$Memory" "next" "I" ∈ sg_tbl := sg_mem (i := 384) (by decide +kernel) (by decide +kernel)
theorem lf_X3_9 : Cond.fieldLink RX3 9 "StuckTowns$Memory" "row" "[I" ∈ sg_tbl := sg_mem (i := 385) (by decide +kernel) (by decide +kernel)
theorem lf_X4_15 : Cond.fieldLink RX4 15 "StuckTowns$Orders" "map" "LStuckTowns$Road;" ∈ sg_tbl := sg_mem (i := 306) (by decide +kernel) (by decide +kernel)
theorem lf_X4_19 : Cond.fieldLink RX4 19 "StuckTowns$Orders" "kingdom" "LStuckTowns$Kingdom;" ∈ sg_tbl := sg_mem (i := 307) (by decide +kernel) (by decide +kernel)
theorem lf_X4_23 : Cond.fieldLink RX4 23 "StuckTowns$Road" "carts" "I" ∈ sg_tbl := sg_mem (i := 108) (by decide +kernel) (by decide +kernel)
theorem lf_X4_35 : Cond.fieldLink RX4 35 "StuckTowns$Orders" "bestCount" "I" ∈ sg_tbl := sg_mem (i := 302) (by decide +kernel) (by decide +kernel)
theorem lf_X4_38 : Cond.fieldLink RX4 38 "StuckTowns$Orders" "bestFigures" "I" ∈ sg_tbl := sg_mem (i := 304) (by decide +kernel) (by decide +kernel)
theorem lf_X4_9 : Cond.fieldLink RX4 9 "StuckTowns$Orders" "stopOn" "[I" ∈ sg_tbl := sg_mem (i := 308) (by decide +kernel) (by decide +kernel)
theorem lf_X5_12 : Cond.fieldLink RX5 12 "StuckTowns$Reader" "draft" "LStuckTowns$Road;" ∈ sg_tbl := sg_mem (i := 148) (by decide +kernel) (by decide +kernel)
theorem lf_X5_18 : Cond.fieldLink RX5 18 "StuckTowns$Reader" "faultPlace" "I" ∈ sg_tbl := sg_mem (i := 152) (by decide +kernel) (by decide +kernel)
theorem lf_X5_22 : Cond.fieldLink RX5 22 "StuckTowns$Reader" "letters" "[I" ∈ sg_tbl := sg_mem (i := 154) (by decide +kernel) (by decide +kernel)
theorem lf_X5_26 : Cond.fieldLink RX5 26 "StuckTowns$Reader" "length" "I" ∈ sg_tbl := sg_mem (i := 150) (by decide +kernel) (by decide +kernel)
theorem lf_X5_32 : Cond.fieldLink RX5 32 "StuckTowns$Reader" "faultKind" "I" ∈ sg_tbl := sg_mem (i := 155) (by decide +kernel) (by decide +kernel)
theorem lf_X5_35 : Cond.fieldLink RX5 35 "StuckTowns$Reader" "at" "I" ∈ sg_tbl := sg_mem (i := 156) (by decide +kernel) (by decide +kernel)
theorem lf_X5_38 : Cond.fieldLink RX5 38 "StuckTowns$Reader" "weatherTold" "Z" ∈ sg_tbl := sg_mem (i := 157) (by decide +kernel) (by decide +kernel)
theorem lf_X5_49 : Cond.fieldLink RX5 49 "StuckTowns$Road" "cells" "I" ∈ sg_tbl := sg_mem (i := 102) (by decide +kernel) (by decide +kernel)
theorem lf_X5_64 : Cond.fieldLink RX5 64 "StuckTowns$Road" "carts" "I" ∈ sg_tbl := sg_mem (i := 111) (by decide +kernel) (by decide +kernel)
theorem lf_X5_67 : Cond.fieldLink RX5 67 "StuckTowns$Road" "soft" "[I" ∈ sg_tbl := sg_mem (i := 115) (by decide +kernel) (by decide +kernel)
theorem lf_X5_74 : Cond.fieldLink RX5 74 "StuckTowns$Road" "weather" "[I" ∈ sg_tbl := sg_mem (i := 118) (by decide +kernel) (by decide +kernel)
theorem lf_X5_77 : Cond.fieldLink RX5 77 "StuckTowns$Road" "rains" "I" ∈ sg_tbl := sg_mem (i := 105) (by decide +kernel) (by decide +kernel)
theorem lf_X5_87 : Cond.fieldLink RX5 87 "StuckTowns$Road" "wheels" "[I" ∈ sg_tbl := sg_mem (i := 122) (by decide +kernel) (by decide +kernel)
theorem lf_X5_90 : Cond.fieldLink RX5 90 "StuckTowns$Road" "toldLoad" "[I" ∈ sg_tbl := sg_mem (i := 125) (by decide +kernel) (by decide +kernel)
theorem lf_X5_93 : Cond.fieldLink RX5 93 "StuckTowns$Road" "says" "[I" ∈ sg_tbl := sg_mem (i := 128) (by decide +kernel) (by decide +kernel)
theorem lf_X6_15 : Cond.fieldLink RX6 15 "StuckTowns$Road" "weather" "[I" ∈ sg_tbl := sg_mem (i := 117) (by decide +kernel) (by decide +kernel)
theorem lf_X6_18 : Cond.fieldLink RX6 18 "StuckTowns$Road" "wheels" "[I" ∈ sg_tbl := sg_mem (i := 119) (by decide +kernel) (by decide +kernel)
theorem lf_X6_21 : Cond.fieldLink RX6 21 "StuckTowns$Road" "toldLoad" "[I" ∈ sg_tbl := sg_mem (i := 123) (by decide +kernel) (by decide +kernel)
theorem lf_X6_24 : Cond.fieldLink RX6 24 "StuckTowns$Road" "says" "[I" ∈ sg_tbl := sg_mem (i := 126) (by decide +kernel) (by decide +kernel)
theorem lf_X6_27 : Cond.fieldLink RX6 27 "StuckTowns$Road" "cells" "I" ∈ sg_tbl := sg_mem (i := 98) (by decide +kernel) (by decide +kernel)
theorem lf_X6_31 : Cond.fieldLink RX6 31 "StuckTowns$Road" "carts" "I" ∈ sg_tbl := sg_mem (i := 106) (by decide +kernel) (by decide +kernel)
theorem lf_X6_34 : Cond.fieldLink RX6 34 "StuckTowns$Road" "rains" "I" ∈ sg_tbl := sg_mem (i := 104) (by decide +kernel) (by decide +kernel)
theorem lf_X6_9 : Cond.fieldLink RX6 9 "StuckTowns$Road" "soft" "[I" ∈ sg_tbl := sg_mem (i := 113) (by decide +kernel) (by decide +kernel)
theorem lf_X7_15 : Cond.fieldLink RX7 15 "StuckTowns$Span" "least" "I" ∈ sg_tbl := sg_mem (i := 271) (by decide +kernel) (by decide +kernel)
theorem lf_X7_18 : Cond.fieldLink RX7 18 "StuckTowns$Span" "greatest" "I" ∈ sg_tbl := sg_mem (i := 272) (by decide +kernel) (by decide +kernel)
theorem lf_X7_9 : Cond.fieldLink RX7 9 "StuckTowns$Span" "count" "I" ∈ sg_tbl := sg_mem (i := 270) (by decide +kernel) (by decide +kernel)
theorem lf_X8_15 : Cond.fieldLink RX8 15 "StuckTowns$State" "townName" "[I" ∈ sg_tbl := sg_mem (i := 190) (by decide +kernel) (by decide +kernel)
theorem lf_X8_18 : Cond.fieldLink RX8 18 "StuckTowns$State" "mayor" "[I" ∈ sg_tbl := sg_mem (i := 194) (by decide +kernel) (by decide +kernel)
theorem lf_X8_21 : Cond.fieldLink RX8 21 "StuckTowns$State" "folk" "[I" ∈ sg_tbl := sg_mem (i := 198) (by decide +kernel) (by decide +kernel)
theorem lf_X8_24 : Cond.fieldLink RX8 24 "StuckTowns$State" "loadOf" "[I" ∈ sg_tbl := sg_mem (i := 202) (by decide +kernel) (by decide +kernel)
theorem lf_X8_27 : Cond.fieldLink RX8 27 "StuckTowns$State" "stuckAt" "[I" ∈ sg_tbl := sg_mem (i := 207) (by decide +kernel) (by decide +kernel)
theorem lf_X8_30 : Cond.fieldLink RX8 30 "StuckTowns$State" "timesStuck" "[I" ∈ sg_tbl := sg_mem (i := 210) (by decide +kernel) (by decide +kernel)
theorem lf_X8_33 : Cond.fieldLink RX8 33 "StuckTowns$State" "days" "I" ∈ sg_tbl := sg_mem (i := 181) (by decide +kernel) (by decide +kernel)
theorem lf_X8_37 : Cond.fieldLink RX8 37 "StuckTowns$State" "stormLeft" "I" ∈ sg_tbl := sg_mem (i := 185) (by decide +kernel) (by decide +kernel)
theorem lf_X8_46 : Cond.fieldLink RX8 46 "StuckTowns$Road" "toldLoad" "[I" ∈ sg_tbl := sg_mem (i := 124) (by decide +kernel) (by decide +kernel)
theorem lf_X8_9 : Cond.fieldLink RX8 9 "StuckTowns$State" "gravel" "[I" ∈ sg_tbl := sg_mem (i := 187) (by decide +kernel) (by decide +kernel)
theorem lf_X9_15 : Cond.fieldLink RX9 15 "StuckTowns$Survey" "now" "LStuckTowns$State;" ∈ sg_tbl := sg_mem (i := 252) (by decide +kernel) (by decide +kernel)
theorem lf_X9_19 : Cond.fieldLink RX9 19 "StuckTowns$Road" "cells" "I" ∈ sg_tbl := sg_mem (i := 99) (by decide +kernel) (by decide +kernel)
theorem lf_X9_31 : Cond.fieldLink RX9 31 "StuckTowns$Road" "carts" "I" ∈ sg_tbl := sg_mem (i := 109) (by decide +kernel) (by decide +kernel)
theorem lf_X9_37 : Cond.fieldLink RX9 37 "StuckTowns$State" "mayor" "[I" ∈ sg_tbl := sg_mem (i := 195) (by decide +kernel) (by decide +kernel)
theorem lf_X9_60 : Cond.fieldLink RX9 60 "StuckTowns$State" "folk" "[I" ∈ sg_tbl := sg_mem (i := 200) (by decide +kernel) (by decide +kernel)
theorem lf_X9_63 : Cond.fieldLink RX9 63 "StuckTowns$State" "townName" "[I" ∈ sg_tbl := sg_mem (i := 193) (by decide +kernel) (by decide +kernel)
theorem lf_X9_9 : Cond.fieldLink RX9 9 "StuckTowns$Survey" "map" "LStuckTowns$Road;" ∈ sg_tbl := sg_mem (i := 251) (by decide +kernel) (by decide +kernel)
theorem lm_X10_88 : Cond.methodLink RX10 88 Lib.Math.max.name ∈ sg_tbl := sg_mem (i := 787) (by decide +kernel) (by decide +kernel)
theorem lm_X1_101 : Cond.methodLink RX1 101 Lib.Math.max.name ∈ sg_tbl := sg_mem (i := 886) (by decide +kernel) (by decide +kernel)
theorem lm_X2_105 : Cond.methodLink RX2 105 Lib.Math.max.name ∈ sg_tbl := sg_mem (i := 667) (by decide +kernel) (by decide +kernel)
theorem lm_X2_97 : Cond.methodLink RX2 97 Lib.Math.min.name ∈ sg_tbl := sg_mem (i := 657) (by decide +kernel) (by decide +kernel)
theorem lm_X3_40 : Cond.methodLink RX3 40 Lib.Math.min.name ∈ sg_tbl := sg_mem (i := 644) (by decide +kernel) (by decide +kernel)
theorem lm_X3_46 : Cond.methodLink RX3 46 Lib.Math.max.name ∈ sg_tbl := sg_mem (i := 729) (by decide +kernel) (by decide +kernel)
theorem lm_X6_37 : Cond.methodLink RX6 37 arraycopyName ∈ sg_tbl := sg_mem (i := 509) (by decide +kernel) (by decide +kernel)
theorem lm_X8_51 : Cond.methodLink RX8 51 arraycopyName ∈ sg_tbl := sg_mem (i := 410) (by decide +kernel) (by decide +kernel)
theorem lm_X9_41 : Cond.methodLink RX9 41 Lib.Math.abs.name ∈ sg_tbl := sg_mem (i := 585) (by decide +kernel) (by decide +kernel)
theorem lm_X9_54 : Cond.methodLink RX9 54 Lib.Math.max.name ∈ sg_tbl := sg_mem (i := 588) (by decide +kernel) (by decide +kernel)
theorem sg_acw : Cond.native arraycopyName ∈ sg_tbl ∧ Cond.static arraycopyName ∈ sg_tbl ∧ Cond.initialized "java/lang/System" ∈ sg_tbl := ⟨sg_mem (i := 412) (by decide +kernel) (by decide +kernel), sg_mem (i := 411) (by decide +kernel) (by decide +kernel), sg_mem (i := 75) (by decide +kernel) (by decide +kernel)⟩
theorem sg_mw_max : Cond.static Lib.Math.max.name ∈ sg_tbl ∧ Cond.initialized "java/lang/Math" ∈ sg_tbl ∧ Cond.code Lib.Math.max.name Lib.Math.max.code 2 (some .int) ∈ sg_tbl := ⟨sg_mem (i := 327) (by decide +kernel) (by decide +kernel), sg_mem (i := 71) (by decide +kernel) (by decide +kernel), sg_mem (i := 328) (by decide +kernel) (by decide +kernel)⟩
theorem sg_mw_min : Cond.static Lib.Math.min.name ∈ sg_tbl ∧ Cond.initialized "java/lang/Math" ∈ sg_tbl ∧ Cond.code Lib.Math.min.name Lib.Math.min.code 2 (some .int) ∈ sg_tbl := ⟨sg_mem (i := 645) (by decide +kernel) (by decide +kernel), sg_mem (i := 71) (by decide +kernel) (by decide +kernel), sg_mem (i := 646) (by decide +kernel) (by decide +kernel)⟩
theorem sg_mw_abs : Cond.static Lib.Math.abs.name ∈ sg_tbl ∧ Cond.initialized "java/lang/Math" ∈ sg_tbl ∧ Cond.code Lib.Math.abs.name Lib.Math.abs.code 1 (some .int) ∈ sg_tbl := ⟨sg_mem (i := 586) (by decide +kernel) (by decide +kernel), sg_mem (i := 71) (by decide +kernel) (by decide +kernel), sg_mem (i := 587) (by decide +kernel) (by decide +kernel)⟩
theorem cw_X11_doByDraw : Cond.code yX11_doByDraw cX11_doByDraw 3 none ∈ sg_tbl := sg_mem (i := 712) (by decide +kernel) (by decide +kernel)
theorem cw_X11_drawOf : Cond.code yX11_drawOf cX11_drawOf 2 (some .int) ∈ sg_tbl := sg_mem (i := 716) (by decide +kernel) (by decide +kernel)
theorem cw_X11_refusalOfDays : Cond.code yX11_refusalOfDays cX11_refusalOfDays 2 (some .int) ∈ sg_tbl := sg_mem (i := 675) (by decide +kernel) (by decide +kernel)
theorem cw_X0_append : Cond.code yX0_append cX0_append 3 none ∈ sg_tbl := sg_mem (i := 853) (by decide +kernel) (by decide +kernel)
theorem cw_X0_isFull : Cond.code yX0_isFull cX0_isFull 1 (some .boolean) ∈ sg_tbl := sg_mem (i := 849) (by decide +kernel) (by decide +kernel)
theorem cw_X1_bestToSend : Cond.code yX1_bestToSend cX1_bestToSend 5 (some .int) ∈ sg_tbl := sg_mem (i := 878) (by decide +kernel) (by decide +kernel)
theorem cw_X1_fittingRains : Cond.code yX1_fittingRains cX1_fittingRains 2 (some (.object "StuckTowns$Span")) ∈ sg_tbl := sg_mem (i := 862) (by decide +kernel) (by decide +kernel)
theorem cw_X1_greatestPart : Cond.code yX1_greatestPart cX1_greatestPart 5 (some .int) ∈ sg_tbl := sg_mem (i := 884) (by decide +kernel) (by decide +kernel)
theorem cw_X1_isAsHeard : Cond.code yX1_isAsHeard cX1_isAsHeard 4 (some .boolean) ∈ sg_tbl := sg_mem (i := 867) (by decide +kernel) (by decide +kernel)
theorem cw_X2_driveOut : Cond.code yX2_driveOut cX2_driveOut 3 (some .int) ∈ sg_tbl := sg_mem (i := 650) (by decide +kernel) (by decide +kernel)
theorem cw_X2_groundFor : Cond.code yX2_groundFor cX2_groundFor 6 (some .int) ∈ sg_tbl := sg_mem (i := 568) (by decide +kernel) (by decide +kernel)
theorem cw_X2_layGravel : Cond.code yX2_layGravel cX2_layGravel 3 none ∈ sg_tbl := sg_mem (i := 687) (by decide +kernel) (by decide +kernel)
theorem cw_X2_passDay : Cond.code yX2_passDay cX2_passDay 1 none ∈ sg_tbl := sg_mem (i := 679) (by decide +kernel) (by decide +kernel)
theorem cw_X2_pullOut : Cond.code yX2_pullOut cX2_pullOut 3 (some .int) ∈ sg_tbl := sg_mem (i := 665) (by decide +kernel) (by decide +kernel)
theorem cw_X2_settle : Cond.code yX2_settle cX2_settle 3 none ∈ sg_tbl := sg_mem (i := 655) (by decide +kernel) (by decide +kernel)
theorem cw_X2_sinkOf : Cond.code yX2_sinkOf cX2_sinkOf 5 (some .int) ∈ sg_tbl := sg_mem (i := 564) (by decide +kernel) (by decide +kernel)
theorem cw_X2_stopBehind : Cond.code yX2_stopBehind cX2_stopBehind 3 (some .int) ∈ sg_tbl := sg_mem (i := 555) (by decide +kernel) (by decide +kernel)
theorem cw_X2_stopOf : Cond.code yX2_stopOf cX2_stopOf 5 (some .int) ∈ sg_tbl := sg_mem (i := 560) (by decide +kernel) (by decide +kernel)
theorem cw_X2_weightOf : Cond.code yX2_weightOf cX2_weightOf 3 (some .int) ∈ sg_tbl := sg_mem (i := 572) (by decide +kernel) (by decide +kernel)
theorem cw_X2_wetBehind : Cond.code yX2_wetBehind cX2_wetBehind 4 (some .int) ∈ sg_tbl := sg_mem (i := 526) (by decide +kernel) (by decide +kernel)
theorem cw_X3_fetchImage : Cond.code yX3_fetchImage cX3_fetchImage 3 none ∈ sg_tbl := sg_mem (i := 927) (by decide +kernel) (by decide +kernel)
theorem cw_X3_forgetAll : Cond.code yX3_forgetAll cX3_forgetAll 2 none ∈ sg_tbl := sg_mem (i := 513) (by decide +kernel) (by decide +kernel)
theorem cw_X3_hasKept : Cond.code yX3_hasKept cX3_hasKept 2 (some .boolean) ∈ sg_tbl := sg_mem (i := 923) (by decide +kernel) (by decide +kernel)
theorem cw_X3_hasRoomFor : Cond.code yX3_hasRoomFor cX3_hasRoomFor 2 (some .boolean) ∈ sg_tbl := sg_mem (i := 910) (by decide +kernel) (by decide +kernel)
theorem cw_X3_keepImage : Cond.code yX3_keepImage cX3_keepImage 4 none ∈ sg_tbl := sg_mem (i := 914) (by decide +kernel) (by decide +kernel)
theorem cw_X3_remember : Cond.code yX3_remember cX3_remember 2 none ∈ sg_tbl := sg_mem (i := 639) (by decide +kernel) (by decide +kernel)
theorem cw_X3_seedOfImage : Cond.code yX3_seedOfImage cX3_seedOfImage 2 (some .int) ∈ sg_tbl := sg_mem (i := 932) (by decide +kernel) (by decide +kernel)
theorem cw_X3_takeBack : Cond.code yX3_takeBack cX3_takeBack 2 none ∈ sg_tbl := sg_mem (i := 728) (by decide +kernel) (by decide +kernel)
theorem cw_X4_look : Cond.code yX4_look cX4_look 5 none ∈ sg_tbl := sg_mem (i := 809) (by decide +kernel) (by decide +kernel)
theorem cw_X4_sendNext : Cond.code yX4_sendNext cX4_sendNext 10 none ∈ sg_tbl := sg_mem (i := 814) (by decide +kernel) (by decide +kernel)
theorem cw_X5_append : Cond.code yX5_append cX5_append 2 none ∈ sg_tbl := sg_mem (i := 459) (by decide +kernel) (by decide +kernel)
theorem cw_X5_fail : Cond.code yX5_fail cX5_fail 3 none ∈ sg_tbl := sg_mem (i := 480) (by decide +kernel) (by decide +kernel)
theorem cw_X5_isFigure : Cond.code yX5_isFigure cX5_isFigure 2 (some .boolean) ∈ sg_tbl := sg_mem (i := 500) (by decide +kernel) (by decide +kernel)
theorem cw_X5_isOneTooMany : Cond.code yX5_isOneTooMany cX5_isOneTooMany 2 (some .boolean) ∈ sg_tbl := sg_mem (i := 484) (by decide +kernel) (by decide +kernel)
theorem cw_X5_nextLetter : Cond.code yX5_nextLetter cX5_nextLetter 1 (some .int) ∈ sg_tbl := sg_mem (i := 472) (by decide +kernel) (by decide +kernel)
theorem cw_X5_readCart : Cond.code yX5_readCart cX5_readCart 2 none ∈ sg_tbl := sg_mem (i := 504) (by decide +kernel) (by decide +kernel)
theorem cw_X5_readClause : Cond.code yX5_readClause cX5_readClause 2 none ∈ sg_tbl := sg_mem (i := 476) (by decide +kernel) (by decide +kernel)
theorem cw_X5_readNumber : Cond.code yX5_readNumber cX5_readNumber 5 (some .int) ∈ sg_tbl := sg_mem (i := 496) (by decide +kernel) (by decide +kernel)
theorem cw_X5_readRest : Cond.code yX5_readRest cX5_readRest 2 none ∈ sg_tbl := sg_mem (i := 488) (by decide +kernel) (by decide +kernel)
theorem cw_X5_readRow : Cond.code yX5_readRow cX5_readRow 9 (some .int) ∈ sg_tbl := sg_mem (i := 492) (by decide +kernel) (by decide +kernel)
theorem cw_X5_readText : Cond.code yX5_readText cX5_readText 2 (some .int) ∈ sg_tbl := sg_mem (i := 467) (by decide +kernel) (by decide +kernel)
theorem cw_X6_become : Cond.code yX6_become cX6_become 2 none ∈ sg_tbl := sg_mem (i := 508) (by decide +kernel) (by decide +kernel)
theorem cw_X6_clear : Cond.code yX6_clear cX6_clear 1 none ∈ sg_tbl := sg_mem (i := 402) (by decide +kernel) (by decide +kernel)
theorem cw_X6_hasCart : Cond.code yX6_hasCart cX6_hasCart 2 (some .boolean) ∈ sg_tbl := sg_mem (i := 620) (by decide +kernel) (by decide +kernel)
theorem cw_X6_hasCarts : Cond.code yX6_hasCarts cX6_hasCarts 2 (some .boolean) ∈ sg_tbl := sg_mem (i := 795) (by decide +kernel) (by decide +kernel)
theorem cw_X6_hasCell : Cond.code yX6_hasCell cX6_hasCell 2 (some .boolean) ∈ sg_tbl := sg_mem (i := 576) (by decide +kernel) (by decide +kernel)
theorem cw_X6_weatherOn : Cond.code yX6_weatherOn cX6_weatherOn 2 (some .int) ∈ sg_tbl := sg_mem (i := 530) (by decide +kernel) (by decide +kernel)
theorem cw_X7_answer : Cond.code yX7_answer cX7_answer 2 (some .int) ∈ sg_tbl := sg_mem (i := 768) (by decide +kernel) (by decide +kernel)
theorem cw_X7_clear : Cond.code yX7_clear cX7_clear 1 none ∈ sg_tbl := sg_mem (i := 759) (by decide +kernel) (by decide +kernel)
theorem cw_X7_put : Cond.code yX7_put cX7_put 2 none ∈ sg_tbl := sg_mem (i := 764) (by decide +kernel) (by decide +kernel)
theorem cw_X8_begin : Cond.code yX8_begin cX8_begin 2 none ∈ sg_tbl := sg_mem (i := 406) (by decide +kernel) (by decide +kernel)
theorem cw_X8_clearTown : Cond.code yX8_clearTown cX8_clearTown 2 none ∈ sg_tbl := sg_mem (i := 704) (by decide +kernel) (by decide +kernel)
theorem cw_X8_copyFrom : Cond.code yX8_copyFrom cX8_copyFrom 4 none ∈ sg_tbl := sg_mem (i := 733) (by decide +kernel) (by decide +kernel)
theorem cw_X8_copyTo : Cond.code yX8_copyTo cX8_copyTo 4 none ∈ sg_tbl := sg_mem (i := 643) (by decide +kernel) (by decide +kernel)
theorem cw_X8_folkAt : Cond.code yX8_folkAt cX8_folkAt 2 (some .int) ∈ sg_tbl := sg_mem (i := 600) (by decide +kernel) (by decide +kernel)
theorem cw_X8_hasTown : Cond.code yX8_hasTown cX8_hasTown 2 (some .boolean) ∈ sg_tbl := sg_mem (i := 538) (by decide +kernel) (by decide +kernel)
theorem cw_X8_isStuck : Cond.code yX8_isStuck cX8_isStuck 2 (some .boolean) ∈ sg_tbl := sg_mem (i := 546) (by decide +kernel) (by decide +kernel)
theorem cw_X9_bestPlace : Cond.code yX9_bestPlace cX9_bestPlace 5 (some .int) ∈ sg_tbl := sg_mem (i := 822) (by decide +kernel) (by decide +kernel)
theorem cw_X9_biggest : Cond.code yX9_biggest cX9_biggest 4 (some .int) ∈ sg_tbl := sg_mem (i := 596) (by decide +kernel) (by decide +kernel)
theorem cw_X9_distanceWith : Cond.code yX9_distanceWith cX9_distanceWith 5 (some .int) ∈ sg_tbl := sg_mem (i := 584) (by decide +kernel) (by decide +kernel)
theorem cw_X9_distancesWith : Cond.code yX9_distancesWith cX9_distancesWith 4 (some .int) ∈ sg_tbl := sg_mem (i := 826) (by decide +kernel) (by decide +kernel)
theorem cw_X9_farthest : Cond.code yX9_farthest cX9_farthest 3 (some .int) ∈ sg_tbl := sg_mem (i := 580) (by decide +kernel) (by decide +kernel)
theorem cw_X9_folkOfAll : Cond.code yX9_folkOfAll cX9_folkOfAll 3 (some .int) ∈ sg_tbl := sg_mem (i := 605) (by decide +kernel) (by decide +kernel)
theorem cw_X9_longestWay : Cond.code yX9_longestWay cX9_longestWay 4 (some .int) ∈ sg_tbl := sg_mem (i := 592) (by decide +kernel) (by decide +kernel)
theorem cw_X9_mayorOf : Cond.code yX9_mayorOf cX9_mayorOf 3 (some .int) ∈ sg_tbl := sg_mem (i := 624) (by decide +kernel) (by decide +kernel)
theorem cw_X9_stuckSet : Cond.code yX9_stuckSet cX9_stuckSet 3 (some .int) ∈ sg_tbl := sg_mem (i := 542) (by decide +kernel) (by decide +kernel)
theorem cw_X9_townSet : Cond.code yX9_townSet cX9_townSet 3 (some .int) ∈ sg_tbl := sg_mem (i := 534) (by decide +kernel) (by decide +kernel)
theorem cw_X9_townsNamed : Cond.code yX9_townsNamed cX9_townsNamed 4 (some .int) ∈ sg_tbl := sg_mem (i := 835) (by decide +kernel) (by decide +kernel)
theorem cw_X10_gravelAhead : Cond.code yX10_gravelAhead cX10_gravelAhead 6 (some .int) ∈ sg_tbl := sg_mem (i := 776) (by decide +kernel) (by decide +kernel)
theorem cw_X10_greatestNeedAt : Cond.code yX10_greatestNeedAt cX10_greatestNeedAt 6 (some .int) ∈ sg_tbl := sg_mem (i := 780) (by decide +kernel) (by decide +kernel)
theorem cw_X10_loadsFor : Cond.code yX10_loadsFor cX10_loadsFor 5 (some (.object "StuckTowns$Span")) ∈ sg_tbl := sg_mem (i := 754) (by decide +kernel) (by decide +kernel)
theorem cw_X10_needAt : Cond.code yX10_needAt cX10_needAt 5 (some .int) ∈ sg_tbl := sg_mem (i := 784) (by decide +kernel) (by decide +kernel)
theorem cw_X10_soonestAt : Cond.code yX10_soonestAt cX10_soonestAt 4 (some .int) ∈ sg_tbl := sg_mem (i := 746) (by decide +kernel) (by decide +kernel)
theorem cw_X10_stopper : Cond.code yX10_stopper cX10_stopper 4 (some .int) ∈ sg_tbl := sg_mem (i := 550) (by decide +kernel) (by decide +kernel)
theorem cw_X12_allFolk : Cond.code yX12_allFolk cX12_allFolk 3 (some .int) ∈ sg_tbl := sg_mem (i := 1181) (by decide +kernel) (by decide +kernel)
theorem cw_X12_biggest : Cond.code yX12_biggest cX12_biggest 3 (some .int) ∈ sg_tbl := sg_mem (i := 1177) (by decide +kernel) (by decide +kernel)
theorem cw_X12_bits : Cond.code yX12_bits cX12_bits 3 (some .int) ∈ sg_tbl := sg_mem (i := 1318) (by decide +kernel) (by decide +kernel)
theorem cw_X12_cell : Cond.code yX12_cell cX12_cell 3 (some .int) ∈ sg_tbl := sg_mem (i := 1185) (by decide +kernel) (by decide +kernel)
theorem cw_X12_chance : Cond.code yX12_chance cX12_chance 5 none ∈ sg_tbl := sg_mem (i := 1269) (by decide +kernel) (by decide +kernel)
theorem cw_X12_copyRow : Cond.code yX12_copyRow cX12_copyRow 4 none ∈ sg_tbl := sg_mem (i := 1102) (by decide +kernel) (by decide +kernel)
theorem cw_X12_couldBe : Cond.code yX12_couldBe cX12_couldBe 4 (some .boolean) ∈ sg_tbl := sg_mem (i := 1348) (by decide +kernel) (by decide +kernel)
theorem cw_X12_daysRefused : Cond.code yX12_daysRefused cX12_daysRefused 2 (some .int) ∈ sg_tbl := sg_mem (i := 1235) (by decide +kernel) (by decide +kernel)
theorem cw_X12_distanceTo : Cond.code yX12_distanceTo cX12_distanceTo 6 (some .int) ∈ sg_tbl := sg_mem (i := 1165) (by decide +kernel) (by decide +kernel)
theorem cw_X12_draw : Cond.code yX12_draw cX12_draw 2 (some .int) ∈ sg_tbl := sg_mem (i := 1273) (by decide +kernel) (by decide +kernel)
theorem cw_X12_driveNow : Cond.code yX12_driveNow cX12_driveNow 3 (some .int) ∈ sg_tbl := sg_mem (i := 1219) (by decide +kernel) (by decide +kernel)
theorem cw_X12_fails : Cond.code yX12_fails cX12_fails 3 (some .int) ∈ sg_tbl := sg_mem (i := 1073) (by decide +kernel) (by decide +kernel)
theorem cw_X12_farOf : Cond.code yX12_farOf cX12_farOf 4 (some .int) ∈ sg_tbl := sg_mem (i := 1161) (by decide +kernel) (by decide +kernel)
theorem cw_X12_foundedBy : Cond.code yX12_foundedBy cX12_foundedBy 11 (some .int) ∈ sg_tbl := sg_mem (i := 1322) (by decide +kernel) (by decide +kernel)
theorem cw_X12_greatestPart : Cond.code yX12_greatestPart cX12_greatestPart 5 (some .int) ∈ sg_tbl := sg_mem (i := 1357) (by decide +kernel) (by decide +kernel)
theorem cw_X12_groundOf : Cond.code yX12_groundOf cX12_groundOf 4 (some .int) ∈ sg_tbl := sg_mem (i := 1150) (by decide +kernel) (by decide +kernel)
theorem cw_X12_has : Cond.code yX12_has cX12_has 2 (some .boolean) ∈ sg_tbl := sg_mem (i := 1169) (by decide +kernel) (by decide +kernel)
theorem cw_X12_here : Cond.code yX12_here cX12_here 1 (some .int) ∈ sg_tbl := sg_mem (i := 1065) (by decide +kernel) (by decide +kernel)
theorem cw_X12_in : Cond.code yX12_in cX12_in 6 (some .boolean) ∈ sg_tbl := sg_mem (i := 1055) (by decide +kernel) (by decide +kernel)
theorem cw_X12_into : Cond.code yX12_into cX12_into 6 (some .int) ∈ sg_tbl := sg_mem (i := 1081) (by decide +kernel) (by decide +kernel)
theorem cw_X12_isCart : Cond.code yX12_isCart cX12_isCart 2 (some .boolean) ∈ sg_tbl := sg_mem (i := 1198) (by decide +kernel) (by decide +kernel)
theorem cw_X12_isCell : Cond.code yX12_isCell cX12_isCell 2 (some .boolean) ∈ sg_tbl := sg_mem (i := 1189) (by decide +kernel) (by decide +kernel)
theorem cw_X12_isSet : Cond.code yX12_isSet cX12_isSet 2 (some .boolean) ∈ sg_tbl := sg_mem (i := 1311) (by decide +kernel) (by decide +kernel)
theorem cw_X12_isTown : Cond.code yX12_isTown cX12_isTown 2 (some .boolean) ∈ sg_tbl := sg_mem (i := 1130) (by decide +kernel) (by decide +kernel)
theorem cw_X12_layNow : Cond.code yX12_layNow cX12_layNow 4 none ∈ sg_tbl := sg_mem (i := 1249) (by decide +kernel) (by decide +kernel)
theorem cw_X12_longest : Cond.code yX12_longest cX12_longest 4 (some .int) ∈ sg_tbl := sg_mem (i := 1173) (by decide +kernel) (by decide +kernel)
theorem cw_X12_mayorOf : Cond.code yX12_mayorOf cX12_mayorOf 3 (some .int) ∈ sg_tbl := sg_mem (i := 1202) (by decide +kernel) (by decide +kernel)
theorem cw_X12_needOf : Cond.code yX12_needOf cX12_needOf 4 (some .int) ∈ sg_tbl := sg_mem (i := 1303) (by decide +kernel) (by decide +kernel)
theorem cw_X12_notBelow : Cond.code yX12_notBelow cX12_notBelow 1 (some .int) ∈ sg_tbl := sg_mem (i := 1153) (by decide +kernel) (by decide +kernel)
theorem cw_X12_pass : Cond.code yX12_pass cX12_pass 1 none ∈ sg_tbl := sg_mem (i := 1240) (by decide +kernel) (by decide +kernel)
theorem cw_X12_pullNow : Cond.code yX12_pullNow cX12_pullNow 3 (some .int) ∈ sg_tbl := sg_mem (i := 1227) (by decide +kernel) (by decide +kernel)
theorem cw_X12_rains : Cond.code yX12_rains cX12_rains 6 (some .int) ∈ sg_tbl := sg_mem (i := 1344) (by decide +kernel) (by decide +kernel)
theorem cw_X12_remember : Cond.code yX12_remember cX12_remember 2 none ∈ sg_tbl := sg_mem (i := 1215) (by decide +kernel) (by decide +kernel)
theorem cw_X12_stopBy : Cond.code yX12_stopBy cX12_stopBy 5 (some .int) ∈ sg_tbl := sg_mem (i := 1146) (by decide +kernel) (by decide +kernel)
theorem cw_X12_stopOf : Cond.code yX12_stopOf cX12_stopOf 3 (some .int) ∈ sg_tbl := sg_mem (i := 1142) (by decide +kernel) (by decide +kernel)
theorem cw_X12_stopper : Cond.code yX12_stopper cX12_stopper 6 (some .int) ∈ sg_tbl := sg_mem (i := 1138) (by decide +kernel) (by decide +kernel)
theorem cw_X12_stuckOnes : Cond.code yX12_stuckOnes cX12_stuckOnes 3 (some .int) ∈ sg_tbl := sg_mem (i := 1134) (by decide +kernel) (by decide +kernel)
theorem cw_X12_takeCart : Cond.code yX12_takeCart cX12_takeCart 3 (some .int) ∈ sg_tbl := sg_mem (i := 1095) (by decide +kernel) (by decide +kernel)
theorem cw_X12_takeClause : Cond.code yX12_takeClause cX12_takeClause 5 (some .int) ∈ sg_tbl := sg_mem (i := 1069) (by decide +kernel) (by decide +kernel)
theorem cw_X12_takeNumber : Cond.code yX12_takeNumber cX12_takeNumber 4 (some .int) ∈ sg_tbl := sg_mem (i := 1085) (by decide +kernel) (by decide +kernel)
theorem cw_X12_takeRead : Cond.code yX12_takeRead cX12_takeRead 2 none ∈ sg_tbl := sg_mem (i := 1099) (by decide +kernel) (by decide +kernel)
theorem cw_X12_takeRoad : Cond.code yX12_takeRoad cX12_takeRoad 2 (some .int) ∈ sg_tbl := sg_mem (i := 1077) (by decide +kernel) (by decide +kernel)
theorem cw_X12_takeWeather : Cond.code yX12_takeWeather cX12_takeWeather 2 (some .int) ∈ sg_tbl := sg_mem (i := 1091) (by decide +kernel) (by decide +kernel)
theorem cw_X12_towns : Cond.code yX12_towns cX12_towns 3 (some .int) ∈ sg_tbl := sg_mem (i := 1126) (by decide +kernel) (by decide +kernel)
theorem cw_X12_weatherOf : Cond.code yX12_weatherOf cX12_weatherOf 2 (some .int) ∈ sg_tbl := sg_mem (i := 1122) (by decide +kernel) (by decide +kernel)
theorem cw_X12_weighs : Cond.code yX12_weighs cX12_weighs 3 (some .int) ∈ sg_tbl := sg_mem (i := 1157) (by decide +kernel) (by decide +kernel)
theorem cw_X12_wet : Cond.code yX12_wet cX12_wet 1 (some .int) ∈ sg_tbl := sg_mem (i := 1114) (by decide +kernel) (by decide +kernel)
theorem cw_X12_wetBehind : Cond.code yX12_wetBehind cX12_wetBehind 4 (some .int) ∈ sg_tbl := sg_mem (i := 1118) (by decide +kernel) (by decide +kernel)
theorem cw_J6_bitCount_0f7a4 : Cond.code yJ6_bitCount_0f7a4 cJ6_bitCount_0f7a4 1 (some .int) ∈ sg_tbl := sg_mem (i := 802) (by decide +kernel) (by decide +kernel)
theorem cw_J7_fill_53178 : Cond.code yJ7_fill_53178 cJ7_fill_53178 4 none ∈ sg_tbl := sg_mem (i := 409) (by decide +kernel) (by decide +kernel)
theorem ci_X11 : Cond.initialized RX11 ∈ sg_tbl := sg_mem (i := 61) (by decide +kernel) (by decide +kernel)
theorem ci_X0 : Cond.initialized RX0 ∈ sg_tbl := sg_mem (i := 70) (by decide +kernel) (by decide +kernel)
theorem ci_X1 : Cond.initialized RX1 ∈ sg_tbl := sg_mem (i := 72) (by decide +kernel) (by decide +kernel)
theorem ci_X2 : Cond.initialized RX2 ∈ sg_tbl := sg_mem (i := 65) (by decide +kernel) (by decide +kernel)
theorem ci_X3 : Cond.initialized RX3 ∈ sg_tbl := sg_mem (i := 73) (by decide +kernel) (by decide +kernel)
theorem ci_X4 : Cond.initialized RX4 ∈ sg_tbl := sg_mem (i := 69) (by decide +kernel) (by decide +kernel)
theorem ci_X5 : Cond.initialized RX5 ∈ sg_tbl := sg_mem (i := 62) (by decide +kernel) (by decide +kernel)
theorem ci_X6 : Cond.initialized RX6 ∈ sg_tbl := sg_mem (i := 63) (by decide +kernel) (by decide +kernel)
theorem ci_X7 : Cond.initialized RX7 ∈ sg_tbl := sg_mem (i := 68) (by decide +kernel) (by decide +kernel)
theorem ci_X8 : Cond.initialized RX8 ∈ sg_tbl := sg_mem (i := 64) (by decide +kernel) (by decide +kernel)
theorem ci_X9 : Cond.initialized RX9 ∈ sg_tbl := sg_mem (i := 66) (by decide +kernel) (by decide +kernel)
theorem ci_X10 : Cond.initialized RX10 ∈ sg_tbl := sg_mem (i := 67) (by decide +kernel) (by decide +kernel)
theorem ci_X12 : Cond.initialized RX12 ∈ sg_tbl := sg_mem (i := 76) (by decide +kernel) (by decide +kernel)
theorem ci_J6 : Cond.initialized RJ6 ∈ sg_tbl := sg_mem (i := 77) (by decide +kernel) (by decide +kernel)
theorem ci_J7 : Cond.initialized RJ7 ∈ sg_tbl := sg_mem (i := 74) (by decide +kernel) (by decide +kernel)
theorem kb_X11_95 : sg_kB RX11 95 yX8_begin cX8_begin 2 none 1 := ⟨cw_X8_begin, ci_X8, sg_mem (i := 403) (by decide +kernel) (by decide +kernel), by decide +kernel, by decide⟩
theorem kb_X11_105 : sg_kB RX11 105 yX5_append cX5_append 2 none 1 := ⟨cw_X5_append, ci_X5, sg_mem (i := 456) (by decide +kernel) (by decide +kernel), by decide +kernel, by decide⟩
theorem kb_X11_108 : sg_kB RX11 108 yX5_readText cX5_readText 2 (some .int) 0 := ⟨cw_X5_readText, ci_X5, sg_mem (i := 464) (by decide +kernel) (by decide +kernel), by decide +kernel, by decide⟩
theorem kb_X11_115 : sg_kB RX11 115 yX6_become cX6_become 2 none 1 := ⟨cw_X6_become, ci_X6, sg_mem (i := 505) (by decide +kernel) (by decide +kernel), by decide +kernel, by decide⟩
theorem kb_X11_121 : sg_kB RX11 121 yX3_forgetAll cX3_forgetAll 2 none 0 := ⟨cw_X3_forgetAll, ci_X3, sg_mem (i := 510) (by decide +kernel) (by decide +kernel), by decide +kernel, by decide⟩
theorem kb_X11_136 : sg_kB RX11 136 yX2_wetBehind cX2_wetBehind 4 (some .int) 1 := ⟨cw_X2_wetBehind, ci_X2, sg_mem (i := 523) (by decide +kernel) (by decide +kernel), by decide +kernel, by decide⟩
theorem kb_X11_143 : sg_kB RX11 143 yX9_townSet cX9_townSet 3 (some .int) 0 := ⟨cw_X9_townSet, ci_X9, sg_mem (i := 531) (by decide +kernel) (by decide +kernel), by decide +kernel, by decide⟩
theorem kb_X11_146 : sg_kB RX11 146 yX9_stuckSet cX9_stuckSet 3 (some .int) 0 := ⟨cw_X9_stuckSet, ci_X9, sg_mem (i := 539) (by decide +kernel) (by decide +kernel), by decide +kernel, by decide⟩
theorem kb_X11_149 : sg_kB RX11 149 yX10_stopper cX10_stopper 4 (some .int) 0 := ⟨cw_X10_stopper, ci_X10, sg_mem (i := 547) (by decide +kernel) (by decide +kernel), by decide +kernel, by decide⟩
theorem kb_X11_152 : sg_kB RX11 152 yX9_farthest cX9_farthest 3 (some .int) 0 := ⟨cw_X9_farthest, ci_X9, sg_mem (i := 577) (by decide +kernel) (by decide +kernel), by decide +kernel, by decide⟩
theorem kb_X11_155 : sg_kB RX11 155 yX9_longestWay cX9_longestWay 4 (some .int) 0 := ⟨cw_X9_longestWay, ci_X9, sg_mem (i := 589) (by decide +kernel) (by decide +kernel), by decide +kernel, by decide⟩
theorem kb_X11_158 : sg_kB RX11 158 yX9_biggest cX9_biggest 4 (some .int) 0 := ⟨cw_X9_biggest, ci_X9, sg_mem (i := 593) (by decide +kernel) (by decide +kernel), by decide +kernel, by decide⟩
theorem kb_X11_161 : sg_kB RX11 161 yX9_folkOfAll cX9_folkOfAll 3 (some .int) 0 := ⟨cw_X9_folkOfAll, ci_X9, sg_mem (i := 602) (by decide +kernel) (by decide +kernel), by decide +kernel, by decide⟩
theorem kb_X11_167 : sg_kB RX11 167 yX6_hasCell cX6_hasCell 2 (some .boolean) 1 := ⟨cw_X6_hasCell, ci_X6, sg_mem (i := 610) (by decide +kernel) (by decide +kernel), by decide +kernel, by decide⟩
theorem kb_X11_185 : sg_kB RX11 185 yX8_folkAt cX8_folkAt 2 (some .int) 1 := ⟨cw_X8_folkAt, ci_X8, sg_mem (i := 612) (by decide +kernel) (by decide +kernel), by decide +kernel, by decide⟩
theorem kb_X11_188 : sg_kB RX11 188 yX6_hasCart cX6_hasCart 2 (some .boolean) 1 := ⟨cw_X6_hasCart, ci_X6, sg_mem (i := 617) (by decide +kernel) (by decide +kernel), by decide +kernel, by decide⟩
theorem kb_X11_206 : sg_kB RX11 206 yX9_mayorOf cX9_mayorOf 3 (some .int) 1 := ⟨cw_X9_mayorOf, ci_X9, sg_mem (i := 621) (by decide +kernel) (by decide +kernel), by decide +kernel, by decide⟩
theorem kb_X11_209 : sg_kB RX11 209 yX2_sinkOf cX2_sinkOf 5 (some .int) 4 := ⟨cw_X2_sinkOf, ci_X2, sg_mem (i := 629) (by decide +kernel) (by decide +kernel), by decide +kernel, by decide⟩
theorem kb_X11_213 : sg_kB RX11 213 yX8_isStuck cX8_isStuck 2 (some .boolean) 1 := ⟨cw_X8_isStuck, ci_X8, sg_mem (i := 634) (by decide +kernel) (by decide +kernel), by decide +kernel, by decide⟩
theorem kb_X11_217 : sg_kB RX11 217 yX3_remember cX3_remember 2 none 1 := ⟨cw_X3_remember, ci_X3, sg_mem (i := 636) (by decide +kernel) (by decide +kernel), by decide +kernel, by decide⟩
theorem kb_X11_221 : sg_kB RX11 221 yX2_driveOut cX2_driveOut 3 (some .int) 1 := ⟨cw_X2_driveOut, ci_X2, sg_mem (i := 647) (by decide +kernel) (by decide +kernel), by decide +kernel, by decide⟩
theorem kb_X11_224 : sg_kB RX11 224 yX2_pullOut cX2_pullOut 3 (some .int) 1 := ⟨cw_X2_pullOut, ci_X2, sg_mem (i := 662) (by decide +kernel) (by decide +kernel), by decide +kernel, by decide⟩
theorem kb_X11_227 : sg_kB RX11 227 yX11_refusalOfDays cX11_refusalOfDays 2 (some .int) 1 := ⟨cw_X11_refusalOfDays, ci_X11, sg_mem (i := 672) (by decide +kernel) (by decide +kernel), by decide +kernel, by decide⟩
theorem kb_X11_230 : sg_kB RX11 230 yX2_passDay cX2_passDay 1 none 0 := ⟨cw_X2_passDay, ci_X2, sg_mem (i := 676) (by decide +kernel) (by decide +kernel), by decide +kernel, by decide⟩
theorem kb_X11_233 : sg_kB RX11 233 yX2_layGravel cX2_layGravel 3 none 2 := ⟨cw_X2_layGravel, ci_X2, sg_mem (i := 684) (by decide +kernel) (by decide +kernel), by decide +kernel, by decide⟩
theorem kb_X11_237 : sg_kB RX11 237 yX8_hasTown cX8_hasTown 2 (some .boolean) 1 := ⟨cw_X8_hasTown, ci_X8, sg_mem (i := 700) (by decide +kernel) (by decide +kernel), by decide +kernel, by decide⟩
theorem kb_X11_243 : sg_kB RX11 243 yX8_clearTown cX8_clearTown 2 none 1 := ⟨cw_X8_clearTown, ci_X8, sg_mem (i := 701) (by decide +kernel) (by decide +kernel), by decide +kernel, by decide⟩
theorem kb_X11_246 : sg_kB RX11 246 yX11_doByDraw cX11_doByDraw 3 none 0 := ⟨cw_X11_doByDraw, ci_X11, sg_mem (i := 709) (by decide +kernel) (by decide +kernel), by decide +kernel, by decide⟩
theorem kb_X11_249 : sg_kB RX11 249 yX3_takeBack cX3_takeBack 2 none 1 := ⟨cw_X3_takeBack, ci_X3, sg_mem (i := 725) (by decide +kernel) (by decide +kernel), by decide +kernel, by decide⟩
theorem kb_X11_252 : sg_kB RX11 252 yX2_stopBehind cX2_stopBehind 3 (some .int) 2 := ⟨cw_X2_stopBehind, ci_X2, sg_mem (i := 738) (by decide +kernel) (by decide +kernel), by decide +kernel, by decide⟩
theorem kb_X11_256 : sg_kB RX11 256 yX10_soonestAt cX10_soonestAt 4 (some .int) 2 := ⟨cw_X10_soonestAt, ci_X10, sg_mem (i := 743) (by decide +kernel) (by decide +kernel), by decide +kernel, by decide⟩
theorem kb_X11_259 : sg_kB RX11 259 yX10_loadsFor cX10_loadsFor 5 (some (.object "StuckTowns$Span")) 2 := ⟨cw_X10_loadsFor, ci_X10, sg_mem (i := 751) (by decide +kernel) (by decide +kernel), by decide +kernel, by decide⟩
theorem kb_X11_263 : sg_kB RX11 263 yX7_answer cX7_answer 2 (some .int) 1 := ⟨cw_X7_answer, ci_X7, sg_mem (i := 765) (by decide +kernel) (by decide +kernel), by decide +kernel, by decide⟩
theorem kb_X11_268 : sg_kB RX11 268 yX10_gravelAhead cX10_gravelAhead 6 (some .int) 2 := ⟨cw_X10_gravelAhead, ci_X10, sg_mem (i := 773) (by decide +kernel) (by decide +kernel), by decide +kernel, by decide⟩
theorem kb_X11_271 : sg_kB RX11 271 yX6_hasCarts cX6_hasCarts 2 (some .boolean) 1 := ⟨cw_X6_hasCarts, ci_X6, sg_mem (i := 792) (by decide +kernel) (by decide +kernel), by decide +kernel, by decide⟩
theorem kb_X11_274 : sg_kB RX11 274 yJ6_bitCount_0f7a4 cJ6_bitCount_0f7a4 1 (some .int) 1 := ⟨cw_J6_bitCount_0f7a4, ci_J6, sg_mem (i := 800) (by decide +kernel) (by decide +kernel), by decide +kernel, by decide⟩
theorem kb_X11_279 : sg_kB RX11 279 yX4_look cX4_look 5 none 2 := ⟨cw_X4_look, ci_X4, sg_mem (i := 806) (by decide +kernel) (by decide +kernel), by decide +kernel, by decide⟩
theorem kb_X11_288 : sg_kB RX11 288 yX9_bestPlace cX9_bestPlace 5 (some .int) 0 := ⟨cw_X9_bestPlace, ci_X9, sg_mem (i := 819) (by decide +kernel) (by decide +kernel), by decide +kernel, by decide⟩
theorem kb_X11_291 : sg_kB RX11 291 yX9_distancesWith cX9_distancesWith 4 (some .int) 1 := ⟨cw_X9_distancesWith, ci_X9, sg_mem (i := 827) (by decide +kernel) (by decide +kernel), by decide +kernel, by decide⟩
theorem kb_X11_294 : sg_kB RX11 294 yX9_townsNamed cX9_townsNamed 4 (some .int) 1 := ⟨cw_X9_townsNamed, ci_X9, sg_mem (i := 832) (by decide +kernel) (by decide +kernel), by decide +kernel, by decide⟩
theorem kb_X11_301 : sg_kB RX11 301 yX0_isFull cX0_isFull 1 (some .boolean) 0 := ⟨cw_X0_isFull, ci_X0, sg_mem (i := 846) (by decide +kernel) (by decide +kernel), by decide +kernel, by decide⟩
theorem kb_X11_305 : sg_kB RX11 305 yX0_append cX0_append 3 none 2 := ⟨cw_X0_append, ci_X0, sg_mem (i := 850) (by decide +kernel) (by decide +kernel), by decide +kernel, by decide⟩
theorem kb_X11_307 : sg_kB RX11 307 yX1_fittingRains cX1_fittingRains 2 (some (.object "StuckTowns$Span")) 0 := ⟨cw_X1_fittingRains, ci_X1, sg_mem (i := 859) (by decide +kernel) (by decide +kernel), by decide +kernel, by decide⟩
theorem kb_X11_311 : sg_kB RX11 311 yX1_bestToSend cX1_bestToSend 5 (some .int) 0 := ⟨cw_X1_bestToSend, ci_X1, sg_mem (i := 875) (by decide +kernel) (by decide +kernel), by decide +kernel, by decide⟩
theorem kb_X11_323 : sg_kB RX11 323 yX3_hasRoomFor cX3_hasRoomFor 2 (some .boolean) 1 := ⟨cw_X3_hasRoomFor, ci_X3, sg_mem (i := 907) (by decide +kernel) (by decide +kernel), by decide +kernel, by decide⟩
theorem kb_X11_326 : sg_kB RX11 326 yX3_keepImage cX3_keepImage 4 none 3 := ⟨cw_X3_keepImage, ci_X3, sg_mem (i := 911) (by decide +kernel) (by decide +kernel), by decide +kernel, by decide⟩
theorem kb_X11_330 : sg_kB RX11 330 yX3_hasKept cX3_hasKept 2 (some .boolean) 1 := ⟨cw_X3_hasKept, ci_X3, sg_mem (i := 920) (by decide +kernel) (by decide +kernel), by decide +kernel, by decide⟩
theorem kb_X11_333 : sg_kB RX11 333 yX3_fetchImage cX3_fetchImage 3 none 2 := ⟨cw_X3_fetchImage, ci_X3, sg_mem (i := 924) (by decide +kernel) (by decide +kernel), by decide +kernel, by decide⟩
theorem kb_X11_337 : sg_kB RX11 337 yX3_seedOfImage cX3_seedOfImage 2 (some .int) 1 := ⟨cw_X3_seedOfImage, ci_X3, sg_mem (i := 929) (by decide +kernel) (by decide +kernel), by decide +kernel, by decide⟩
theorem kb_X11_340 : sg_kB RX11 340 yX11_drawOf cX11_drawOf 2 (some .int) 1 := ⟨cw_X11_drawOf, ci_X11, sg_mem (i := 713) (by decide +kernel) (by decide +kernel), by decide +kernel, by decide⟩
theorem kb_X0_26 : sg_kB RX0 26 yX0_isFull cX0_isFull 1 (some .boolean) 0 := ⟨cw_X0_isFull, ci_X0, sg_mem (i := 854) (by decide +kernel) (by decide +kernel), by decide +kernel, by decide⟩
theorem kb_X1_51 : sg_kB RX1 51 yX6_hasCart cX6_hasCart 2 (some .boolean) 1 := ⟨cw_X6_hasCart, ci_X6, sg_mem (i := 868) (by decide +kernel) (by decide +kernel), by decide +kernel, by decide⟩
theorem kb_X1_62 : sg_kB RX1 62 yX2_stopOf cX2_stopOf 5 (some .int) 3 := ⟨cw_X2_stopOf, ci_X2, sg_mem (i := 869) (by decide +kernel) (by decide +kernel), by decide +kernel, by decide⟩
theorem kb_X1_71 : sg_kB RX1 71 yX7_clear cX7_clear 1 none 0 := ⟨cw_X7_clear, ci_X7, sg_mem (i := 863) (by decide +kernel) (by decide +kernel), by decide +kernel, by decide⟩
theorem kb_X1_74 : sg_kB RX1 74 yX1_isAsHeard cX1_isAsHeard 4 (some .boolean) 1 := ⟨cw_X1_isAsHeard, ci_X1, sg_mem (i := 864) (by decide +kernel) (by decide +kernel), by decide +kernel, by decide⟩
theorem kb_X1_77 : sg_kB RX1 77 yX7_put cX7_put 2 none 1 := ⟨cw_X7_put, ci_X7, sg_mem (i := 870) (by decide +kernel) (by decide +kernel), by decide +kernel, by decide⟩
theorem kb_X1_81 : sg_kB RX1 81 yX1_fittingRains cX1_fittingRains 2 (some (.object "StuckTowns$Span")) 0 := ⟨cw_X1_fittingRains, ci_X1, sg_mem (i := 879) (by decide +kernel) (by decide +kernel), by decide +kernel, by decide⟩
theorem kb_X1_85 : sg_kB RX1 85 yX7_answer cX7_answer 2 (some .int) 1 := ⟨cw_X7_answer, ci_X7, sg_mem (i := 880) (by decide +kernel) (by decide +kernel), by decide +kernel, by decide⟩
theorem kb_X1_92 : sg_kB RX1 92 yX1_greatestPart cX1_greatestPart 5 (some .int) 1 := ⟨cw_X1_greatestPart, ci_X1, sg_mem (i := 881) (by decide +kernel) (by decide +kernel), by decide +kernel, by decide⟩
theorem kb_X1_95 : sg_kB RX1 95 yJ7_fill_53178 cJ7_fill_53178 4 none 2 := ⟨cw_J7_fill_53178, ci_J7, sg_mem (i := 885) (by decide +kernel) (by decide +kernel), by decide +kernel, by decide⟩
theorem kb_X2_28 : sg_kB RX2 28 yX6_weatherOn cX6_weatherOn 2 (some .int) 1 := ⟨cw_X6_weatherOn, ci_X6, sg_mem (i := 527) (by decide +kernel) (by decide +kernel), by decide +kernel, by decide⟩
theorem kb_X2_47 : sg_kB RX2 47 yX2_groundFor cX2_groundFor 6 (some .int) 3 := ⟨cw_X2_groundFor, ci_X2, sg_mem (i := 565) (by decide +kernel) (by decide +kernel), by decide +kernel, by decide⟩
theorem kb_X2_51 : sg_kB RX2 51 yX2_weightOf cX2_weightOf 3 (some .int) 2 := ⟨cw_X2_weightOf, ci_X2, sg_mem (i := 569) (by decide +kernel) (by decide +kernel), by decide +kernel, by decide⟩
theorem kb_X2_58 : sg_kB RX2 58 yX2_sinkOf cX2_sinkOf 5 (some .int) 4 := ⟨cw_X2_sinkOf, ci_X2, sg_mem (i := 561) (by decide +kernel) (by decide +kernel), by decide +kernel, by decide⟩
theorem kb_X2_62 : sg_kB RX2 62 yX2_wetBehind cX2_wetBehind 4 (some .int) 1 := ⟨cw_X2_wetBehind, ci_X2, sg_mem (i := 556) (by decide +kernel) (by decide +kernel), by decide +kernel, by decide⟩
theorem kb_X2_68 : sg_kB RX2 68 yX2_stopOf cX2_stopOf 5 (some .int) 3 := ⟨cw_X2_stopOf, ci_X2, sg_mem (i := 557) (by decide +kernel) (by decide +kernel), by decide +kernel, by decide⟩
theorem kb_X2_71 : sg_kB RX2 71 yX2_stopBehind cX2_stopBehind 3 (some .int) 2 := ⟨cw_X2_stopBehind, ci_X2, sg_mem (i := 651) (by decide +kernel) (by decide +kernel), by decide +kernel, by decide⟩
theorem kb_X2_74 : sg_kB RX2 74 yX2_settle cX2_settle 3 none 2 := ⟨cw_X2_settle, ci_X2, sg_mem (i := 652) (by decide +kernel) (by decide +kernel), by decide +kernel, by decide⟩
theorem kb_X2_81 : sg_kB RX2 81 yX8_hasTown cX8_hasTown 2 (some .boolean) 1 := ⟨cw_X8_hasTown, ci_X8, sg_mem (i := 656) (by decide +kernel) (by decide +kernel), by decide +kernel, by decide⟩
theorem kb_X2_102 : sg_kB RX2 102 yX6_hasCell cX6_hasCell 2 (some .boolean) 1 := ⟨cw_X6_hasCell, ci_X6, sg_mem (i := 666) (by decide +kernel) (by decide +kernel), by decide +kernel, by decide⟩
theorem kb_X3_26 : sg_kB RX3 26 yJ7_fill_53178 cJ7_fill_53178 4 none 2 := ⟨cw_J7_fill_53178, ci_J7, sg_mem (i := 514) (by decide +kernel) (by decide +kernel), by decide +kernel, by decide⟩
theorem kb_X3_35 : sg_kB RX3 35 yX8_copyTo cX8_copyTo 4 none 2 := ⟨cw_X8_copyTo, ci_X8, sg_mem (i := 640) (by decide +kernel) (by decide +kernel), by decide +kernel, by decide⟩
theorem kb_X3_49 : sg_kB RX3 49 yX8_copyFrom cX8_copyFrom 4 none 2 := ⟨cw_X8_copyFrom, ci_X8, sg_mem (i := 730) (by decide +kernel) (by decide +kernel), by decide +kernel, by decide⟩
theorem kb_X3_52 : sg_kB RX3 52 yX3_hasRoomFor cX3_hasRoomFor 2 (some .boolean) 1 := ⟨cw_X3_hasRoomFor, ci_X3, sg_mem (i := 915) (by decide +kernel) (by decide +kernel), by decide +kernel, by decide⟩
theorem kb_X3_56 : sg_kB RX3 56 yX3_hasKept cX3_hasKept 2 (some .boolean) 1 := ⟨cw_X3_hasKept, ci_X3, sg_mem (i := 928) (by decide +kernel) (by decide +kernel), by decide +kernel, by decide⟩
theorem kb_X4_29 : sg_kB RX4 29 yX2_stopBehind cX2_stopBehind 3 (some .int) 2 := ⟨cw_X2_stopBehind, ci_X2, sg_mem (i := 810) (by decide +kernel) (by decide +kernel), by decide +kernel, by decide⟩
theorem kb_X4_41 : sg_kB RX4 41 yX4_sendNext cX4_sendNext 10 none 5 := ⟨cw_X4_sendNext, ci_X4, sg_mem (i := 811) (by decide +kernel) (by decide +kernel), by decide +kernel, by decide⟩
theorem kb_X5_29 : sg_kB RX5 29 yX6_clear cX6_clear 1 none 0 := ⟨cw_X6_clear, ci_X6, sg_mem (i := 468) (by decide +kernel) (by decide +kernel), by decide +kernel, by decide⟩
theorem kb_X5_42 : sg_kB RX5 42 yX5_nextLetter cX5_nextLetter 1 (some .int) 0 := ⟨cw_X5_nextLetter, ci_X5, sg_mem (i := 469) (by decide +kernel) (by decide +kernel), by decide +kernel, by decide⟩
theorem kb_X5_46 : sg_kB RX5 46 yX5_readClause cX5_readClause 2 none 0 := ⟨cw_X5_readClause, ci_X5, sg_mem (i := 473) (by decide +kernel) (by decide +kernel), by decide +kernel, by decide⟩
theorem kb_X5_52 : sg_kB RX5 52 yX5_fail cX5_fail 3 none 2 := ⟨cw_X5_fail, ci_X5, sg_mem (i := 477) (by decide +kernel) (by decide +kernel), by decide +kernel, by decide⟩
theorem kb_X5_56 : sg_kB RX5 56 yX5_isOneTooMany cX5_isOneTooMany 2 (some .boolean) 1 := ⟨cw_X5_isOneTooMany, ci_X5, sg_mem (i := 481) (by decide +kernel) (by decide +kernel), by decide +kernel, by decide⟩
theorem kb_X5_60 : sg_kB RX5 60 yX5_readRest cX5_readRest 2 none 1 := ⟨cw_X5_readRest, ci_X5, sg_mem (i := 485) (by decide +kernel) (by decide +kernel), by decide +kernel, by decide⟩
theorem kb_X5_70 : sg_kB RX5 70 yX5_readRow cX5_readRow 9 (some .int) 4 := ⟨cw_X5_readRow, ci_X5, sg_mem (i := 489) (by decide +kernel) (by decide +kernel), by decide +kernel, by decide⟩
theorem kb_X5_80 : sg_kB RX5 80 yX5_readCart cX5_readCart 2 none 0 := ⟨cw_X5_readCart, ci_X5, sg_mem (i := 501) (by decide +kernel) (by decide +kernel), by decide +kernel, by decide⟩
theorem kb_X5_83 : sg_kB RX5 83 yX5_readNumber cX5_readNumber 5 (some .int) 2 := ⟨cw_X5_readNumber, ci_X5, sg_mem (i := 493) (by decide +kernel) (by decide +kernel), by decide +kernel, by decide⟩
theorem kb_X5_96 : sg_kB RX5 96 yX5_isFigure cX5_isFigure 2 (some .boolean) 1 := ⟨cw_X5_isFigure, ci_X5, sg_mem (i := 497) (by decide +kernel) (by decide +kernel), by decide +kernel, by decide⟩
theorem kb_X8_40 : sg_kB RX8 40 yJ7_fill_53178 cJ7_fill_53178 4 none 2 := ⟨cw_J7_fill_53178, ci_J7, sg_mem (i := 407) (by decide +kernel) (by decide +kernel), by decide +kernel, by decide⟩
theorem kb_X8_57 : sg_kB RX8 57 yX8_hasTown cX8_hasTown 2 (some .boolean) 1 := ⟨cw_X8_hasTown, ci_X8, sg_mem (i := 601) (by decide +kernel) (by decide +kernel), by decide +kernel, by decide⟩
theorem kb_X9_25 : sg_kB RX9 25 yX8_hasTown cX8_hasTown 2 (some .boolean) 1 := ⟨cw_X8_hasTown, ci_X8, sg_mem (i := 535) (by decide +kernel) (by decide +kernel), by decide +kernel, by decide⟩
theorem kb_X9_34 : sg_kB RX9 34 yX8_isStuck cX8_isStuck 2 (some .boolean) 1 := ⟨cw_X8_isStuck, ci_X8, sg_mem (i := 543) (by decide +kernel) (by decide +kernel), by decide +kernel, by decide⟩
theorem kb_X9_47 : sg_kB RX9 47 yX9_distanceWith cX9_distanceWith 5 (some .int) 2 := ⟨cw_X9_distanceWith, ci_X9, sg_mem (i := 581) (by decide +kernel) (by decide +kernel), by decide +kernel, by decide⟩
theorem kb_X9_51 : sg_kB RX9 51 yX9_distancesWith cX9_distancesWith 4 (some .int) 1 := ⟨cw_X9_distancesWith, ci_X9, sg_mem (i := 823) (by decide +kernel) (by decide +kernel), by decide +kernel, by decide⟩
theorem kb_X9_57 : sg_kB RX9 57 yX8_folkAt cX8_folkAt 2 (some .int) 1 := ⟨cw_X8_folkAt, ci_X8, sg_mem (i := 597) (by decide +kernel) (by decide +kernel), by decide +kernel, by decide⟩
theorem kb_X10_34 : sg_kB RX10 34 yJ7_fill_53178 cJ7_fill_53178 4 none 2 := ⟨cw_J7_fill_53178, ci_J7, sg_mem (i := 551) (by decide +kernel) (by decide +kernel), by decide +kernel, by decide⟩
theorem kb_X10_46 : sg_kB RX10 46 yX2_stopBehind cX2_stopBehind 3 (some .int) 2 := ⟨cw_X2_stopBehind, ci_X2, sg_mem (i := 552) (by decide +kernel) (by decide +kernel), by decide +kernel, by decide⟩
theorem kb_X10_52 : sg_kB RX10 52 yX6_hasCell cX6_hasCell 2 (some .boolean) 1 := ⟨cw_X6_hasCell, ci_X6, sg_mem (i := 573) (by decide +kernel) (by decide +kernel), by decide +kernel, by decide⟩
theorem kb_X10_59 : sg_kB RX10 59 yX2_wetBehind cX2_wetBehind 4 (some .int) 1 := ⟨cw_X2_wetBehind, ci_X2, sg_mem (i := 755) (by decide +kernel) (by decide +kernel), by decide +kernel, by decide⟩
theorem kb_X10_63 : sg_kB RX10 63 yX7_clear cX7_clear 1 none 0 := ⟨cw_X7_clear, ci_X7, sg_mem (i := 756) (by decide +kernel) (by decide +kernel), by decide +kernel, by decide⟩
theorem kb_X10_66 : sg_kB RX10 66 yX2_stopOf cX2_stopOf 5 (some .int) 3 := ⟨cw_X2_stopOf, ci_X2, sg_mem (i := 760) (by decide +kernel) (by decide +kernel), by decide +kernel, by decide⟩
theorem kb_X10_70 : sg_kB RX10 70 yX7_put cX7_put 2 none 1 := ⟨cw_X7_put, ci_X7, sg_mem (i := 761) (by decide +kernel) (by decide +kernel), by decide +kernel, by decide⟩
theorem kb_X10_74 : sg_kB RX10 74 yX2_groundFor cX2_groundFor 6 (some .int) 3 := ⟨cw_X2_groundFor, ci_X2, sg_mem (i := 785) (by decide +kernel) (by decide +kernel), by decide +kernel, by decide⟩
theorem kb_X10_82 : sg_kB RX10 82 yX2_weightOf cX2_weightOf 3 (some .int) 2 := ⟨cw_X2_weightOf, ci_X2, sg_mem (i := 786) (by decide +kernel) (by decide +kernel), by decide +kernel, by decide⟩
theorem kb_X10_85 : sg_kB RX10 85 yX10_needAt cX10_needAt 5 (some .int) 2 := ⟨cw_X10_needAt, ci_X10, sg_mem (i := 781) (by decide +kernel) (by decide +kernel), by decide +kernel, by decide⟩
theorem kb_X10_93 : sg_kB RX10 93 yX10_greatestNeedAt cX10_greatestNeedAt 6 (some .int) 2 := ⟨cw_X10_greatestNeedAt, ci_X10, sg_mem (i := 777) (by decide +kernel) (by decide +kernel), by decide +kernel, by decide⟩
theorem kb_X12_81 : sg_kB RX12 81 yX12_in cX12_in 6 (some .boolean) 3 := ⟨cw_X12_in, ci_X12, sg_mem (i := 1053) (by decide +kernel) (by decide +kernel), by decide +kernel, by decide⟩
theorem kb_X12_98 : sg_kB RX12 98 yX12_here cX12_here 1 (some .int) 0 := ⟨cw_X12_here, ci_X12, sg_mem (i := 1062) (by decide +kernel) (by decide +kernel), by decide +kernel, by decide⟩
theorem kb_X12_106 : sg_kB RX12 106 yX12_fails cX12_fails 3 (some .int) 2 := ⟨cw_X12_fails, ci_X12, sg_mem (i := 1070) (by decide +kernel) (by decide +kernel), by decide +kernel, by decide⟩
theorem kb_X12_116 : sg_kB RX12 116 yX12_takeNumber cX12_takeNumber 4 (some .int) 2 := ⟨cw_X12_takeNumber, ci_X12, sg_mem (i := 1082) (by decide +kernel) (by decide +kernel), by decide +kernel, by decide⟩
theorem kb_X12_119 : sg_kB RX12 119 yX12_into cX12_into 6 (some .int) 4 := ⟨cw_X12_into, ci_X12, sg_mem (i := 1078) (by decide +kernel) (by decide +kernel), by decide +kernel, by decide⟩
theorem kb_X12_132 : sg_kB RX12 132 yX12_takeRoad cX12_takeRoad 2 (some .int) 0 := ⟨cw_X12_takeRoad, ci_X12, sg_mem (i := 1074) (by decide +kernel) (by decide +kernel), by decide +kernel, by decide⟩
theorem kb_X12_135 : sg_kB RX12 135 yX12_takeWeather cX12_takeWeather 2 (some .int) 0 := ⟨cw_X12_takeWeather, ci_X12, sg_mem (i := 1088) (by decide +kernel) (by decide +kernel), by decide +kernel, by decide⟩
theorem kb_X12_138 : sg_kB RX12 138 yX12_takeCart cX12_takeCart 3 (some .int) 0 := ⟨cw_X12_takeCart, ci_X12, sg_mem (i := 1092) (by decide +kernel) (by decide +kernel), by decide +kernel, by decide⟩
theorem kb_X12_144 : sg_kB RX12 144 yX12_copyRow cX12_copyRow 4 none 3 := ⟨cw_X12_copyRow, ci_X12, sg_mem (i := 1100) (by decide +kernel) (by decide +kernel), by decide +kernel, by decide⟩
theorem kb_X12_148 : sg_kB RX12 148 yX12_takeClause cX12_takeClause 5 (some .int) 0 := ⟨cw_X12_takeClause, ci_X12, sg_mem (i := 1066) (by decide +kernel) (by decide +kernel), by decide +kernel, by decide⟩
theorem kb_X12_151 : sg_kB RX12 151 yX12_takeRead cX12_takeRead 2 none 0 := ⟨cw_X12_takeRead, ci_X12, sg_mem (i := 1096) (by decide +kernel) (by decide +kernel), by decide +kernel, by decide⟩
theorem kb_X12_163 : sg_kB RX12 163 yX12_weatherOf cX12_weatherOf 2 (some .int) 1 := ⟨cw_X12_weatherOf, ci_X12, sg_mem (i := 1119) (by decide +kernel) (by decide +kernel), by decide +kernel, by decide⟩
theorem kb_X12_167 : sg_kB RX12 167 yX12_wetBehind cX12_wetBehind 4 (some .int) 1 := ⟨cw_X12_wetBehind, ci_X12, sg_mem (i := 1115) (by decide +kernel) (by decide +kernel), by decide +kernel, by decide⟩
theorem kb_X12_170 : sg_kB RX12 170 yX12_notBelow cX12_notBelow 1 (some .int) 1 := ⟨cw_X12_notBelow, ci_X12, sg_mem (i := 1151) (by decide +kernel) (by decide +kernel), by decide +kernel, by decide⟩
theorem kb_X12_173 : sg_kB RX12 173 yX12_groundOf cX12_groundOf 4 (some .int) 3 := ⟨cw_X12_groundOf, ci_X12, sg_mem (i := 1147) (by decide +kernel) (by decide +kernel), by decide +kernel, by decide⟩
theorem kb_X12_177 : sg_kB RX12 177 yX12_weighs cX12_weighs 3 (some .int) 2 := ⟨cw_X12_weighs, ci_X12, sg_mem (i := 1154) (by decide +kernel) (by decide +kernel), by decide +kernel, by decide⟩
theorem kb_X12_180 : sg_kB RX12 180 yX12_stopBy cX12_stopBy 5 (some .int) 3 := ⟨cw_X12_stopBy, ci_X12, sg_mem (i := 1143) (by decide +kernel) (by decide +kernel), by decide +kernel, by decide⟩
theorem kb_X12_183 : sg_kB RX12 183 yX12_isTown cX12_isTown 2 (some .boolean) 1 := ⟨cw_X12_isTown, ci_X12, sg_mem (i := 1127) (by decide +kernel) (by decide +kernel), by decide +kernel, by decide⟩
theorem kb_X12_187 : sg_kB RX12 187 yX12_wet cX12_wet 1 (some .int) 0 := ⟨cw_X12_wet, ci_X12, sg_mem (i := 1111) (by decide +kernel) (by decide +kernel), by decide +kernel, by decide⟩
theorem kb_X12_190 : sg_kB RX12 190 yX12_stopOf cX12_stopOf 3 (some .int) 2 := ⟨cw_X12_stopOf, ci_X12, sg_mem (i := 1139) (by decide +kernel) (by decide +kernel), by decide +kernel, by decide⟩
theorem kb_X12_194 : sg_kB RX12 194 yX12_has cX12_has 2 (some .boolean) 2 := ⟨cw_X12_has, ci_X12, sg_mem (i := 1167) (by decide +kernel) (by decide +kernel), by decide +kernel, by decide⟩
theorem kb_X12_198 : sg_kB RX12 198 yX12_towns cX12_towns 3 (some .int) 0 := ⟨cw_X12_towns, ci_X12, sg_mem (i := 1123) (by decide +kernel) (by decide +kernel), by decide +kernel, by decide⟩
theorem kb_X12_201 : sg_kB RX12 201 yX12_distanceTo cX12_distanceTo 6 (some .int) 2 := ⟨cw_X12_distanceTo, ci_X12, sg_mem (i := 1162) (by decide +kernel) (by decide +kernel), by decide +kernel, by decide⟩
theorem kb_X12_204 : sg_kB RX12 204 yX12_stuckOnes cX12_stuckOnes 3 (some .int) 0 := ⟨cw_X12_stuckOnes, ci_X12, sg_mem (i := 1131) (by decide +kernel) (by decide +kernel), by decide +kernel, by decide⟩
theorem kb_X12_207 : sg_kB RX12 207 yX12_stopper cX12_stopper 6 (some .int) 0 := ⟨cw_X12_stopper, ci_X12, sg_mem (i := 1135) (by decide +kernel) (by decide +kernel), by decide +kernel, by decide⟩
theorem kb_X12_210 : sg_kB RX12 210 yX12_farOf cX12_farOf 4 (some .int) 0 := ⟨cw_X12_farOf, ci_X12, sg_mem (i := 1158) (by decide +kernel) (by decide +kernel), by decide +kernel, by decide⟩
theorem kb_X12_213 : sg_kB RX12 213 yX12_longest cX12_longest 4 (some .int) 0 := ⟨cw_X12_longest, ci_X12, sg_mem (i := 1170) (by decide +kernel) (by decide +kernel), by decide +kernel, by decide⟩
theorem kb_X12_216 : sg_kB RX12 216 yX12_biggest cX12_biggest 3 (some .int) 0 := ⟨cw_X12_biggest, ci_X12, sg_mem (i := 1174) (by decide +kernel) (by decide +kernel), by decide +kernel, by decide⟩
theorem kb_X12_219 : sg_kB RX12 219 yX12_allFolk cX12_allFolk 3 (some .int) 0 := ⟨cw_X12_allFolk, ci_X12, sg_mem (i := 1178) (by decide +kernel) (by decide +kernel), by decide +kernel, by decide⟩
theorem kb_X12_222 : sg_kB RX12 222 yX12_isCell cX12_isCell 2 (some .boolean) 1 := ⟨cw_X12_isCell, ci_X12, sg_mem (i := 1186) (by decide +kernel) (by decide +kernel), by decide +kernel, by decide⟩
theorem kb_X12_226 : sg_kB RX12 226 yX12_isCart cX12_isCart 2 (some .boolean) 1 := ⟨cw_X12_isCart, ci_X12, sg_mem (i := 1195) (by decide +kernel) (by decide +kernel), by decide +kernel, by decide⟩
theorem kb_X12_229 : sg_kB RX12 229 yX12_mayorOf cX12_mayorOf 3 (some .int) 1 := ⟨cw_X12_mayorOf, ci_X12, sg_mem (i := 1199) (by decide +kernel) (by decide +kernel), by decide +kernel, by decide⟩
theorem kb_X12_233 : sg_kB RX12 233 yX12_remember cX12_remember 2 none 0 := ⟨cw_X12_remember, ci_X12, sg_mem (i := 1212) (by decide +kernel) (by decide +kernel), by decide +kernel, by decide⟩
theorem kb_X12_236 : sg_kB RX12 236 yX12_driveNow cX12_driveNow 3 (some .int) 1 := ⟨cw_X12_driveNow, ci_X12, sg_mem (i := 1216) (by decide +kernel) (by decide +kernel), by decide +kernel, by decide⟩
theorem kb_X12_239 : sg_kB RX12 239 yX12_pullNow cX12_pullNow 3 (some .int) 1 := ⟨cw_X12_pullNow, ci_X12, sg_mem (i := 1224) (by decide +kernel) (by decide +kernel), by decide +kernel, by decide⟩
theorem kb_X12_244 : sg_kB RX12 244 yX12_daysRefused cX12_daysRefused 2 (some .int) 1 := ⟨cw_X12_daysRefused, ci_X12, sg_mem (i := 1232) (by decide +kernel) (by decide +kernel), by decide +kernel, by decide⟩
theorem kb_X12_247 : sg_kB RX12 247 yX12_pass cX12_pass 1 none 0 := ⟨cw_X12_pass, ci_X12, sg_mem (i := 1237) (by decide +kernel) (by decide +kernel), by decide +kernel, by decide⟩
theorem kb_X12_252 : sg_kB RX12 252 yX12_layNow cX12_layNow 4 none 2 := ⟨cw_X12_layNow, ci_X12, sg_mem (i := 1246) (by decide +kernel) (by decide +kernel), by decide +kernel, by decide⟩
theorem kb_X12_266 : sg_kB RX12 266 yX12_draw cX12_draw 2 (some .int) 1 := ⟨cw_X12_draw, ci_X12, sg_mem (i := 1270) (by decide +kernel) (by decide +kernel), by decide +kernel, by decide⟩
theorem kb_X12_269 : sg_kB RX12 269 yX12_chance cX12_chance 5 none 0 := ⟨cw_X12_chance, ci_X12, sg_mem (i := 1266) (by decide +kernel) (by decide +kernel), by decide +kernel, by decide⟩
theorem kb_X12_276 : sg_kB RX12 276 yX12_needOf cX12_needOf 4 (some .int) 2 := ⟨cw_X12_needOf, ci_X12, sg_mem (i := 1300) (by decide +kernel) (by decide +kernel), by decide +kernel, by decide⟩
theorem kb_X12_279 : sg_kB RX12 279 yX12_isSet cX12_isSet 2 (some .boolean) 1 := ⟨cw_X12_isSet, ci_X12, sg_mem (i := 1308) (by decide +kernel) (by decide +kernel), by decide +kernel, by decide⟩
theorem kb_X12_282 : sg_kB RX12 282 yX12_bits cX12_bits 3 (some .int) 1 := ⟨cw_X12_bits, ci_X12, sg_mem (i := 1316) (by decide +kernel) (by decide +kernel), by decide +kernel, by decide⟩
theorem kb_X12_285 : sg_kB RX12 285 yX12_foundedBy cX12_foundedBy 11 (some .int) 3 := ⟨cw_X12_foundedBy, ci_X12, sg_mem (i := 1319) (by decide +kernel) (by decide +kernel), by decide +kernel, by decide⟩
theorem kb_X12_292 : sg_kB RX12 292 yX12_couldBe cX12_couldBe 4 (some .boolean) 1 := ⟨cw_X12_couldBe, ci_X12, sg_mem (i := 1345) (by decide +kernel) (by decide +kernel), by decide +kernel, by decide⟩
theorem kb_X12_295 : sg_kB RX12 295 yX12_rains cX12_rains 6 (some .int) 1 := ⟨cw_X12_rains, ci_X12, sg_mem (i := 1353) (by decide +kernel) (by decide +kernel), by decide +kernel, by decide⟩
theorem kb_X12_298 : sg_kB RX12 298 yX12_greatestPart cX12_greatestPart 5 (some .int) 1 := ⟨cw_X12_greatestPart, ci_X12, sg_mem (i := 1354) (by decide +kernel) (by decide +kernel), by decide +kernel, by decide⟩
theorem kb_X12_305 : sg_kB RX12 305 yX12_cell cX12_cell 3 (some .int) 2 := ⟨cw_X12_cell, ci_X12, sg_mem (i := 1372) (by decide +kernel) (by decide +kernel), by decide +kernel, by decide⟩
def pcC (cI cZ : ClassId) (ad : Nat → Nat) (z : sg_M) : va_W := [(ad 0, .inr (11, [.ref (ad 1), .ref (ad 9), .ref (ad 15), .ref (ad 23), .ref (ad 24), .ref (ad 25), .ref (ad 28), .ref (ad 30), .ref (ad 33), .ref (ad 36), .ref (ad 40), .int (z.1 0)])),
  (ad 1, .inr (5, [.ref (ad 2), .int (z.1 1), .int (z.1 2), .ref (ad 8), .int (z.1 3), .int (z.1 4), .int (z.1 5)])),
  (ad 2, .inr (6, [.int (z.1 6), .int (z.1 7), .int (z.1 8), .ref (ad 3), .ref (ad 4), .ref (ad 5), .ref (ad 6), .ref (ad 7)])),
  (ad 3, .inl (cI, 20, .inl (z.2 0))),
  (ad 4, .inl (cI, 12, .inl (z.2 1))),
  (ad 5, .inl (cI, 8, .inl (z.2 2))),
  (ad 6, .inl (cI, 8, .inl (z.2 3))),
  (ad 7, .inl (cI, 8, .inl (z.2 4))),
  (ad 8, .inl (cI, 240, .inl (z.2 5))),
  (ad 9, .inr (6, [.int (z.1 9), .int (z.1 10), .int (z.1 11), .ref (ad 10), .ref (ad 11), .ref (ad 12), .ref (ad 13), .ref (ad 14)])),
  (ad 10, .inl (cI, 20, .inl (z.2 6))),
  (ad 11, .inl (cI, 12, .inl (z.2 7))),
  (ad 12, .inl (cI, 8, .inl (z.2 8))),
  (ad 13, .inl (cI, 8, .inl (z.2 9))),
  (ad 14, .inl (cI, 8, .inl (z.2 10))),
  (ad 15, .inr (8, [.int (z.1 12), .int (z.1 13), .ref (ad 16), .ref (ad 17), .ref (ad 18), .ref (ad 19), .ref (ad 20), .ref (ad 21), .ref (ad 22)])),
  (ad 16, .inl (cI, 20, .inl (z.2 11))),
  (ad 17, .inl (cI, 20, .inl (z.2 12))),
  (ad 18, .inl (cI, 20, .inl (z.2 13))),
  (ad 19, .inl (cI, 20, .inl (z.2 14))),
  (ad 20, .inl (cI, 8, .inl (z.2 15))),
  (ad 21, .inl (cI, 8, .inl (z.2 16))),
  (ad 22, .inl (cI, 8, .inl (z.2 17))),
  (ad 23, .inr (2, [.ref (ad 9), .ref (ad 15)])),
  (ad 24, .inr (9, [.ref (ad 9), .ref (ad 15)])),
  (ad 25, .inr (10, [.ref (ad 9), .ref (ad 15), .ref (ad 23), .ref (ad 26), .ref (ad 27)])),
  (ad 26, .inl (cI, 20, .inl (z.2 18))),
  (ad 27, .inr (7, [.int (z.1 14), .int (z.1 15), .int (z.1 16)])),
  (ad 28, .inr (4, [.int (z.1 17), .int (z.1 18), .ref (ad 9), .ref (ad 23), .ref (ad 29)])),
  (ad 29, .inl (cI, 40, .inl (z.2 19))),
  (ad 30, .inr (0, [.int (z.1 19), .ref (ad 31), .ref (ad 32)])),
  (ad 31, .inl (cI, 6, .inl (z.2 20))),
  (ad 32, .inl (cI, 6, .inl (z.2 21))),
  (ad 33, .inr (0, [.int (z.1 20), .ref (ad 34), .ref (ad 35)])),
  (ad 34, .inl (cI, 15, .inl (z.2 22))),
  (ad 35, .inl (cI, 15, .inl (z.2 23))),
  (ad 36, .inr (1, [.ref (ad 9), .ref (ad 15), .ref (ad 23), .ref (ad 30), .ref (ad 37), .ref (ad 38), .ref (ad 39)])),
  (ad 37, .inl (cZ, 61, .inl (z.2 24))),
  (ad 38, .inl (cI, 21, .inl (z.2 25))),
  (ad 39, .inr (7, [.int (z.1 21), .int (z.1 22), .int (z.1 23)])),
  (ad 40, .inr (3, [.int (z.1 24), .int (z.1 25), .ref (ad 41), .ref (ad 42), .ref (ad 43)])),
  (ad 41, .inl (cI, 1908, .inl (z.2 26))),
  (ad 42, .inl (cZ, 2, .inl (z.2 27))),
  (ad 43, .inl (cI, 2, .inl (z.2 28)))]
abbrev eC (l : Launch) (D : va_G) (cI cZ : ClassId) (ad : Nat → Nat) : sg_E := (l, D, [(cI, .int), (cZ, .boolean)], pcC cI cZ ad)
def pcM (cI cZ : ClassId) (ad : Nat → Nat) (z : sg_M) : va_W := [(ad 0, .inr (12, [.int (z.1 0), .ref (ad 1), .int (z.1 1), .ref (ad 2), .int (z.1 2), .ref (ad 3), .ref (ad 4), .ref (ad 5), .ref (ad 6), .int (z.1 3), .ref (ad 7), .int (z.1 4), .int (z.1 5), .int (z.1 6), .int (z.1 7), .int (z.1 8), .int (z.1 9), .ref (ad 8), .int (z.1 10), .ref (ad 9), .int (z.1 11), .ref (ad 10), .ref (ad 11), .ref (ad 12), .int (z.1 12), .ref (ad 13), .ref (ad 14), .int (z.1 13), .ref (ad 15), .ref (ad 16), .ref (ad 17), .int (z.1 14), .ref (ad 18), .ref (ad 19), .ref (ad 20), .ref (ad 21)])),
  (ad 1, .inl (cI, 20, .inl (z.2 0))),
  (ad 2, .inl (cI, 12, .inl (z.2 1))),
  (ad 3, .inl (cI, 8, .inl (z.2 2))),
  (ad 4, .inl (cI, 8, .inl (z.2 3))),
  (ad 5, .inl (cI, 8, .inl (z.2 4))),
  (ad 6, .inl (cI, 106, .inl (z.2 5))),
  (ad 7, .inl (cI, 240, .inl (z.2 6))),
  (ad 8, .inl (cI, 20, .inl (z.2 7))),
  (ad 9, .inl (cI, 12, .inl (z.2 8))),
  (ad 10, .inl (cI, 8, .inl (z.2 9))),
  (ad 11, .inl (cI, 8, .inl (z.2 10))),
  (ad 12, .inl (cI, 8, .inl (z.2 11))),
  (ad 13, .inl (cI, 1696, .inl (z.2 12))),
  (ad 14, .inl (cI, 40, .inl (z.2 13))),
  (ad 15, .inl (cI, 6, .inl (z.2 14))),
  (ad 16, .inl (cI, 6, .inl (z.2 15))),
  (ad 17, .inl (cI, 21, .inl (z.2 16))),
  (ad 18, .inl (cI, 15, .inl (z.2 17))),
  (ad 19, .inl (cI, 15, .inl (z.2 18))),
  (ad 20, .inl (cI, 214, .inl (z.2 19))),
  (ad 21, .inl (cZ, 2, .inl (z.2 20)))]
abbrev eM (l : Launch) (D : va_G) (cI cZ : ClassId) (ad : Nat → Nat) : sg_E := (l, D, [(cI, .int), (cZ, .boolean)], pcM cI cZ ad)
section SGW
variable {l : Launch} {D : va_G} {cI cZ : ClassId} {ad : Nat → Nat} {y : MethodName} {cc : ByteArray} {nL : Nat} {ret : Option FieldType} {d pc pn : Nat} {lv : List (Nat × Value)} {st : List Value} {z : sg_M} {Q : Option Value → sg_M → Prop} {ix : Nat} {i x0 : Int32}
theorem gfC_0_0 (hdg : decode cc pc = .ok (.getfield ix, 3)) (hn : pc + 3 = pn) (hw : Cond.fieldLink y.cls ix "StuckTowns" "reader" "LStuckTowns$Reader;" ∈ sg_tbl) (k : sg_G (eC l D cI cZ ad) y cc nL ret d pn lv (.ref (ad 1) :: st) z Q) : sg_G (eC l D cI cZ ad) y cc nL ret d pc lv (.ref (ad 0) :: st) z Q := sg_get (E := (eC l D cI cZ ad)) (C := RX11) (T := TX11) (N := 12) (ci := 11) 0 0 hdg hn inX_X11 rfl rfl (by decide) hw rfl rfl k
theorem gfC_0_1 (hdg : decode cc pc = .ok (.getfield ix, 3)) (hn : pc + 3 = pn) (hw : Cond.fieldLink y.cls ix "StuckTowns" "map" "LStuckTowns$Road;" ∈ sg_tbl) (k : sg_G (eC l D cI cZ ad) y cc nL ret d pn lv (.ref (ad 9) :: st) z Q) : sg_G (eC l D cI cZ ad) y cc nL ret d pc lv (.ref (ad 0) :: st) z Q := sg_get (E := (eC l D cI cZ ad)) (C := RX11) (T := TX11) (N := 12) (ci := 11) 0 1 hdg hn inX_X11 rfl rfl (by decide) hw rfl rfl k
theorem gfC_0_2 (hdg : decode cc pc = .ok (.getfield ix, 3)) (hn : pc + 3 = pn) (hw : Cond.fieldLink y.cls ix "StuckTowns" "now" "LStuckTowns$State;" ∈ sg_tbl) (k : sg_G (eC l D cI cZ ad) y cc nL ret d pn lv (.ref (ad 15) :: st) z Q) : sg_G (eC l D cI cZ ad) y cc nL ret d pc lv (.ref (ad 0) :: st) z Q := sg_get (E := (eC l D cI cZ ad)) (C := RX11) (T := TX11) (N := 12) (ci := 11) 0 2 hdg hn inX_X11 rfl rfl (by decide) hw rfl rfl k
theorem gfC_0_3 (hdg : decode cc pc = .ok (.getfield ix, 3)) (hn : pc + 3 = pn) (hw : Cond.fieldLink y.cls ix "StuckTowns" "kingdom" "LStuckTowns$Kingdom;" ∈ sg_tbl) (k : sg_G (eC l D cI cZ ad) y cc nL ret d pn lv (.ref (ad 23) :: st) z Q) : sg_G (eC l D cI cZ ad) y cc nL ret d pc lv (.ref (ad 0) :: st) z Q := sg_get (E := (eC l D cI cZ ad)) (C := RX11) (T := TX11) (N := 12) (ci := 11) 0 3 hdg hn inX_X11 rfl rfl (by decide) hw rfl rfl k
theorem gfC_0_4 (hdg : decode cc pc = .ok (.getfield ix, 3)) (hn : pc + 3 = pn) (hw : Cond.fieldLink y.cls ix "StuckTowns" "survey" "LStuckTowns$Survey;" ∈ sg_tbl) (k : sg_G (eC l D cI cZ ad) y cc nL ret d pn lv (.ref (ad 24) :: st) z Q) : sg_G (eC l D cI cZ ad) y cc nL ret d pc lv (.ref (ad 0) :: st) z Q := sg_get (E := (eC l D cI cZ ad)) (C := RX11) (T := TX11) (N := 12) (ci := 11) 0 4 hdg hn inX_X11 rfl rfl (by decide) hw rfl rfl k
theorem gfC_0_5 (hdg : decode cc pc = .ok (.getfield ix, 3)) (hn : pc + 3 = pn) (hw : Cond.fieldLink y.cls ix "StuckTowns" "trials" "LStuckTowns$Trials;" ∈ sg_tbl) (k : sg_G (eC l D cI cZ ad) y cc nL ret d pn lv (.ref (ad 25) :: st) z Q) : sg_G (eC l D cI cZ ad) y cc nL ret d pc lv (.ref (ad 0) :: st) z Q := sg_get (E := (eC l D cI cZ ad)) (C := RX11) (T := TX11) (N := 12) (ci := 11) 0 5 hdg hn inX_X11 rfl rfl (by decide) hw rfl rfl k
theorem gfC_0_6 (hdg : decode cc pc = .ok (.getfield ix, 3)) (hn : pc + 3 = pn) (hw : Cond.fieldLink y.cls ix "StuckTowns" "orders" "LStuckTowns$Orders;" ∈ sg_tbl) (k : sg_G (eC l D cI cZ ad) y cc nL ret d pn lv (.ref (ad 28) :: st) z Q) : sg_G (eC l D cI cZ ad) y cc nL ret d pc lv (.ref (ad 0) :: st) z Q := sg_get (E := (eC l D cI cZ ad)) (C := RX11) (T := TX11) (N := 12) (ci := 11) 0 6 hdg hn inX_X11 rfl rfl (by decide) hw rfl rfl k
theorem gfC_0_7 (hdg : decode cc pc = .ok (.getfield ix, 3)) (hn : pc + 3 = pn) (hw : Cond.fieldLink y.cls ix "StuckTowns" "heard" "LStuckTowns$Entries;" ∈ sg_tbl) (k : sg_G (eC l D cI cZ ad) y cc nL ret d pn lv (.ref (ad 30) :: st) z Q) : sg_G (eC l D cI cZ ad) y cc nL ret d pc lv (.ref (ad 0) :: st) z Q := sg_get (E := (eC l D cI cZ ad)) (C := RX11) (T := TX11) (N := 12) (ci := 11) 0 7 hdg hn inX_X11 rfl rfl (by decide) hw rfl rfl k
theorem gfC_0_8 (hdg : decode cc pc = .ok (.getfield ix, 3)) (hn : pc + 3 = pn) (hw : Cond.fieldLink y.cls ix "StuckTowns" "book" "LStuckTowns$Entries;" ∈ sg_tbl) (k : sg_G (eC l D cI cZ ad) y cc nL ret d pn lv (.ref (ad 33) :: st) z Q) : sg_G (eC l D cI cZ ad) y cc nL ret d pc lv (.ref (ad 0) :: st) z Q := sg_get (E := (eC l D cI cZ ad)) (C := RX11) (T := TX11) (N := 12) (ci := 11) 0 8 hdg hn inX_X11 rfl rfl (by decide) hw rfl rfl k
theorem gfC_0_9 (hdg : decode cc pc = .ok (.getfield ix, 3)) (hn : pc + 3 = pn) (hw : Cond.fieldLink y.cls ix "StuckTowns" "guesses" "LStuckTowns$Guesses;" ∈ sg_tbl) (k : sg_G (eC l D cI cZ ad) y cc nL ret d pn lv (.ref (ad 36) :: st) z Q) : sg_G (eC l D cI cZ ad) y cc nL ret d pc lv (.ref (ad 0) :: st) z Q := sg_get (E := (eC l D cI cZ ad)) (C := RX11) (T := TX11) (N := 12) (ci := 11) 0 9 hdg hn inX_X11 rfl rfl (by decide) hw rfl rfl k
theorem gfC_0_10 (hdg : decode cc pc = .ok (.getfield ix, 3)) (hn : pc + 3 = pn) (hw : Cond.fieldLink y.cls ix "StuckTowns" "memory" "LStuckTowns$Memory;" ∈ sg_tbl) (k : sg_G (eC l D cI cZ ad) y cc nL ret d pn lv (.ref (ad 40) :: st) z Q) : sg_G (eC l D cI cZ ad) y cc nL ret d pc lv (.ref (ad 0) :: st) z Q := sg_get (E := (eC l D cI cZ ad)) (C := RX11) (T := TX11) (N := 12) (ci := 11) 0 10 hdg hn inX_X11 rfl rfl (by decide) hw rfl rfl k
theorem gfC_0_11 (hdg : decode cc pc = .ok (.getfield ix, 3)) (hn : pc + 3 = pn) (hw : Cond.fieldLink y.cls ix "StuckTowns" "theSeed" "I" ∈ sg_tbl) (k : sg_G (eC l D cI cZ ad) y cc nL ret d pn lv (.int (z.1 0) :: st) z Q) : sg_G (eC l D cI cZ ad) y cc nL ret d pc lv (.ref (ad 0) :: st) z Q := sg_get (E := (eC l D cI cZ ad)) (C := RX11) (T := TX11) (N := 12) (ci := 11) 0 11 hdg hn inX_X11 rfl rfl (by decide) hw rfl rfl k
theorem pfC_0_11 (hdg : decode cc pc = .ok (.putfield ix, 3)) (hn : pc + 3 = pn) (hw : Cond.fieldLink y.cls ix "StuckTowns" "theSeed" "I" ∈ sg_tbl) (k : sg_G (eC l D cI cZ ad) y cc nL ret d pn lv st (sg_s z 0 x0) Q) : sg_G (eC l D cI cZ ad) y cc nL ret d pc lv (.int x0 :: .ref (ad 0) :: st) z Q := sg_put (E := (eC l D cI cZ ad)) (C := RX11) (T := TX11) (N := 12) (ci := 11) (ty := .int) 0 11 hdg hn inX_X11 tyX11 tyX11_ok nmX11 rfl rfl (by decide) hw rfl rfl (by decide +kernel) rfl rfl (Nat.le_of_ble_eq_true rfl) rfl k
theorem gfC_1_0 (hdg : decode cc pc = .ok (.getfield ix, 3)) (hn : pc + 3 = pn) (hw : Cond.fieldLink y.cls ix "StuckTowns$Reader" "draft" "LStuckTowns$Road;" ∈ sg_tbl) (k : sg_G (eC l D cI cZ ad) y cc nL ret d pn lv (.ref (ad 2) :: st) z Q) : sg_G (eC l D cI cZ ad) y cc nL ret d pc lv (.ref (ad 1) :: st) z Q := sg_get (E := (eC l D cI cZ ad)) (C := RX5) (T := TX5) (N := 7) (ci := 5) 1 0 hdg hn inX_X5 rfl rfl (by decide) hw rfl rfl k
theorem gfC_1_1 (hdg : decode cc pc = .ok (.getfield ix, 3)) (hn : pc + 3 = pn) (hw : Cond.fieldLink y.cls ix "StuckTowns$Reader" "length" "I" ∈ sg_tbl) (k : sg_G (eC l D cI cZ ad) y cc nL ret d pn lv (.int (z.1 1) :: st) z Q) : sg_G (eC l D cI cZ ad) y cc nL ret d pc lv (.ref (ad 1) :: st) z Q := sg_get (E := (eC l D cI cZ ad)) (C := RX5) (T := TX5) (N := 7) (ci := 5) 1 1 hdg hn inX_X5 rfl rfl (by decide) hw rfl rfl k
theorem pfC_1_1 (hdg : decode cc pc = .ok (.putfield ix, 3)) (hn : pc + 3 = pn) (hw : Cond.fieldLink y.cls ix "StuckTowns$Reader" "length" "I" ∈ sg_tbl) (k : sg_G (eC l D cI cZ ad) y cc nL ret d pn lv st (sg_s z 1 x0) Q) : sg_G (eC l D cI cZ ad) y cc nL ret d pc lv (.int x0 :: .ref (ad 1) :: st) z Q := sg_put (E := (eC l D cI cZ ad)) (C := RX5) (T := TX5) (N := 7) (ci := 5) (ty := .int) 1 1 hdg hn inX_X5 tyX5 tyX5_ok nmX5 rfl rfl (by decide) hw rfl rfl (by decide +kernel) rfl rfl (Nat.le_of_ble_eq_true rfl) rfl k
theorem gfC_1_2 (hdg : decode cc pc = .ok (.getfield ix, 3)) (hn : pc + 3 = pn) (hw : Cond.fieldLink y.cls ix "StuckTowns$Reader" "faultPlace" "I" ∈ sg_tbl) (k : sg_G (eC l D cI cZ ad) y cc nL ret d pn lv (.int (z.1 2) :: st) z Q) : sg_G (eC l D cI cZ ad) y cc nL ret d pc lv (.ref (ad 1) :: st) z Q := sg_get (E := (eC l D cI cZ ad)) (C := RX5) (T := TX5) (N := 7) (ci := 5) 1 2 hdg hn inX_X5 rfl rfl (by decide) hw rfl rfl k
theorem pfC_1_2 (hdg : decode cc pc = .ok (.putfield ix, 3)) (hn : pc + 3 = pn) (hw : Cond.fieldLink y.cls ix "StuckTowns$Reader" "faultPlace" "I" ∈ sg_tbl) (k : sg_G (eC l D cI cZ ad) y cc nL ret d pn lv st (sg_s z 2 x0) Q) : sg_G (eC l D cI cZ ad) y cc nL ret d pc lv (.int x0 :: .ref (ad 1) :: st) z Q := sg_put (E := (eC l D cI cZ ad)) (C := RX5) (T := TX5) (N := 7) (ci := 5) (ty := .int) 1 2 hdg hn inX_X5 tyX5 tyX5_ok nmX5 rfl rfl (by decide) hw rfl rfl (by decide +kernel) rfl rfl (Nat.le_of_ble_eq_true rfl) rfl k
theorem gfC_1_3 (hdg : decode cc pc = .ok (.getfield ix, 3)) (hn : pc + 3 = pn) (hw : Cond.fieldLink y.cls ix "StuckTowns$Reader" "letters" "[I" ∈ sg_tbl) (k : sg_G (eC l D cI cZ ad) y cc nL ret d pn lv (.ref (ad 8) :: st) z Q) : sg_G (eC l D cI cZ ad) y cc nL ret d pc lv (.ref (ad 1) :: st) z Q := sg_get (E := (eC l D cI cZ ad)) (C := RX5) (T := TX5) (N := 7) (ci := 5) 1 3 hdg hn inX_X5 rfl rfl (by decide) hw rfl rfl k
theorem gfC_1_4 (hdg : decode cc pc = .ok (.getfield ix, 3)) (hn : pc + 3 = pn) (hw : Cond.fieldLink y.cls ix "StuckTowns$Reader" "faultKind" "I" ∈ sg_tbl) (k : sg_G (eC l D cI cZ ad) y cc nL ret d pn lv (.int (z.1 3) :: st) z Q) : sg_G (eC l D cI cZ ad) y cc nL ret d pc lv (.ref (ad 1) :: st) z Q := sg_get (E := (eC l D cI cZ ad)) (C := RX5) (T := TX5) (N := 7) (ci := 5) 1 4 hdg hn inX_X5 rfl rfl (by decide) hw rfl rfl k
theorem pfC_1_4 (hdg : decode cc pc = .ok (.putfield ix, 3)) (hn : pc + 3 = pn) (hw : Cond.fieldLink y.cls ix "StuckTowns$Reader" "faultKind" "I" ∈ sg_tbl) (k : sg_G (eC l D cI cZ ad) y cc nL ret d pn lv st (sg_s z 3 x0) Q) : sg_G (eC l D cI cZ ad) y cc nL ret d pc lv (.int x0 :: .ref (ad 1) :: st) z Q := sg_put (E := (eC l D cI cZ ad)) (C := RX5) (T := TX5) (N := 7) (ci := 5) (ty := .int) 1 4 hdg hn inX_X5 tyX5 tyX5_ok nmX5 rfl rfl (by decide) hw rfl rfl (by decide +kernel) rfl rfl (Nat.le_of_ble_eq_true rfl) rfl k
theorem gfC_1_5 (hdg : decode cc pc = .ok (.getfield ix, 3)) (hn : pc + 3 = pn) (hw : Cond.fieldLink y.cls ix "StuckTowns$Reader" "at" "I" ∈ sg_tbl) (k : sg_G (eC l D cI cZ ad) y cc nL ret d pn lv (.int (z.1 4) :: st) z Q) : sg_G (eC l D cI cZ ad) y cc nL ret d pc lv (.ref (ad 1) :: st) z Q := sg_get (E := (eC l D cI cZ ad)) (C := RX5) (T := TX5) (N := 7) (ci := 5) 1 5 hdg hn inX_X5 rfl rfl (by decide) hw rfl rfl k
theorem pfC_1_5 (hdg : decode cc pc = .ok (.putfield ix, 3)) (hn : pc + 3 = pn) (hw : Cond.fieldLink y.cls ix "StuckTowns$Reader" "at" "I" ∈ sg_tbl) (k : sg_G (eC l D cI cZ ad) y cc nL ret d pn lv st (sg_s z 4 x0) Q) : sg_G (eC l D cI cZ ad) y cc nL ret d pc lv (.int x0 :: .ref (ad 1) :: st) z Q := sg_put (E := (eC l D cI cZ ad)) (C := RX5) (T := TX5) (N := 7) (ci := 5) (ty := .int) 1 5 hdg hn inX_X5 tyX5 tyX5_ok nmX5 rfl rfl (by decide) hw rfl rfl (by decide +kernel) rfl rfl (Nat.le_of_ble_eq_true rfl) rfl k
theorem gfC_1_6 (hdg : decode cc pc = .ok (.getfield ix, 3)) (hn : pc + 3 = pn) (hw : Cond.fieldLink y.cls ix "StuckTowns$Reader" "weatherTold" "Z" ∈ sg_tbl) (k : sg_G (eC l D cI cZ ad) y cc nL ret d pn lv (.int (z.1 5) :: st) z Q) : sg_G (eC l D cI cZ ad) y cc nL ret d pc lv (.ref (ad 1) :: st) z Q := sg_get (E := (eC l D cI cZ ad)) (C := RX5) (T := TX5) (N := 7) (ci := 5) 1 6 hdg hn inX_X5 rfl rfl (by decide) hw rfl rfl k
theorem pfC_1_6 (hdg : decode cc pc = .ok (.putfield ix, 3)) (hn : pc + 3 = pn) (hw : Cond.fieldLink y.cls ix "StuckTowns$Reader" "weatherTold" "Z" ∈ sg_tbl) (hnr : narrow .boolean (.int x0) = .int x0) (hft : fits .boolean (.int x0) = true) (k : sg_G (eC l D cI cZ ad) y cc nL ret d pn lv st (sg_s z 5 x0) Q) : sg_G (eC l D cI cZ ad) y cc nL ret d pc lv (.int x0 :: .ref (ad 1) :: st) z Q := sg_put (E := (eC l D cI cZ ad)) (C := RX5) (T := TX5) (N := 7) (ci := 5) (ty := .boolean) 1 6 hdg hn inX_X5 tyX5 tyX5_ok nmX5 rfl rfl (by decide) hw rfl rfl (by decide +kernel) hnr hft (Nat.le_of_ble_eq_true rfl) rfl k
theorem gfC_2_0 (hdg : decode cc pc = .ok (.getfield ix, 3)) (hn : pc + 3 = pn) (hw : Cond.fieldLink y.cls ix "StuckTowns$Road" "cells" "I" ∈ sg_tbl) (k : sg_G (eC l D cI cZ ad) y cc nL ret d pn lv (.int (z.1 6) :: st) z Q) : sg_G (eC l D cI cZ ad) y cc nL ret d pc lv (.ref (ad 2) :: st) z Q := sg_get (E := (eC l D cI cZ ad)) (C := RX6) (T := TX6) (N := 8) (ci := 6) 2 0 hdg hn inX_X6 rfl rfl (by decide) hw rfl rfl k
theorem pfC_2_0 (hdg : decode cc pc = .ok (.putfield ix, 3)) (hn : pc + 3 = pn) (hw : Cond.fieldLink y.cls ix "StuckTowns$Road" "cells" "I" ∈ sg_tbl) (k : sg_G (eC l D cI cZ ad) y cc nL ret d pn lv st (sg_s z 6 x0) Q) : sg_G (eC l D cI cZ ad) y cc nL ret d pc lv (.int x0 :: .ref (ad 2) :: st) z Q := sg_put (E := (eC l D cI cZ ad)) (C := RX6) (T := TX6) (N := 8) (ci := 6) (ty := .int) 2 0 hdg hn inX_X6 tyX6 tyX6_ok nmX6 rfl rfl (by decide) hw rfl rfl (by decide +kernel) rfl rfl (Nat.le_of_ble_eq_true rfl) rfl k
theorem gfC_2_1 (hdg : decode cc pc = .ok (.getfield ix, 3)) (hn : pc + 3 = pn) (hw : Cond.fieldLink y.cls ix "StuckTowns$Road" "rains" "I" ∈ sg_tbl) (k : sg_G (eC l D cI cZ ad) y cc nL ret d pn lv (.int (z.1 7) :: st) z Q) : sg_G (eC l D cI cZ ad) y cc nL ret d pc lv (.ref (ad 2) :: st) z Q := sg_get (E := (eC l D cI cZ ad)) (C := RX6) (T := TX6) (N := 8) (ci := 6) 2 1 hdg hn inX_X6 rfl rfl (by decide) hw rfl rfl k
theorem pfC_2_1 (hdg : decode cc pc = .ok (.putfield ix, 3)) (hn : pc + 3 = pn) (hw : Cond.fieldLink y.cls ix "StuckTowns$Road" "rains" "I" ∈ sg_tbl) (k : sg_G (eC l D cI cZ ad) y cc nL ret d pn lv st (sg_s z 7 x0) Q) : sg_G (eC l D cI cZ ad) y cc nL ret d pc lv (.int x0 :: .ref (ad 2) :: st) z Q := sg_put (E := (eC l D cI cZ ad)) (C := RX6) (T := TX6) (N := 8) (ci := 6) (ty := .int) 2 1 hdg hn inX_X6 tyX6 tyX6_ok nmX6 rfl rfl (by decide) hw rfl rfl (by decide +kernel) rfl rfl (Nat.le_of_ble_eq_true rfl) rfl k
theorem gfC_2_2 (hdg : decode cc pc = .ok (.getfield ix, 3)) (hn : pc + 3 = pn) (hw : Cond.fieldLink y.cls ix "StuckTowns$Road" "carts" "I" ∈ sg_tbl) (k : sg_G (eC l D cI cZ ad) y cc nL ret d pn lv (.int (z.1 8) :: st) z Q) : sg_G (eC l D cI cZ ad) y cc nL ret d pc lv (.ref (ad 2) :: st) z Q := sg_get (E := (eC l D cI cZ ad)) (C := RX6) (T := TX6) (N := 8) (ci := 6) 2 2 hdg hn inX_X6 rfl rfl (by decide) hw rfl rfl k
theorem pfC_2_2 (hdg : decode cc pc = .ok (.putfield ix, 3)) (hn : pc + 3 = pn) (hw : Cond.fieldLink y.cls ix "StuckTowns$Road" "carts" "I" ∈ sg_tbl) (k : sg_G (eC l D cI cZ ad) y cc nL ret d pn lv st (sg_s z 8 x0) Q) : sg_G (eC l D cI cZ ad) y cc nL ret d pc lv (.int x0 :: .ref (ad 2) :: st) z Q := sg_put (E := (eC l D cI cZ ad)) (C := RX6) (T := TX6) (N := 8) (ci := 6) (ty := .int) 2 2 hdg hn inX_X6 tyX6 tyX6_ok nmX6 rfl rfl (by decide) hw rfl rfl (by decide +kernel) rfl rfl (Nat.le_of_ble_eq_true rfl) rfl k
theorem gfC_2_3 (hdg : decode cc pc = .ok (.getfield ix, 3)) (hn : pc + 3 = pn) (hw : Cond.fieldLink y.cls ix "StuckTowns$Road" "soft" "[I" ∈ sg_tbl) (k : sg_G (eC l D cI cZ ad) y cc nL ret d pn lv (.ref (ad 3) :: st) z Q) : sg_G (eC l D cI cZ ad) y cc nL ret d pc lv (.ref (ad 2) :: st) z Q := sg_get (E := (eC l D cI cZ ad)) (C := RX6) (T := TX6) (N := 8) (ci := 6) 2 3 hdg hn inX_X6 rfl rfl (by decide) hw rfl rfl k
theorem gfC_2_4 (hdg : decode cc pc = .ok (.getfield ix, 3)) (hn : pc + 3 = pn) (hw : Cond.fieldLink y.cls ix "StuckTowns$Road" "weather" "[I" ∈ sg_tbl) (k : sg_G (eC l D cI cZ ad) y cc nL ret d pn lv (.ref (ad 4) :: st) z Q) : sg_G (eC l D cI cZ ad) y cc nL ret d pc lv (.ref (ad 2) :: st) z Q := sg_get (E := (eC l D cI cZ ad)) (C := RX6) (T := TX6) (N := 8) (ci := 6) 2 4 hdg hn inX_X6 rfl rfl (by decide) hw rfl rfl k
theorem gfC_2_5 (hdg : decode cc pc = .ok (.getfield ix, 3)) (hn : pc + 3 = pn) (hw : Cond.fieldLink y.cls ix "StuckTowns$Road" "wheels" "[I" ∈ sg_tbl) (k : sg_G (eC l D cI cZ ad) y cc nL ret d pn lv (.ref (ad 5) :: st) z Q) : sg_G (eC l D cI cZ ad) y cc nL ret d pc lv (.ref (ad 2) :: st) z Q := sg_get (E := (eC l D cI cZ ad)) (C := RX6) (T := TX6) (N := 8) (ci := 6) 2 5 hdg hn inX_X6 rfl rfl (by decide) hw rfl rfl k
theorem gfC_2_6 (hdg : decode cc pc = .ok (.getfield ix, 3)) (hn : pc + 3 = pn) (hw : Cond.fieldLink y.cls ix "StuckTowns$Road" "toldLoad" "[I" ∈ sg_tbl) (k : sg_G (eC l D cI cZ ad) y cc nL ret d pn lv (.ref (ad 6) :: st) z Q) : sg_G (eC l D cI cZ ad) y cc nL ret d pc lv (.ref (ad 2) :: st) z Q := sg_get (E := (eC l D cI cZ ad)) (C := RX6) (T := TX6) (N := 8) (ci := 6) 2 6 hdg hn inX_X6 rfl rfl (by decide) hw rfl rfl k
theorem gfC_2_7 (hdg : decode cc pc = .ok (.getfield ix, 3)) (hn : pc + 3 = pn) (hw : Cond.fieldLink y.cls ix "StuckTowns$Road" "says" "[I" ∈ sg_tbl) (k : sg_G (eC l D cI cZ ad) y cc nL ret d pn lv (.ref (ad 7) :: st) z Q) : sg_G (eC l D cI cZ ad) y cc nL ret d pc lv (.ref (ad 2) :: st) z Q := sg_get (E := (eC l D cI cZ ad)) (C := RX6) (T := TX6) (N := 8) (ci := 6) 2 7 hdg hn inX_X6 rfl rfl (by decide) hw rfl rfl k
theorem gfC_9_0 (hdg : decode cc pc = .ok (.getfield ix, 3)) (hn : pc + 3 = pn) (hw : Cond.fieldLink y.cls ix "StuckTowns$Road" "cells" "I" ∈ sg_tbl) (k : sg_G (eC l D cI cZ ad) y cc nL ret d pn lv (.int (z.1 9) :: st) z Q) : sg_G (eC l D cI cZ ad) y cc nL ret d pc lv (.ref (ad 9) :: st) z Q := sg_get (E := (eC l D cI cZ ad)) (C := RX6) (T := TX6) (N := 8) (ci := 6) 9 0 hdg hn inX_X6 rfl rfl (by decide) hw rfl rfl k
theorem pfC_9_0 (hdg : decode cc pc = .ok (.putfield ix, 3)) (hn : pc + 3 = pn) (hw : Cond.fieldLink y.cls ix "StuckTowns$Road" "cells" "I" ∈ sg_tbl) (k : sg_G (eC l D cI cZ ad) y cc nL ret d pn lv st (sg_s z 9 x0) Q) : sg_G (eC l D cI cZ ad) y cc nL ret d pc lv (.int x0 :: .ref (ad 9) :: st) z Q := sg_put (E := (eC l D cI cZ ad)) (C := RX6) (T := TX6) (N := 8) (ci := 6) (ty := .int) 9 0 hdg hn inX_X6 tyX6 tyX6_ok nmX6 rfl rfl (by decide) hw rfl rfl (by decide +kernel) rfl rfl (Nat.le_of_ble_eq_true rfl) rfl k
theorem gfC_9_1 (hdg : decode cc pc = .ok (.getfield ix, 3)) (hn : pc + 3 = pn) (hw : Cond.fieldLink y.cls ix "StuckTowns$Road" "rains" "I" ∈ sg_tbl) (k : sg_G (eC l D cI cZ ad) y cc nL ret d pn lv (.int (z.1 10) :: st) z Q) : sg_G (eC l D cI cZ ad) y cc nL ret d pc lv (.ref (ad 9) :: st) z Q := sg_get (E := (eC l D cI cZ ad)) (C := RX6) (T := TX6) (N := 8) (ci := 6) 9 1 hdg hn inX_X6 rfl rfl (by decide) hw rfl rfl k
theorem pfC_9_1 (hdg : decode cc pc = .ok (.putfield ix, 3)) (hn : pc + 3 = pn) (hw : Cond.fieldLink y.cls ix "StuckTowns$Road" "rains" "I" ∈ sg_tbl) (k : sg_G (eC l D cI cZ ad) y cc nL ret d pn lv st (sg_s z 10 x0) Q) : sg_G (eC l D cI cZ ad) y cc nL ret d pc lv (.int x0 :: .ref (ad 9) :: st) z Q := sg_put (E := (eC l D cI cZ ad)) (C := RX6) (T := TX6) (N := 8) (ci := 6) (ty := .int) 9 1 hdg hn inX_X6 tyX6 tyX6_ok nmX6 rfl rfl (by decide) hw rfl rfl (by decide +kernel) rfl rfl (Nat.le_of_ble_eq_true rfl) rfl k
theorem gfC_9_2 (hdg : decode cc pc = .ok (.getfield ix, 3)) (hn : pc + 3 = pn) (hw : Cond.fieldLink y.cls ix "StuckTowns$Road" "carts" "I" ∈ sg_tbl) (k : sg_G (eC l D cI cZ ad) y cc nL ret d pn lv (.int (z.1 11) :: st) z Q) : sg_G (eC l D cI cZ ad) y cc nL ret d pc lv (.ref (ad 9) :: st) z Q := sg_get (E := (eC l D cI cZ ad)) (C := RX6) (T := TX6) (N := 8) (ci := 6) 9 2 hdg hn inX_X6 rfl rfl (by decide) hw rfl rfl k
theorem pfC_9_2 (hdg : decode cc pc = .ok (.putfield ix, 3)) (hn : pc + 3 = pn) (hw : Cond.fieldLink y.cls ix "StuckTowns$Road" "carts" "I" ∈ sg_tbl) (k : sg_G (eC l D cI cZ ad) y cc nL ret d pn lv st (sg_s z 11 x0) Q) : sg_G (eC l D cI cZ ad) y cc nL ret d pc lv (.int x0 :: .ref (ad 9) :: st) z Q := sg_put (E := (eC l D cI cZ ad)) (C := RX6) (T := TX6) (N := 8) (ci := 6) (ty := .int) 9 2 hdg hn inX_X6 tyX6 tyX6_ok nmX6 rfl rfl (by decide) hw rfl rfl (by decide +kernel) rfl rfl (Nat.le_of_ble_eq_true rfl) rfl k
theorem gfC_9_3 (hdg : decode cc pc = .ok (.getfield ix, 3)) (hn : pc + 3 = pn) (hw : Cond.fieldLink y.cls ix "StuckTowns$Road" "soft" "[I" ∈ sg_tbl) (k : sg_G (eC l D cI cZ ad) y cc nL ret d pn lv (.ref (ad 10) :: st) z Q) : sg_G (eC l D cI cZ ad) y cc nL ret d pc lv (.ref (ad 9) :: st) z Q := sg_get (E := (eC l D cI cZ ad)) (C := RX6) (T := TX6) (N := 8) (ci := 6) 9 3 hdg hn inX_X6 rfl rfl (by decide) hw rfl rfl k
theorem gfC_9_4 (hdg : decode cc pc = .ok (.getfield ix, 3)) (hn : pc + 3 = pn) (hw : Cond.fieldLink y.cls ix "StuckTowns$Road" "weather" "[I" ∈ sg_tbl) (k : sg_G (eC l D cI cZ ad) y cc nL ret d pn lv (.ref (ad 11) :: st) z Q) : sg_G (eC l D cI cZ ad) y cc nL ret d pc lv (.ref (ad 9) :: st) z Q := sg_get (E := (eC l D cI cZ ad)) (C := RX6) (T := TX6) (N := 8) (ci := 6) 9 4 hdg hn inX_X6 rfl rfl (by decide) hw rfl rfl k
theorem gfC_9_5 (hdg : decode cc pc = .ok (.getfield ix, 3)) (hn : pc + 3 = pn) (hw : Cond.fieldLink y.cls ix "StuckTowns$Road" "wheels" "[I" ∈ sg_tbl) (k : sg_G (eC l D cI cZ ad) y cc nL ret d pn lv (.ref (ad 12) :: st) z Q) : sg_G (eC l D cI cZ ad) y cc nL ret d pc lv (.ref (ad 9) :: st) z Q := sg_get (E := (eC l D cI cZ ad)) (C := RX6) (T := TX6) (N := 8) (ci := 6) 9 5 hdg hn inX_X6 rfl rfl (by decide) hw rfl rfl k
theorem gfC_9_6 (hdg : decode cc pc = .ok (.getfield ix, 3)) (hn : pc + 3 = pn) (hw : Cond.fieldLink y.cls ix "StuckTowns$Road" "toldLoad" "[I" ∈ sg_tbl) (k : sg_G (eC l D cI cZ ad) y cc nL ret d pn lv (.ref (ad 13) :: st) z Q) : sg_G (eC l D cI cZ ad) y cc nL ret d pc lv (.ref (ad 9) :: st) z Q := sg_get (E := (eC l D cI cZ ad)) (C := RX6) (T := TX6) (N := 8) (ci := 6) 9 6 hdg hn inX_X6 rfl rfl (by decide) hw rfl rfl k
theorem gfC_9_7 (hdg : decode cc pc = .ok (.getfield ix, 3)) (hn : pc + 3 = pn) (hw : Cond.fieldLink y.cls ix "StuckTowns$Road" "says" "[I" ∈ sg_tbl) (k : sg_G (eC l D cI cZ ad) y cc nL ret d pn lv (.ref (ad 14) :: st) z Q) : sg_G (eC l D cI cZ ad) y cc nL ret d pc lv (.ref (ad 9) :: st) z Q := sg_get (E := (eC l D cI cZ ad)) (C := RX6) (T := TX6) (N := 8) (ci := 6) 9 7 hdg hn inX_X6 rfl rfl (by decide) hw rfl rfl k
theorem gfC_15_0 (hdg : decode cc pc = .ok (.getfield ix, 3)) (hn : pc + 3 = pn) (hw : Cond.fieldLink y.cls ix "StuckTowns$State" "days" "I" ∈ sg_tbl) (k : sg_G (eC l D cI cZ ad) y cc nL ret d pn lv (.int (z.1 12) :: st) z Q) : sg_G (eC l D cI cZ ad) y cc nL ret d pc lv (.ref (ad 15) :: st) z Q := sg_get (E := (eC l D cI cZ ad)) (C := RX8) (T := TX8) (N := 9) (ci := 8) 15 0 hdg hn inX_X8 rfl rfl (by decide) hw rfl rfl k
theorem pfC_15_0 (hdg : decode cc pc = .ok (.putfield ix, 3)) (hn : pc + 3 = pn) (hw : Cond.fieldLink y.cls ix "StuckTowns$State" "days" "I" ∈ sg_tbl) (k : sg_G (eC l D cI cZ ad) y cc nL ret d pn lv st (sg_s z 12 x0) Q) : sg_G (eC l D cI cZ ad) y cc nL ret d pc lv (.int x0 :: .ref (ad 15) :: st) z Q := sg_put (E := (eC l D cI cZ ad)) (C := RX8) (T := TX8) (N := 9) (ci := 8) (ty := .int) 15 0 hdg hn inX_X8 tyX8 tyX8_ok nmX8 rfl rfl (by decide) hw rfl rfl (by decide +kernel) rfl rfl (Nat.le_of_ble_eq_true rfl) rfl k
theorem gfC_15_1 (hdg : decode cc pc = .ok (.getfield ix, 3)) (hn : pc + 3 = pn) (hw : Cond.fieldLink y.cls ix "StuckTowns$State" "stormLeft" "I" ∈ sg_tbl) (k : sg_G (eC l D cI cZ ad) y cc nL ret d pn lv (.int (z.1 13) :: st) z Q) : sg_G (eC l D cI cZ ad) y cc nL ret d pc lv (.ref (ad 15) :: st) z Q := sg_get (E := (eC l D cI cZ ad)) (C := RX8) (T := TX8) (N := 9) (ci := 8) 15 1 hdg hn inX_X8 rfl rfl (by decide) hw rfl rfl k
theorem pfC_15_1 (hdg : decode cc pc = .ok (.putfield ix, 3)) (hn : pc + 3 = pn) (hw : Cond.fieldLink y.cls ix "StuckTowns$State" "stormLeft" "I" ∈ sg_tbl) (k : sg_G (eC l D cI cZ ad) y cc nL ret d pn lv st (sg_s z 13 x0) Q) : sg_G (eC l D cI cZ ad) y cc nL ret d pc lv (.int x0 :: .ref (ad 15) :: st) z Q := sg_put (E := (eC l D cI cZ ad)) (C := RX8) (T := TX8) (N := 9) (ci := 8) (ty := .int) 15 1 hdg hn inX_X8 tyX8 tyX8_ok nmX8 rfl rfl (by decide) hw rfl rfl (by decide +kernel) rfl rfl (Nat.le_of_ble_eq_true rfl) rfl k
theorem gfC_15_2 (hdg : decode cc pc = .ok (.getfield ix, 3)) (hn : pc + 3 = pn) (hw : Cond.fieldLink y.cls ix "StuckTowns$State" "gravel" "[I" ∈ sg_tbl) (k : sg_G (eC l D cI cZ ad) y cc nL ret d pn lv (.ref (ad 16) :: st) z Q) : sg_G (eC l D cI cZ ad) y cc nL ret d pc lv (.ref (ad 15) :: st) z Q := sg_get (E := (eC l D cI cZ ad)) (C := RX8) (T := TX8) (N := 9) (ci := 8) 15 2 hdg hn inX_X8 rfl rfl (by decide) hw rfl rfl k
theorem gfC_15_3 (hdg : decode cc pc = .ok (.getfield ix, 3)) (hn : pc + 3 = pn) (hw : Cond.fieldLink y.cls ix "StuckTowns$State" "townName" "[I" ∈ sg_tbl) (k : sg_G (eC l D cI cZ ad) y cc nL ret d pn lv (.ref (ad 17) :: st) z Q) : sg_G (eC l D cI cZ ad) y cc nL ret d pc lv (.ref (ad 15) :: st) z Q := sg_get (E := (eC l D cI cZ ad)) (C := RX8) (T := TX8) (N := 9) (ci := 8) 15 3 hdg hn inX_X8 rfl rfl (by decide) hw rfl rfl k
theorem gfC_15_4 (hdg : decode cc pc = .ok (.getfield ix, 3)) (hn : pc + 3 = pn) (hw : Cond.fieldLink y.cls ix "StuckTowns$State" "mayor" "[I" ∈ sg_tbl) (k : sg_G (eC l D cI cZ ad) y cc nL ret d pn lv (.ref (ad 18) :: st) z Q) : sg_G (eC l D cI cZ ad) y cc nL ret d pc lv (.ref (ad 15) :: st) z Q := sg_get (E := (eC l D cI cZ ad)) (C := RX8) (T := TX8) (N := 9) (ci := 8) 15 4 hdg hn inX_X8 rfl rfl (by decide) hw rfl rfl k
theorem gfC_15_5 (hdg : decode cc pc = .ok (.getfield ix, 3)) (hn : pc + 3 = pn) (hw : Cond.fieldLink y.cls ix "StuckTowns$State" "folk" "[I" ∈ sg_tbl) (k : sg_G (eC l D cI cZ ad) y cc nL ret d pn lv (.ref (ad 19) :: st) z Q) : sg_G (eC l D cI cZ ad) y cc nL ret d pc lv (.ref (ad 15) :: st) z Q := sg_get (E := (eC l D cI cZ ad)) (C := RX8) (T := TX8) (N := 9) (ci := 8) 15 5 hdg hn inX_X8 rfl rfl (by decide) hw rfl rfl k
theorem gfC_15_6 (hdg : decode cc pc = .ok (.getfield ix, 3)) (hn : pc + 3 = pn) (hw : Cond.fieldLink y.cls ix "StuckTowns$State" "loadOf" "[I" ∈ sg_tbl) (k : sg_G (eC l D cI cZ ad) y cc nL ret d pn lv (.ref (ad 20) :: st) z Q) : sg_G (eC l D cI cZ ad) y cc nL ret d pc lv (.ref (ad 15) :: st) z Q := sg_get (E := (eC l D cI cZ ad)) (C := RX8) (T := TX8) (N := 9) (ci := 8) 15 6 hdg hn inX_X8 rfl rfl (by decide) hw rfl rfl k
theorem gfC_15_7 (hdg : decode cc pc = .ok (.getfield ix, 3)) (hn : pc + 3 = pn) (hw : Cond.fieldLink y.cls ix "StuckTowns$State" "stuckAt" "[I" ∈ sg_tbl) (k : sg_G (eC l D cI cZ ad) y cc nL ret d pn lv (.ref (ad 21) :: st) z Q) : sg_G (eC l D cI cZ ad) y cc nL ret d pc lv (.ref (ad 15) :: st) z Q := sg_get (E := (eC l D cI cZ ad)) (C := RX8) (T := TX8) (N := 9) (ci := 8) 15 7 hdg hn inX_X8 rfl rfl (by decide) hw rfl rfl k
theorem gfC_15_8 (hdg : decode cc pc = .ok (.getfield ix, 3)) (hn : pc + 3 = pn) (hw : Cond.fieldLink y.cls ix "StuckTowns$State" "timesStuck" "[I" ∈ sg_tbl) (k : sg_G (eC l D cI cZ ad) y cc nL ret d pn lv (.ref (ad 22) :: st) z Q) : sg_G (eC l D cI cZ ad) y cc nL ret d pc lv (.ref (ad 15) :: st) z Q := sg_get (E := (eC l D cI cZ ad)) (C := RX8) (T := TX8) (N := 9) (ci := 8) 15 8 hdg hn inX_X8 rfl rfl (by decide) hw rfl rfl k
theorem gfC_23_0 (hdg : decode cc pc = .ok (.getfield ix, 3)) (hn : pc + 3 = pn) (hw : Cond.fieldLink y.cls ix "StuckTowns$Kingdom" "map" "LStuckTowns$Road;" ∈ sg_tbl) (k : sg_G (eC l D cI cZ ad) y cc nL ret d pn lv (.ref (ad 9) :: st) z Q) : sg_G (eC l D cI cZ ad) y cc nL ret d pc lv (.ref (ad 23) :: st) z Q := sg_get (E := (eC l D cI cZ ad)) (C := RX2) (T := TX2) (N := 2) (ci := 2) 23 0 hdg hn inX_X2 rfl rfl (by decide) hw rfl rfl k
theorem gfC_23_1 (hdg : decode cc pc = .ok (.getfield ix, 3)) (hn : pc + 3 = pn) (hw : Cond.fieldLink y.cls ix "StuckTowns$Kingdom" "now" "LStuckTowns$State;" ∈ sg_tbl) (k : sg_G (eC l D cI cZ ad) y cc nL ret d pn lv (.ref (ad 15) :: st) z Q) : sg_G (eC l D cI cZ ad) y cc nL ret d pc lv (.ref (ad 23) :: st) z Q := sg_get (E := (eC l D cI cZ ad)) (C := RX2) (T := TX2) (N := 2) (ci := 2) 23 1 hdg hn inX_X2 rfl rfl (by decide) hw rfl rfl k
theorem gfC_24_0 (hdg : decode cc pc = .ok (.getfield ix, 3)) (hn : pc + 3 = pn) (hw : Cond.fieldLink y.cls ix "StuckTowns$Survey" "map" "LStuckTowns$Road;" ∈ sg_tbl) (k : sg_G (eC l D cI cZ ad) y cc nL ret d pn lv (.ref (ad 9) :: st) z Q) : sg_G (eC l D cI cZ ad) y cc nL ret d pc lv (.ref (ad 24) :: st) z Q := sg_get (E := (eC l D cI cZ ad)) (C := RX9) (T := TX9) (N := 2) (ci := 9) 24 0 hdg hn inX_X9 rfl rfl (by decide) hw rfl rfl k
theorem gfC_24_1 (hdg : decode cc pc = .ok (.getfield ix, 3)) (hn : pc + 3 = pn) (hw : Cond.fieldLink y.cls ix "StuckTowns$Survey" "now" "LStuckTowns$State;" ∈ sg_tbl) (k : sg_G (eC l D cI cZ ad) y cc nL ret d pn lv (.ref (ad 15) :: st) z Q) : sg_G (eC l D cI cZ ad) y cc nL ret d pc lv (.ref (ad 24) :: st) z Q := sg_get (E := (eC l D cI cZ ad)) (C := RX9) (T := TX9) (N := 2) (ci := 9) 24 1 hdg hn inX_X9 rfl rfl (by decide) hw rfl rfl k
theorem gfC_25_0 (hdg : decode cc pc = .ok (.getfield ix, 3)) (hn : pc + 3 = pn) (hw : Cond.fieldLink y.cls ix "StuckTowns$Trials" "map" "LStuckTowns$Road;" ∈ sg_tbl) (k : sg_G (eC l D cI cZ ad) y cc nL ret d pn lv (.ref (ad 9) :: st) z Q) : sg_G (eC l D cI cZ ad) y cc nL ret d pc lv (.ref (ad 25) :: st) z Q := sg_get (E := (eC l D cI cZ ad)) (C := RX10) (T := TX10) (N := 5) (ci := 10) 25 0 hdg hn inX_X10 rfl rfl (by decide) hw rfl rfl k
theorem gfC_25_1 (hdg : decode cc pc = .ok (.getfield ix, 3)) (hn : pc + 3 = pn) (hw : Cond.fieldLink y.cls ix "StuckTowns$Trials" "now" "LStuckTowns$State;" ∈ sg_tbl) (k : sg_G (eC l D cI cZ ad) y cc nL ret d pn lv (.ref (ad 15) :: st) z Q) : sg_G (eC l D cI cZ ad) y cc nL ret d pc lv (.ref (ad 25) :: st) z Q := sg_get (E := (eC l D cI cZ ad)) (C := RX10) (T := TX10) (N := 5) (ci := 10) 25 1 hdg hn inX_X10 rfl rfl (by decide) hw rfl rfl k
theorem gfC_25_2 (hdg : decode cc pc = .ok (.getfield ix, 3)) (hn : pc + 3 = pn) (hw : Cond.fieldLink y.cls ix "StuckTowns$Trials" "kingdom" "LStuckTowns$Kingdom;" ∈ sg_tbl) (k : sg_G (eC l D cI cZ ad) y cc nL ret d pn lv (.ref (ad 23) :: st) z Q) : sg_G (eC l D cI cZ ad) y cc nL ret d pc lv (.ref (ad 25) :: st) z Q := sg_get (E := (eC l D cI cZ ad)) (C := RX10) (T := TX10) (N := 5) (ci := 10) 25 2 hdg hn inX_X10 rfl rfl (by decide) hw rfl rfl k
theorem gfC_25_3 (hdg : decode cc pc = .ok (.getfield ix, 3)) (hn : pc + 3 = pn) (hw : Cond.fieldLink y.cls ix "StuckTowns$Trials" "stopped" "[I" ∈ sg_tbl) (k : sg_G (eC l D cI cZ ad) y cc nL ret d pn lv (.ref (ad 26) :: st) z Q) : sg_G (eC l D cI cZ ad) y cc nL ret d pc lv (.ref (ad 25) :: st) z Q := sg_get (E := (eC l D cI cZ ad)) (C := RX10) (T := TX10) (N := 5) (ci := 10) 25 3 hdg hn inX_X10 rfl rfl (by decide) hw rfl rfl k
theorem gfC_25_4 (hdg : decode cc pc = .ok (.getfield ix, 3)) (hn : pc + 3 = pn) (hw : Cond.fieldLink y.cls ix "StuckTowns$Trials" "span" "LStuckTowns$Span;" ∈ sg_tbl) (k : sg_G (eC l D cI cZ ad) y cc nL ret d pn lv (.ref (ad 27) :: st) z Q) : sg_G (eC l D cI cZ ad) y cc nL ret d pc lv (.ref (ad 25) :: st) z Q := sg_get (E := (eC l D cI cZ ad)) (C := RX10) (T := TX10) (N := 5) (ci := 10) 25 4 hdg hn inX_X10 rfl rfl (by decide) hw rfl rfl k
theorem gfC_27_0 (hdg : decode cc pc = .ok (.getfield ix, 3)) (hn : pc + 3 = pn) (hw : Cond.fieldLink y.cls ix "StuckTowns$Span" "count" "I" ∈ sg_tbl) (k : sg_G (eC l D cI cZ ad) y cc nL ret d pn lv (.int (z.1 14) :: st) z Q) : sg_G (eC l D cI cZ ad) y cc nL ret d pc lv (.ref (ad 27) :: st) z Q := sg_get (E := (eC l D cI cZ ad)) (C := RX7) (T := TX7) (N := 3) (ci := 7) 27 0 hdg hn inX_X7 rfl rfl (by decide) hw rfl rfl k
theorem pfC_27_0 (hdg : decode cc pc = .ok (.putfield ix, 3)) (hn : pc + 3 = pn) (hw : Cond.fieldLink y.cls ix "StuckTowns$Span" "count" "I" ∈ sg_tbl) (k : sg_G (eC l D cI cZ ad) y cc nL ret d pn lv st (sg_s z 14 x0) Q) : sg_G (eC l D cI cZ ad) y cc nL ret d pc lv (.int x0 :: .ref (ad 27) :: st) z Q := sg_put (E := (eC l D cI cZ ad)) (C := RX7) (T := TX7) (N := 3) (ci := 7) (ty := .int) 27 0 hdg hn inX_X7 tyX7 tyX7_ok nmX7 rfl rfl (by decide) hw rfl rfl (by decide +kernel) rfl rfl (Nat.le_of_ble_eq_true rfl) rfl k
theorem gfC_27_1 (hdg : decode cc pc = .ok (.getfield ix, 3)) (hn : pc + 3 = pn) (hw : Cond.fieldLink y.cls ix "StuckTowns$Span" "least" "I" ∈ sg_tbl) (k : sg_G (eC l D cI cZ ad) y cc nL ret d pn lv (.int (z.1 15) :: st) z Q) : sg_G (eC l D cI cZ ad) y cc nL ret d pc lv (.ref (ad 27) :: st) z Q := sg_get (E := (eC l D cI cZ ad)) (C := RX7) (T := TX7) (N := 3) (ci := 7) 27 1 hdg hn inX_X7 rfl rfl (by decide) hw rfl rfl k
theorem pfC_27_1 (hdg : decode cc pc = .ok (.putfield ix, 3)) (hn : pc + 3 = pn) (hw : Cond.fieldLink y.cls ix "StuckTowns$Span" "least" "I" ∈ sg_tbl) (k : sg_G (eC l D cI cZ ad) y cc nL ret d pn lv st (sg_s z 15 x0) Q) : sg_G (eC l D cI cZ ad) y cc nL ret d pc lv (.int x0 :: .ref (ad 27) :: st) z Q := sg_put (E := (eC l D cI cZ ad)) (C := RX7) (T := TX7) (N := 3) (ci := 7) (ty := .int) 27 1 hdg hn inX_X7 tyX7 tyX7_ok nmX7 rfl rfl (by decide) hw rfl rfl (by decide +kernel) rfl rfl (Nat.le_of_ble_eq_true rfl) rfl k
theorem gfC_27_2 (hdg : decode cc pc = .ok (.getfield ix, 3)) (hn : pc + 3 = pn) (hw : Cond.fieldLink y.cls ix "StuckTowns$Span" "greatest" "I" ∈ sg_tbl) (k : sg_G (eC l D cI cZ ad) y cc nL ret d pn lv (.int (z.1 16) :: st) z Q) : sg_G (eC l D cI cZ ad) y cc nL ret d pc lv (.ref (ad 27) :: st) z Q := sg_get (E := (eC l D cI cZ ad)) (C := RX7) (T := TX7) (N := 3) (ci := 7) 27 2 hdg hn inX_X7 rfl rfl (by decide) hw rfl rfl k
theorem pfC_27_2 (hdg : decode cc pc = .ok (.putfield ix, 3)) (hn : pc + 3 = pn) (hw : Cond.fieldLink y.cls ix "StuckTowns$Span" "greatest" "I" ∈ sg_tbl) (k : sg_G (eC l D cI cZ ad) y cc nL ret d pn lv st (sg_s z 16 x0) Q) : sg_G (eC l D cI cZ ad) y cc nL ret d pc lv (.int x0 :: .ref (ad 27) :: st) z Q := sg_put (E := (eC l D cI cZ ad)) (C := RX7) (T := TX7) (N := 3) (ci := 7) (ty := .int) 27 2 hdg hn inX_X7 tyX7 tyX7_ok nmX7 rfl rfl (by decide) hw rfl rfl (by decide +kernel) rfl rfl (Nat.le_of_ble_eq_true rfl) rfl k
theorem gfC_28_0 (hdg : decode cc pc = .ok (.getfield ix, 3)) (hn : pc + 3 = pn) (hw : Cond.fieldLink y.cls ix "StuckTowns$Orders" "bestCount" "I" ∈ sg_tbl) (k : sg_G (eC l D cI cZ ad) y cc nL ret d pn lv (.int (z.1 17) :: st) z Q) : sg_G (eC l D cI cZ ad) y cc nL ret d pc lv (.ref (ad 28) :: st) z Q := sg_get (E := (eC l D cI cZ ad)) (C := RX4) (T := TX4) (N := 5) (ci := 4) 28 0 hdg hn inX_X4 rfl rfl (by decide) hw rfl rfl k
theorem pfC_28_0 (hdg : decode cc pc = .ok (.putfield ix, 3)) (hn : pc + 3 = pn) (hw : Cond.fieldLink y.cls ix "StuckTowns$Orders" "bestCount" "I" ∈ sg_tbl) (k : sg_G (eC l D cI cZ ad) y cc nL ret d pn lv st (sg_s z 17 x0) Q) : sg_G (eC l D cI cZ ad) y cc nL ret d pc lv (.int x0 :: .ref (ad 28) :: st) z Q := sg_put (E := (eC l D cI cZ ad)) (C := RX4) (T := TX4) (N := 5) (ci := 4) (ty := .int) 28 0 hdg hn inX_X4 tyX4 tyX4_ok nmX4 rfl rfl (by decide) hw rfl rfl (by decide +kernel) rfl rfl (Nat.le_of_ble_eq_true rfl) rfl k
theorem gfC_28_1 (hdg : decode cc pc = .ok (.getfield ix, 3)) (hn : pc + 3 = pn) (hw : Cond.fieldLink y.cls ix "StuckTowns$Orders" "bestFigures" "I" ∈ sg_tbl) (k : sg_G (eC l D cI cZ ad) y cc nL ret d pn lv (.int (z.1 18) :: st) z Q) : sg_G (eC l D cI cZ ad) y cc nL ret d pc lv (.ref (ad 28) :: st) z Q := sg_get (E := (eC l D cI cZ ad)) (C := RX4) (T := TX4) (N := 5) (ci := 4) 28 1 hdg hn inX_X4 rfl rfl (by decide) hw rfl rfl k
theorem pfC_28_1 (hdg : decode cc pc = .ok (.putfield ix, 3)) (hn : pc + 3 = pn) (hw : Cond.fieldLink y.cls ix "StuckTowns$Orders" "bestFigures" "I" ∈ sg_tbl) (k : sg_G (eC l D cI cZ ad) y cc nL ret d pn lv st (sg_s z 18 x0) Q) : sg_G (eC l D cI cZ ad) y cc nL ret d pc lv (.int x0 :: .ref (ad 28) :: st) z Q := sg_put (E := (eC l D cI cZ ad)) (C := RX4) (T := TX4) (N := 5) (ci := 4) (ty := .int) 28 1 hdg hn inX_X4 tyX4 tyX4_ok nmX4 rfl rfl (by decide) hw rfl rfl (by decide +kernel) rfl rfl (Nat.le_of_ble_eq_true rfl) rfl k
theorem gfC_28_2 (hdg : decode cc pc = .ok (.getfield ix, 3)) (hn : pc + 3 = pn) (hw : Cond.fieldLink y.cls ix "StuckTowns$Orders" "map" "LStuckTowns$Road;" ∈ sg_tbl) (k : sg_G (eC l D cI cZ ad) y cc nL ret d pn lv (.ref (ad 9) :: st) z Q) : sg_G (eC l D cI cZ ad) y cc nL ret d pc lv (.ref (ad 28) :: st) z Q := sg_get (E := (eC l D cI cZ ad)) (C := RX4) (T := TX4) (N := 5) (ci := 4) 28 2 hdg hn inX_X4 rfl rfl (by decide) hw rfl rfl k
theorem gfC_28_3 (hdg : decode cc pc = .ok (.getfield ix, 3)) (hn : pc + 3 = pn) (hw : Cond.fieldLink y.cls ix "StuckTowns$Orders" "kingdom" "LStuckTowns$Kingdom;" ∈ sg_tbl) (k : sg_G (eC l D cI cZ ad) y cc nL ret d pn lv (.ref (ad 23) :: st) z Q) : sg_G (eC l D cI cZ ad) y cc nL ret d pc lv (.ref (ad 28) :: st) z Q := sg_get (E := (eC l D cI cZ ad)) (C := RX4) (T := TX4) (N := 5) (ci := 4) 28 3 hdg hn inX_X4 rfl rfl (by decide) hw rfl rfl k
theorem gfC_28_4 (hdg : decode cc pc = .ok (.getfield ix, 3)) (hn : pc + 3 = pn) (hw : Cond.fieldLink y.cls ix "StuckTowns$Orders" "stopOn" "[I" ∈ sg_tbl) (k : sg_G (eC l D cI cZ ad) y cc nL ret d pn lv (.ref (ad 29) :: st) z Q) : sg_G (eC l D cI cZ ad) y cc nL ret d pc lv (.ref (ad 28) :: st) z Q := sg_get (E := (eC l D cI cZ ad)) (C := RX4) (T := TX4) (N := 5) (ci := 4) 28 4 hdg hn inX_X4 rfl rfl (by decide) hw rfl rfl k
theorem gfC_30_0 (hdg : decode cc pc = .ok (.getfield ix, 3)) (hn : pc + 3 = pn) (hw : Cond.fieldLink y.cls ix "StuckTowns$Entries" "count" "I" ∈ sg_tbl) (k : sg_G (eC l D cI cZ ad) y cc nL ret d pn lv (.int (z.1 19) :: st) z Q) : sg_G (eC l D cI cZ ad) y cc nL ret d pc lv (.ref (ad 30) :: st) z Q := sg_get (E := (eC l D cI cZ ad)) (C := RX0) (T := TX0) (N := 3) (ci := 0) 30 0 hdg hn inX_X0 rfl rfl (by decide) hw rfl rfl k
theorem pfC_30_0 (hdg : decode cc pc = .ok (.putfield ix, 3)) (hn : pc + 3 = pn) (hw : Cond.fieldLink y.cls ix "StuckTowns$Entries" "count" "I" ∈ sg_tbl) (k : sg_G (eC l D cI cZ ad) y cc nL ret d pn lv st (sg_s z 19 x0) Q) : sg_G (eC l D cI cZ ad) y cc nL ret d pc lv (.int x0 :: .ref (ad 30) :: st) z Q := sg_put (E := (eC l D cI cZ ad)) (C := RX0) (T := TX0) (N := 3) (ci := 0) (ty := .int) 30 0 hdg hn inX_X0 tyX0 tyX0_ok nmX0 rfl rfl (by decide) hw rfl rfl (by decide +kernel) rfl rfl (Nat.le_of_ble_eq_true rfl) rfl k
theorem gfC_30_1 (hdg : decode cc pc = .ok (.getfield ix, 3)) (hn : pc + 3 = pn) (hw : Cond.fieldLink y.cls ix "StuckTowns$Entries" "first" "[I" ∈ sg_tbl) (k : sg_G (eC l D cI cZ ad) y cc nL ret d pn lv (.ref (ad 31) :: st) z Q) : sg_G (eC l D cI cZ ad) y cc nL ret d pc lv (.ref (ad 30) :: st) z Q := sg_get (E := (eC l D cI cZ ad)) (C := RX0) (T := TX0) (N := 3) (ci := 0) 30 1 hdg hn inX_X0 rfl rfl (by decide) hw rfl rfl k
theorem gfC_30_2 (hdg : decode cc pc = .ok (.getfield ix, 3)) (hn : pc + 3 = pn) (hw : Cond.fieldLink y.cls ix "StuckTowns$Entries" "second" "[I" ∈ sg_tbl) (k : sg_G (eC l D cI cZ ad) y cc nL ret d pn lv (.ref (ad 32) :: st) z Q) : sg_G (eC l D cI cZ ad) y cc nL ret d pc lv (.ref (ad 30) :: st) z Q := sg_get (E := (eC l D cI cZ ad)) (C := RX0) (T := TX0) (N := 3) (ci := 0) 30 2 hdg hn inX_X0 rfl rfl (by decide) hw rfl rfl k
theorem gfC_33_0 (hdg : decode cc pc = .ok (.getfield ix, 3)) (hn : pc + 3 = pn) (hw : Cond.fieldLink y.cls ix "StuckTowns$Entries" "count" "I" ∈ sg_tbl) (k : sg_G (eC l D cI cZ ad) y cc nL ret d pn lv (.int (z.1 20) :: st) z Q) : sg_G (eC l D cI cZ ad) y cc nL ret d pc lv (.ref (ad 33) :: st) z Q := sg_get (E := (eC l D cI cZ ad)) (C := RX0) (T := TX0) (N := 3) (ci := 0) 33 0 hdg hn inX_X0 rfl rfl (by decide) hw rfl rfl k
theorem pfC_33_0 (hdg : decode cc pc = .ok (.putfield ix, 3)) (hn : pc + 3 = pn) (hw : Cond.fieldLink y.cls ix "StuckTowns$Entries" "count" "I" ∈ sg_tbl) (k : sg_G (eC l D cI cZ ad) y cc nL ret d pn lv st (sg_s z 20 x0) Q) : sg_G (eC l D cI cZ ad) y cc nL ret d pc lv (.int x0 :: .ref (ad 33) :: st) z Q := sg_put (E := (eC l D cI cZ ad)) (C := RX0) (T := TX0) (N := 3) (ci := 0) (ty := .int) 33 0 hdg hn inX_X0 tyX0 tyX0_ok nmX0 rfl rfl (by decide) hw rfl rfl (by decide +kernel) rfl rfl (Nat.le_of_ble_eq_true rfl) rfl k
theorem gfC_33_1 (hdg : decode cc pc = .ok (.getfield ix, 3)) (hn : pc + 3 = pn) (hw : Cond.fieldLink y.cls ix "StuckTowns$Entries" "first" "[I" ∈ sg_tbl) (k : sg_G (eC l D cI cZ ad) y cc nL ret d pn lv (.ref (ad 34) :: st) z Q) : sg_G (eC l D cI cZ ad) y cc nL ret d pc lv (.ref (ad 33) :: st) z Q := sg_get (E := (eC l D cI cZ ad)) (C := RX0) (T := TX0) (N := 3) (ci := 0) 33 1 hdg hn inX_X0 rfl rfl (by decide) hw rfl rfl k
theorem gfC_33_2 (hdg : decode cc pc = .ok (.getfield ix, 3)) (hn : pc + 3 = pn) (hw : Cond.fieldLink y.cls ix "StuckTowns$Entries" "second" "[I" ∈ sg_tbl) (k : sg_G (eC l D cI cZ ad) y cc nL ret d pn lv (.ref (ad 35) :: st) z Q) : sg_G (eC l D cI cZ ad) y cc nL ret d pc lv (.ref (ad 33) :: st) z Q := sg_get (E := (eC l D cI cZ ad)) (C := RX0) (T := TX0) (N := 3) (ci := 0) 33 2 hdg hn inX_X0 rfl rfl (by decide) hw rfl rfl k
theorem gfC_36_0 (hdg : decode cc pc = .ok (.getfield ix, 3)) (hn : pc + 3 = pn) (hw : Cond.fieldLink y.cls ix "StuckTowns$Guesses" "map" "LStuckTowns$Road;" ∈ sg_tbl) (k : sg_G (eC l D cI cZ ad) y cc nL ret d pn lv (.ref (ad 9) :: st) z Q) : sg_G (eC l D cI cZ ad) y cc nL ret d pc lv (.ref (ad 36) :: st) z Q := sg_get (E := (eC l D cI cZ ad)) (C := RX1) (T := TX1) (N := 7) (ci := 1) 36 0 hdg hn inX_X1 rfl rfl (by decide) hw rfl rfl k
theorem gfC_36_1 (hdg : decode cc pc = .ok (.getfield ix, 3)) (hn : pc + 3 = pn) (hw : Cond.fieldLink y.cls ix "StuckTowns$Guesses" "now" "LStuckTowns$State;" ∈ sg_tbl) (k : sg_G (eC l D cI cZ ad) y cc nL ret d pn lv (.ref (ad 15) :: st) z Q) : sg_G (eC l D cI cZ ad) y cc nL ret d pc lv (.ref (ad 36) :: st) z Q := sg_get (E := (eC l D cI cZ ad)) (C := RX1) (T := TX1) (N := 7) (ci := 1) 36 1 hdg hn inX_X1 rfl rfl (by decide) hw rfl rfl k
theorem gfC_36_2 (hdg : decode cc pc = .ok (.getfield ix, 3)) (hn : pc + 3 = pn) (hw : Cond.fieldLink y.cls ix "StuckTowns$Guesses" "kingdom" "LStuckTowns$Kingdom;" ∈ sg_tbl) (k : sg_G (eC l D cI cZ ad) y cc nL ret d pn lv (.ref (ad 23) :: st) z Q) : sg_G (eC l D cI cZ ad) y cc nL ret d pc lv (.ref (ad 36) :: st) z Q := sg_get (E := (eC l D cI cZ ad)) (C := RX1) (T := TX1) (N := 7) (ci := 1) 36 2 hdg hn inX_X1 rfl rfl (by decide) hw rfl rfl k
theorem gfC_36_3 (hdg : decode cc pc = .ok (.getfield ix, 3)) (hn : pc + 3 = pn) (hw : Cond.fieldLink y.cls ix "StuckTowns$Guesses" "heard" "LStuckTowns$Entries;" ∈ sg_tbl) (k : sg_G (eC l D cI cZ ad) y cc nL ret d pn lv (.ref (ad 30) :: st) z Q) : sg_G (eC l D cI cZ ad) y cc nL ret d pc lv (.ref (ad 36) :: st) z Q := sg_get (E := (eC l D cI cZ ad)) (C := RX1) (T := TX1) (N := 7) (ci := 1) 36 3 hdg hn inX_X1 rfl rfl (by decide) hw rfl rfl k
theorem gfC_36_4 (hdg : decode cc pc = .ok (.getfield ix, 3)) (hn : pc + 3 = pn) (hw : Cond.fieldLink y.cls ix "StuckTowns$Guesses" "fits" "[Z" ∈ sg_tbl) (k : sg_G (eC l D cI cZ ad) y cc nL ret d pn lv (.ref (ad 37) :: st) z Q) : sg_G (eC l D cI cZ ad) y cc nL ret d pc lv (.ref (ad 36) :: st) z Q := sg_get (E := (eC l D cI cZ ad)) (C := RX1) (T := TX1) (N := 7) (ci := 1) 36 4 hdg hn inX_X1 rfl rfl (by decide) hw rfl rfl k
theorem gfC_36_5 (hdg : decode cc pc = .ok (.getfield ix, 3)) (hn : pc + 3 = pn) (hw : Cond.fieldLink y.cls ix "StuckTowns$Guesses" "alike" "[I" ∈ sg_tbl) (k : sg_G (eC l D cI cZ ad) y cc nL ret d pn lv (.ref (ad 38) :: st) z Q) : sg_G (eC l D cI cZ ad) y cc nL ret d pc lv (.ref (ad 36) :: st) z Q := sg_get (E := (eC l D cI cZ ad)) (C := RX1) (T := TX1) (N := 7) (ci := 1) 36 5 hdg hn inX_X1 rfl rfl (by decide) hw rfl rfl k
theorem gfC_36_6 (hdg : decode cc pc = .ok (.getfield ix, 3)) (hn : pc + 3 = pn) (hw : Cond.fieldLink y.cls ix "StuckTowns$Guesses" "span" "LStuckTowns$Span;" ∈ sg_tbl) (k : sg_G (eC l D cI cZ ad) y cc nL ret d pn lv (.ref (ad 39) :: st) z Q) : sg_G (eC l D cI cZ ad) y cc nL ret d pc lv (.ref (ad 36) :: st) z Q := sg_get (E := (eC l D cI cZ ad)) (C := RX1) (T := TX1) (N := 7) (ci := 1) 36 6 hdg hn inX_X1 rfl rfl (by decide) hw rfl rfl k
theorem gfC_39_0 (hdg : decode cc pc = .ok (.getfield ix, 3)) (hn : pc + 3 = pn) (hw : Cond.fieldLink y.cls ix "StuckTowns$Span" "count" "I" ∈ sg_tbl) (k : sg_G (eC l D cI cZ ad) y cc nL ret d pn lv (.int (z.1 21) :: st) z Q) : sg_G (eC l D cI cZ ad) y cc nL ret d pc lv (.ref (ad 39) :: st) z Q := sg_get (E := (eC l D cI cZ ad)) (C := RX7) (T := TX7) (N := 3) (ci := 7) 39 0 hdg hn inX_X7 rfl rfl (by decide) hw rfl rfl k
theorem pfC_39_0 (hdg : decode cc pc = .ok (.putfield ix, 3)) (hn : pc + 3 = pn) (hw : Cond.fieldLink y.cls ix "StuckTowns$Span" "count" "I" ∈ sg_tbl) (k : sg_G (eC l D cI cZ ad) y cc nL ret d pn lv st (sg_s z 21 x0) Q) : sg_G (eC l D cI cZ ad) y cc nL ret d pc lv (.int x0 :: .ref (ad 39) :: st) z Q := sg_put (E := (eC l D cI cZ ad)) (C := RX7) (T := TX7) (N := 3) (ci := 7) (ty := .int) 39 0 hdg hn inX_X7 tyX7 tyX7_ok nmX7 rfl rfl (by decide) hw rfl rfl (by decide +kernel) rfl rfl (Nat.le_of_ble_eq_true rfl) rfl k
theorem gfC_39_1 (hdg : decode cc pc = .ok (.getfield ix, 3)) (hn : pc + 3 = pn) (hw : Cond.fieldLink y.cls ix "StuckTowns$Span" "least" "I" ∈ sg_tbl) (k : sg_G (eC l D cI cZ ad) y cc nL ret d pn lv (.int (z.1 22) :: st) z Q) : sg_G (eC l D cI cZ ad) y cc nL ret d pc lv (.ref (ad 39) :: st) z Q := sg_get (E := (eC l D cI cZ ad)) (C := RX7) (T := TX7) (N := 3) (ci := 7) 39 1 hdg hn inX_X7 rfl rfl (by decide) hw rfl rfl k
theorem pfC_39_1 (hdg : decode cc pc = .ok (.putfield ix, 3)) (hn : pc + 3 = pn) (hw : Cond.fieldLink y.cls ix "StuckTowns$Span" "least" "I" ∈ sg_tbl) (k : sg_G (eC l D cI cZ ad) y cc nL ret d pn lv st (sg_s z 22 x0) Q) : sg_G (eC l D cI cZ ad) y cc nL ret d pc lv (.int x0 :: .ref (ad 39) :: st) z Q := sg_put (E := (eC l D cI cZ ad)) (C := RX7) (T := TX7) (N := 3) (ci := 7) (ty := .int) 39 1 hdg hn inX_X7 tyX7 tyX7_ok nmX7 rfl rfl (by decide) hw rfl rfl (by decide +kernel) rfl rfl (Nat.le_of_ble_eq_true rfl) rfl k
theorem gfC_39_2 (hdg : decode cc pc = .ok (.getfield ix, 3)) (hn : pc + 3 = pn) (hw : Cond.fieldLink y.cls ix "StuckTowns$Span" "greatest" "I" ∈ sg_tbl) (k : sg_G (eC l D cI cZ ad) y cc nL ret d pn lv (.int (z.1 23) :: st) z Q) : sg_G (eC l D cI cZ ad) y cc nL ret d pc lv (.ref (ad 39) :: st) z Q := sg_get (E := (eC l D cI cZ ad)) (C := RX7) (T := TX7) (N := 3) (ci := 7) 39 2 hdg hn inX_X7 rfl rfl (by decide) hw rfl rfl k
theorem pfC_39_2 (hdg : decode cc pc = .ok (.putfield ix, 3)) (hn : pc + 3 = pn) (hw : Cond.fieldLink y.cls ix "StuckTowns$Span" "greatest" "I" ∈ sg_tbl) (k : sg_G (eC l D cI cZ ad) y cc nL ret d pn lv st (sg_s z 23 x0) Q) : sg_G (eC l D cI cZ ad) y cc nL ret d pc lv (.int x0 :: .ref (ad 39) :: st) z Q := sg_put (E := (eC l D cI cZ ad)) (C := RX7) (T := TX7) (N := 3) (ci := 7) (ty := .int) 39 2 hdg hn inX_X7 tyX7 tyX7_ok nmX7 rfl rfl (by decide) hw rfl rfl (by decide +kernel) rfl rfl (Nat.le_of_ble_eq_true rfl) rfl k
theorem gfC_40_0 (hdg : decode cc pc = .ok (.getfield ix, 3)) (hn : pc + 3 = pn) (hw : Cond.fieldLink y.cls ix "StuckTowns$Memory" "undoable" "I" ∈ sg_tbl) (k : sg_G (eC l D cI cZ ad) y cc nL ret d pn lv (.int (z.1 24) :: st) z Q) : sg_G (eC l D cI cZ ad) y cc nL ret d pc lv (.ref (ad 40) :: st) z Q := sg_get (E := (eC l D cI cZ ad)) (C := RX3) (T := TX3) (N := 5) (ci := 3) 40 0 hdg hn inX_X3 rfl rfl (by decide) hw rfl rfl k
theorem pfC_40_0 (hdg : decode cc pc = .ok (.putfield ix, 3)) (hn : pc + 3 = pn) (hw : Cond.fieldLink y.cls ix "StuckTowns$Memory" "undoable" "I" ∈ sg_tbl) (k : sg_G (eC l D cI cZ ad) y cc nL ret d pn lv st (sg_s z 24 x0) Q) : sg_G (eC l D cI cZ ad) y cc nL ret d pc lv (.int x0 :: .ref (ad 40) :: st) z Q := sg_put (E := (eC l D cI cZ ad)) (C := RX3) (T := TX3) (N := 5) (ci := 3) (ty := .int) 40 0 hdg hn inX_X3 tyX3 tyX3_ok nmX3 rfl rfl (by decide) hw rfl rfl (by decide +kernel) rfl rfl (Nat.le_of_ble_eq_true rfl) rfl k
theorem gfC_40_1 (hdg : decode cc pc = .ok (.getfield ix, 3)) (hn : pc + 3 = pn) (hw : Cond.fieldLink y.cls ix "StuckTowns$Memory" "next" "I" ∈ sg_tbl) (k : sg_G (eC l D cI cZ ad) y cc nL ret d pn lv (.int (z.1 25) :: st) z Q) : sg_G (eC l D cI cZ ad) y cc nL ret d pc lv (.ref (ad 40) :: st) z Q := sg_get (E := (eC l D cI cZ ad)) (C := RX3) (T := TX3) (N := 5) (ci := 3) 40 1 hdg hn inX_X3 rfl rfl (by decide) hw rfl rfl k
theorem pfC_40_1 (hdg : decode cc pc = .ok (.putfield ix, 3)) (hn : pc + 3 = pn) (hw : Cond.fieldLink y.cls ix "StuckTowns$Memory" "next" "I" ∈ sg_tbl) (k : sg_G (eC l D cI cZ ad) y cc nL ret d pn lv st (sg_s z 25 x0) Q) : sg_G (eC l D cI cZ ad) y cc nL ret d pc lv (.int x0 :: .ref (ad 40) :: st) z Q := sg_put (E := (eC l D cI cZ ad)) (C := RX3) (T := TX3) (N := 5) (ci := 3) (ty := .int) 40 1 hdg hn inX_X3 tyX3 tyX3_ok nmX3 rfl rfl (by decide) hw rfl rfl (by decide +kernel) rfl rfl (Nat.le_of_ble_eq_true rfl) rfl k
theorem gfC_40_2 (hdg : decode cc pc = .ok (.getfield ix, 3)) (hn : pc + 3 = pn) (hw : Cond.fieldLink y.cls ix "StuckTowns$Memory" "row" "[I" ∈ sg_tbl) (k : sg_G (eC l D cI cZ ad) y cc nL ret d pn lv (.ref (ad 41) :: st) z Q) : sg_G (eC l D cI cZ ad) y cc nL ret d pc lv (.ref (ad 40) :: st) z Q := sg_get (E := (eC l D cI cZ ad)) (C := RX3) (T := TX3) (N := 5) (ci := 3) 40 2 hdg hn inX_X3 rfl rfl (by decide) hw rfl rfl k
theorem gfC_40_3 (hdg : decode cc pc = .ok (.getfield ix, 3)) (hn : pc + 3 = pn) (hw : Cond.fieldLink y.cls ix "StuckTowns$Memory" "kept" "[Z" ∈ sg_tbl) (k : sg_G (eC l D cI cZ ad) y cc nL ret d pn lv (.ref (ad 42) :: st) z Q) : sg_G (eC l D cI cZ ad) y cc nL ret d pc lv (.ref (ad 40) :: st) z Q := sg_get (E := (eC l D cI cZ ad)) (C := RX3) (T := TX3) (N := 5) (ci := 3) 40 3 hdg hn inX_X3 rfl rfl (by decide) hw rfl rfl k
theorem gfC_40_4 (hdg : decode cc pc = .ok (.getfield ix, 3)) (hn : pc + 3 = pn) (hw : Cond.fieldLink y.cls ix "StuckTowns$Memory" "seeds" "[I" ∈ sg_tbl) (k : sg_G (eC l D cI cZ ad) y cc nL ret d pn lv (.ref (ad 43) :: st) z Q) : sg_G (eC l D cI cZ ad) y cc nL ret d pc lv (.ref (ad 40) :: st) z Q := sg_get (E := (eC l D cI cZ ad)) (C := RX3) (T := TX3) (N := 5) (ci := 3) 40 4 hdg hn inX_X3 rfl rfl (by decide) hw rfl rfl k
theorem gfM_0_0 (hdg : decode cc pc = .ok (.getfield ix, 3)) (hn : pc + 3 = pn) (hw : Cond.fieldLink y.cls ix "StuckTownsModel" "cells" "I" ∈ sg_tbl) (k : sg_G (eM l D cI cZ ad) y cc nL ret d pn lv (.int (z.1 0) :: st) z Q) : sg_G (eM l D cI cZ ad) y cc nL ret d pc lv (.ref (ad 0) :: st) z Q := sg_get (E := (eM l D cI cZ ad)) (C := RX12) (T := TX12) (N := 36) (ci := 12) 0 0 hdg hn inX_X12 rfl rfl (by decide) hw rfl rfl k
theorem pfM_0_0 (hdg : decode cc pc = .ok (.putfield ix, 3)) (hn : pc + 3 = pn) (hw : Cond.fieldLink y.cls ix "StuckTownsModel" "cells" "I" ∈ sg_tbl) (k : sg_G (eM l D cI cZ ad) y cc nL ret d pn lv st (sg_s z 0 x0) Q) : sg_G (eM l D cI cZ ad) y cc nL ret d pc lv (.int x0 :: .ref (ad 0) :: st) z Q := sg_put (E := (eM l D cI cZ ad)) (C := RX12) (T := TX12) (N := 36) (ci := 12) (ty := .int) 0 0 hdg hn inX_X12 tyX12 tyX12_ok nmX12 rfl rfl (by decide) hw rfl rfl (by decide +kernel) rfl rfl (Nat.le_of_ble_eq_true rfl) rfl k
theorem gfM_0_1 (hdg : decode cc pc = .ok (.getfield ix, 3)) (hn : pc + 3 = pn) (hw : Cond.fieldLink y.cls ix "StuckTownsModel" "soft" "[I" ∈ sg_tbl) (k : sg_G (eM l D cI cZ ad) y cc nL ret d pn lv (.ref (ad 1) :: st) z Q) : sg_G (eM l D cI cZ ad) y cc nL ret d pc lv (.ref (ad 0) :: st) z Q := sg_get (E := (eM l D cI cZ ad)) (C := RX12) (T := TX12) (N := 36) (ci := 12) 0 1 hdg hn inX_X12 rfl rfl (by decide) hw rfl rfl k
theorem gfM_0_2 (hdg : decode cc pc = .ok (.getfield ix, 3)) (hn : pc + 3 = pn) (hw : Cond.fieldLink y.cls ix "StuckTownsModel" "weathers" "I" ∈ sg_tbl) (k : sg_G (eM l D cI cZ ad) y cc nL ret d pn lv (.int (z.1 1) :: st) z Q) : sg_G (eM l D cI cZ ad) y cc nL ret d pc lv (.ref (ad 0) :: st) z Q := sg_get (E := (eM l D cI cZ ad)) (C := RX12) (T := TX12) (N := 36) (ci := 12) 0 2 hdg hn inX_X12 rfl rfl (by decide) hw rfl rfl k
theorem pfM_0_2 (hdg : decode cc pc = .ok (.putfield ix, 3)) (hn : pc + 3 = pn) (hw : Cond.fieldLink y.cls ix "StuckTownsModel" "weathers" "I" ∈ sg_tbl) (k : sg_G (eM l D cI cZ ad) y cc nL ret d pn lv st (sg_s z 1 x0) Q) : sg_G (eM l D cI cZ ad) y cc nL ret d pc lv (.int x0 :: .ref (ad 0) :: st) z Q := sg_put (E := (eM l D cI cZ ad)) (C := RX12) (T := TX12) (N := 36) (ci := 12) (ty := .int) 0 2 hdg hn inX_X12 tyX12 tyX12_ok nmX12 rfl rfl (by decide) hw rfl rfl (by decide +kernel) rfl rfl (Nat.le_of_ble_eq_true rfl) rfl k
theorem gfM_0_3 (hdg : decode cc pc = .ok (.getfield ix, 3)) (hn : pc + 3 = pn) (hw : Cond.fieldLink y.cls ix "StuckTownsModel" "weather" "[I" ∈ sg_tbl) (k : sg_G (eM l D cI cZ ad) y cc nL ret d pn lv (.ref (ad 2) :: st) z Q) : sg_G (eM l D cI cZ ad) y cc nL ret d pc lv (.ref (ad 0) :: st) z Q := sg_get (E := (eM l D cI cZ ad)) (C := RX12) (T := TX12) (N := 36) (ci := 12) 0 3 hdg hn inX_X12 rfl rfl (by decide) hw rfl rfl k
theorem gfM_0_4 (hdg : decode cc pc = .ok (.getfield ix, 3)) (hn : pc + 3 = pn) (hw : Cond.fieldLink y.cls ix "StuckTownsModel" "carts" "I" ∈ sg_tbl) (k : sg_G (eM l D cI cZ ad) y cc nL ret d pn lv (.int (z.1 2) :: st) z Q) : sg_G (eM l D cI cZ ad) y cc nL ret d pc lv (.ref (ad 0) :: st) z Q := sg_get (E := (eM l D cI cZ ad)) (C := RX12) (T := TX12) (N := 36) (ci := 12) 0 4 hdg hn inX_X12 rfl rfl (by decide) hw rfl rfl k
theorem pfM_0_4 (hdg : decode cc pc = .ok (.putfield ix, 3)) (hn : pc + 3 = pn) (hw : Cond.fieldLink y.cls ix "StuckTownsModel" "carts" "I" ∈ sg_tbl) (k : sg_G (eM l D cI cZ ad) y cc nL ret d pn lv st (sg_s z 2 x0) Q) : sg_G (eM l D cI cZ ad) y cc nL ret d pc lv (.int x0 :: .ref (ad 0) :: st) z Q := sg_put (E := (eM l D cI cZ ad)) (C := RX12) (T := TX12) (N := 36) (ci := 12) (ty := .int) 0 4 hdg hn inX_X12 tyX12 tyX12_ok nmX12 rfl rfl (by decide) hw rfl rfl (by decide +kernel) rfl rfl (Nat.le_of_ble_eq_true rfl) rfl k
theorem gfM_0_5 (hdg : decode cc pc = .ok (.getfield ix, 3)) (hn : pc + 3 = pn) (hw : Cond.fieldLink y.cls ix "StuckTownsModel" "wheels" "[I" ∈ sg_tbl) (k : sg_G (eM l D cI cZ ad) y cc nL ret d pn lv (.ref (ad 3) :: st) z Q) : sg_G (eM l D cI cZ ad) y cc nL ret d pc lv (.ref (ad 0) :: st) z Q := sg_get (E := (eM l D cI cZ ad)) (C := RX12) (T := TX12) (N := 36) (ci := 12) 0 5 hdg hn inX_X12 rfl rfl (by decide) hw rfl rfl k
theorem gfM_0_6 (hdg : decode cc pc = .ok (.getfield ix, 3)) (hn : pc + 3 = pn) (hw : Cond.fieldLink y.cls ix "StuckTownsModel" "loadTold" "[I" ∈ sg_tbl) (k : sg_G (eM l D cI cZ ad) y cc nL ret d pn lv (.ref (ad 4) :: st) z Q) : sg_G (eM l D cI cZ ad) y cc nL ret d pc lv (.ref (ad 0) :: st) z Q := sg_get (E := (eM l D cI cZ ad)) (C := RX12) (T := TX12) (N := 36) (ci := 12) 0 6 hdg hn inX_X12 rfl rfl (by decide) hw rfl rfl k
theorem gfM_0_7 (hdg : decode cc pc = .ok (.getfield ix, 3)) (hn : pc + 3 = pn) (hw : Cond.fieldLink y.cls ix "StuckTownsModel" "says" "[I" ∈ sg_tbl) (k : sg_G (eM l D cI cZ ad) y cc nL ret d pn lv (.ref (ad 5) :: st) z Q) : sg_G (eM l D cI cZ ad) y cc nL ret d pc lv (.ref (ad 0) :: st) z Q := sg_get (E := (eM l D cI cZ ad)) (C := RX12) (T := TX12) (N := 36) (ci := 12) 0 7 hdg hn inX_X12 rfl rfl (by decide) hw rfl rfl k
theorem gfM_0_8 (hdg : decode cc pc = .ok (.getfield ix, 3)) (hn : pc + 3 = pn) (hw : Cond.fieldLink y.cls ix "StuckTownsModel" "now" "[I" ∈ sg_tbl) (k : sg_G (eM l D cI cZ ad) y cc nL ret d pn lv (.ref (ad 6) :: st) z Q) : sg_G (eM l D cI cZ ad) y cc nL ret d pc lv (.ref (ad 0) :: st) z Q := sg_get (E := (eM l D cI cZ ad)) (C := RX12) (T := TX12) (N := 36) (ci := 12) 0 8 hdg hn inX_X12 rfl rfl (by decide) hw rfl rfl k
theorem gfM_0_9 (hdg : decode cc pc = .ok (.getfield ix, 3)) (hn : pc + 3 = pn) (hw : Cond.fieldLink y.cls ix "StuckTownsModel" "seed" "I" ∈ sg_tbl) (k : sg_G (eM l D cI cZ ad) y cc nL ret d pn lv (.int (z.1 3) :: st) z Q) : sg_G (eM l D cI cZ ad) y cc nL ret d pc lv (.ref (ad 0) :: st) z Q := sg_get (E := (eM l D cI cZ ad)) (C := RX12) (T := TX12) (N := 36) (ci := 12) 0 9 hdg hn inX_X12 rfl rfl (by decide) hw rfl rfl k
theorem pfM_0_9 (hdg : decode cc pc = .ok (.putfield ix, 3)) (hn : pc + 3 = pn) (hw : Cond.fieldLink y.cls ix "StuckTownsModel" "seed" "I" ∈ sg_tbl) (k : sg_G (eM l D cI cZ ad) y cc nL ret d pn lv st (sg_s z 3 x0) Q) : sg_G (eM l D cI cZ ad) y cc nL ret d pc lv (.int x0 :: .ref (ad 0) :: st) z Q := sg_put (E := (eM l D cI cZ ad)) (C := RX12) (T := TX12) (N := 36) (ci := 12) (ty := .int) 0 9 hdg hn inX_X12 tyX12 tyX12_ok nmX12 rfl rfl (by decide) hw rfl rfl (by decide +kernel) rfl rfl (Nat.le_of_ble_eq_true rfl) rfl k
theorem gfM_0_10 (hdg : decode cc pc = .ok (.getfield ix, 3)) (hn : pc + 3 = pn) (hw : Cond.fieldLink y.cls ix "StuckTownsModel" "text" "[I" ∈ sg_tbl) (k : sg_G (eM l D cI cZ ad) y cc nL ret d pn lv (.ref (ad 7) :: st) z Q) : sg_G (eM l D cI cZ ad) y cc nL ret d pc lv (.ref (ad 0) :: st) z Q := sg_get (E := (eM l D cI cZ ad)) (C := RX12) (T := TX12) (N := 36) (ci := 12) 0 10 hdg hn inX_X12 rfl rfl (by decide) hw rfl rfl k
theorem gfM_0_11 (hdg : decode cc pc = .ok (.getfield ix, 3)) (hn : pc + 3 = pn) (hw : Cond.fieldLink y.cls ix "StuckTownsModel" "texted" "I" ∈ sg_tbl) (k : sg_G (eM l D cI cZ ad) y cc nL ret d pn lv (.int (z.1 4) :: st) z Q) : sg_G (eM l D cI cZ ad) y cc nL ret d pc lv (.ref (ad 0) :: st) z Q := sg_get (E := (eM l D cI cZ ad)) (C := RX12) (T := TX12) (N := 36) (ci := 12) 0 11 hdg hn inX_X12 rfl rfl (by decide) hw rfl rfl k
theorem pfM_0_11 (hdg : decode cc pc = .ok (.putfield ix, 3)) (hn : pc + 3 = pn) (hw : Cond.fieldLink y.cls ix "StuckTownsModel" "texted" "I" ∈ sg_tbl) (k : sg_G (eM l D cI cZ ad) y cc nL ret d pn lv st (sg_s z 4 x0) Q) : sg_G (eM l D cI cZ ad) y cc nL ret d pc lv (.int x0 :: .ref (ad 0) :: st) z Q := sg_put (E := (eM l D cI cZ ad)) (C := RX12) (T := TX12) (N := 36) (ci := 12) (ty := .int) 0 11 hdg hn inX_X12 tyX12 tyX12_ok nmX12 rfl rfl (by decide) hw rfl rfl (by decide +kernel) rfl rfl (Nat.le_of_ble_eq_true rfl) rfl k
theorem gfM_0_12 (hdg : decode cc pc = .ok (.getfield ix, 3)) (hn : pc + 3 = pn) (hw : Cond.fieldLink y.cls ix "StuckTownsModel" "faultPlace" "I" ∈ sg_tbl) (k : sg_G (eM l D cI cZ ad) y cc nL ret d pn lv (.int (z.1 5) :: st) z Q) : sg_G (eM l D cI cZ ad) y cc nL ret d pc lv (.ref (ad 0) :: st) z Q := sg_get (E := (eM l D cI cZ ad)) (C := RX12) (T := TX12) (N := 36) (ci := 12) 0 12 hdg hn inX_X12 rfl rfl (by decide) hw rfl rfl k
theorem pfM_0_12 (hdg : decode cc pc = .ok (.putfield ix, 3)) (hn : pc + 3 = pn) (hw : Cond.fieldLink y.cls ix "StuckTownsModel" "faultPlace" "I" ∈ sg_tbl) (k : sg_G (eM l D cI cZ ad) y cc nL ret d pn lv st (sg_s z 5 x0) Q) : sg_G (eM l D cI cZ ad) y cc nL ret d pc lv (.int x0 :: .ref (ad 0) :: st) z Q := sg_put (E := (eM l D cI cZ ad)) (C := RX12) (T := TX12) (N := 36) (ci := 12) (ty := .int) 0 12 hdg hn inX_X12 tyX12 tyX12_ok nmX12 rfl rfl (by decide) hw rfl rfl (by decide +kernel) rfl rfl (Nat.le_of_ble_eq_true rfl) rfl k
theorem gfM_0_13 (hdg : decode cc pc = .ok (.getfield ix, 3)) (hn : pc + 3 = pn) (hw : Cond.fieldLink y.cls ix "StuckTownsModel" "at0" "I" ∈ sg_tbl) (k : sg_G (eM l D cI cZ ad) y cc nL ret d pn lv (.int (z.1 6) :: st) z Q) : sg_G (eM l D cI cZ ad) y cc nL ret d pc lv (.ref (ad 0) :: st) z Q := sg_get (E := (eM l D cI cZ ad)) (C := RX12) (T := TX12) (N := 36) (ci := 12) 0 13 hdg hn inX_X12 rfl rfl (by decide) hw rfl rfl k
theorem pfM_0_13 (hdg : decode cc pc = .ok (.putfield ix, 3)) (hn : pc + 3 = pn) (hw : Cond.fieldLink y.cls ix "StuckTownsModel" "at0" "I" ∈ sg_tbl) (k : sg_G (eM l D cI cZ ad) y cc nL ret d pn lv st (sg_s z 6 x0) Q) : sg_G (eM l D cI cZ ad) y cc nL ret d pc lv (.int x0 :: .ref (ad 0) :: st) z Q := sg_put (E := (eM l D cI cZ ad)) (C := RX12) (T := TX12) (N := 36) (ci := 12) (ty := .int) 0 13 hdg hn inX_X12 tyX12 tyX12_ok nmX12 rfl rfl (by decide) hw rfl rfl (by decide +kernel) rfl rfl (Nat.le_of_ble_eq_true rfl) rfl k
theorem gfM_0_14 (hdg : decode cc pc = .ok (.getfield ix, 3)) (hn : pc + 3 = pn) (hw : Cond.fieldLink y.cls ix "StuckTownsModel" "number" "I" ∈ sg_tbl) (k : sg_G (eM l D cI cZ ad) y cc nL ret d pn lv (.int (z.1 7) :: st) z Q) : sg_G (eM l D cI cZ ad) y cc nL ret d pc lv (.ref (ad 0) :: st) z Q := sg_get (E := (eM l D cI cZ ad)) (C := RX12) (T := TX12) (N := 36) (ci := 12) 0 14 hdg hn inX_X12 rfl rfl (by decide) hw rfl rfl k
theorem pfM_0_14 (hdg : decode cc pc = .ok (.putfield ix, 3)) (hn : pc + 3 = pn) (hw : Cond.fieldLink y.cls ix "StuckTownsModel" "number" "I" ∈ sg_tbl) (k : sg_G (eM l D cI cZ ad) y cc nL ret d pn lv st (sg_s z 7 x0) Q) : sg_G (eM l D cI cZ ad) y cc nL ret d pc lv (.int x0 :: .ref (ad 0) :: st) z Q := sg_put (E := (eM l D cI cZ ad)) (C := RX12) (T := TX12) (N := 36) (ci := 12) (ty := .int) 0 14 hdg hn inX_X12 tyX12 tyX12_ok nmX12 rfl rfl (by decide) hw rfl rfl (by decide +kernel) rfl rfl (Nat.le_of_ble_eq_true rfl) rfl k
theorem gfM_0_15 (hdg : decode cc pc = .ok (.getfield ix, 3)) (hn : pc + 3 = pn) (hw : Cond.fieldLink y.cls ix "StuckTownsModel" "numberAt" "I" ∈ sg_tbl) (k : sg_G (eM l D cI cZ ad) y cc nL ret d pn lv (.int (z.1 8) :: st) z Q) : sg_G (eM l D cI cZ ad) y cc nL ret d pc lv (.ref (ad 0) :: st) z Q := sg_get (E := (eM l D cI cZ ad)) (C := RX12) (T := TX12) (N := 36) (ci := 12) 0 15 hdg hn inX_X12 rfl rfl (by decide) hw rfl rfl k
theorem pfM_0_15 (hdg : decode cc pc = .ok (.putfield ix, 3)) (hn : pc + 3 = pn) (hw : Cond.fieldLink y.cls ix "StuckTownsModel" "numberAt" "I" ∈ sg_tbl) (k : sg_G (eM l D cI cZ ad) y cc nL ret d pn lv st (sg_s z 8 x0) Q) : sg_G (eM l D cI cZ ad) y cc nL ret d pc lv (.int x0 :: .ref (ad 0) :: st) z Q := sg_put (E := (eM l D cI cZ ad)) (C := RX12) (T := TX12) (N := 36) (ci := 12) (ty := .int) 0 15 hdg hn inX_X12 tyX12 tyX12_ok nmX12 rfl rfl (by decide) hw rfl rfl (by decide +kernel) rfl rfl (Nat.le_of_ble_eq_true rfl) rfl k
theorem gfM_0_16 (hdg : decode cc pc = .ok (.getfield ix, 3)) (hn : pc + 3 = pn) (hw : Cond.fieldLink y.cls ix "StuckTownsModel" "readCells" "I" ∈ sg_tbl) (k : sg_G (eM l D cI cZ ad) y cc nL ret d pn lv (.int (z.1 9) :: st) z Q) : sg_G (eM l D cI cZ ad) y cc nL ret d pc lv (.ref (ad 0) :: st) z Q := sg_get (E := (eM l D cI cZ ad)) (C := RX12) (T := TX12) (N := 36) (ci := 12) 0 16 hdg hn inX_X12 rfl rfl (by decide) hw rfl rfl k
theorem pfM_0_16 (hdg : decode cc pc = .ok (.putfield ix, 3)) (hn : pc + 3 = pn) (hw : Cond.fieldLink y.cls ix "StuckTownsModel" "readCells" "I" ∈ sg_tbl) (k : sg_G (eM l D cI cZ ad) y cc nL ret d pn lv st (sg_s z 9 x0) Q) : sg_G (eM l D cI cZ ad) y cc nL ret d pc lv (.int x0 :: .ref (ad 0) :: st) z Q := sg_put (E := (eM l D cI cZ ad)) (C := RX12) (T := TX12) (N := 36) (ci := 12) (ty := .int) 0 16 hdg hn inX_X12 tyX12 tyX12_ok nmX12 rfl rfl (by decide) hw rfl rfl (by decide +kernel) rfl rfl (Nat.le_of_ble_eq_true rfl) rfl k
theorem gfM_0_17 (hdg : decode cc pc = .ok (.getfield ix, 3)) (hn : pc + 3 = pn) (hw : Cond.fieldLink y.cls ix "StuckTownsModel" "readSoft" "[I" ∈ sg_tbl) (k : sg_G (eM l D cI cZ ad) y cc nL ret d pn lv (.ref (ad 8) :: st) z Q) : sg_G (eM l D cI cZ ad) y cc nL ret d pc lv (.ref (ad 0) :: st) z Q := sg_get (E := (eM l D cI cZ ad)) (C := RX12) (T := TX12) (N := 36) (ci := 12) 0 17 hdg hn inX_X12 rfl rfl (by decide) hw rfl rfl k
theorem gfM_0_18 (hdg : decode cc pc = .ok (.getfield ix, 3)) (hn : pc + 3 = pn) (hw : Cond.fieldLink y.cls ix "StuckTownsModel" "readWeathers" "I" ∈ sg_tbl) (k : sg_G (eM l D cI cZ ad) y cc nL ret d pn lv (.int (z.1 10) :: st) z Q) : sg_G (eM l D cI cZ ad) y cc nL ret d pc lv (.ref (ad 0) :: st) z Q := sg_get (E := (eM l D cI cZ ad)) (C := RX12) (T := TX12) (N := 36) (ci := 12) 0 18 hdg hn inX_X12 rfl rfl (by decide) hw rfl rfl k
theorem pfM_0_18 (hdg : decode cc pc = .ok (.putfield ix, 3)) (hn : pc + 3 = pn) (hw : Cond.fieldLink y.cls ix "StuckTownsModel" "readWeathers" "I" ∈ sg_tbl) (k : sg_G (eM l D cI cZ ad) y cc nL ret d pn lv st (sg_s z 10 x0) Q) : sg_G (eM l D cI cZ ad) y cc nL ret d pc lv (.int x0 :: .ref (ad 0) :: st) z Q := sg_put (E := (eM l D cI cZ ad)) (C := RX12) (T := TX12) (N := 36) (ci := 12) (ty := .int) 0 18 hdg hn inX_X12 tyX12 tyX12_ok nmX12 rfl rfl (by decide) hw rfl rfl (by decide +kernel) rfl rfl (Nat.le_of_ble_eq_true rfl) rfl k
theorem gfM_0_19 (hdg : decode cc pc = .ok (.getfield ix, 3)) (hn : pc + 3 = pn) (hw : Cond.fieldLink y.cls ix "StuckTownsModel" "readWeather" "[I" ∈ sg_tbl) (k : sg_G (eM l D cI cZ ad) y cc nL ret d pn lv (.ref (ad 9) :: st) z Q) : sg_G (eM l D cI cZ ad) y cc nL ret d pc lv (.ref (ad 0) :: st) z Q := sg_get (E := (eM l D cI cZ ad)) (C := RX12) (T := TX12) (N := 36) (ci := 12) 0 19 hdg hn inX_X12 rfl rfl (by decide) hw rfl rfl k
theorem gfM_0_20 (hdg : decode cc pc = .ok (.getfield ix, 3)) (hn : pc + 3 = pn) (hw : Cond.fieldLink y.cls ix "StuckTownsModel" "readCarts" "I" ∈ sg_tbl) (k : sg_G (eM l D cI cZ ad) y cc nL ret d pn lv (.int (z.1 11) :: st) z Q) : sg_G (eM l D cI cZ ad) y cc nL ret d pc lv (.ref (ad 0) :: st) z Q := sg_get (E := (eM l D cI cZ ad)) (C := RX12) (T := TX12) (N := 36) (ci := 12) 0 20 hdg hn inX_X12 rfl rfl (by decide) hw rfl rfl k
theorem pfM_0_20 (hdg : decode cc pc = .ok (.putfield ix, 3)) (hn : pc + 3 = pn) (hw : Cond.fieldLink y.cls ix "StuckTownsModel" "readCarts" "I" ∈ sg_tbl) (k : sg_G (eM l D cI cZ ad) y cc nL ret d pn lv st (sg_s z 11 x0) Q) : sg_G (eM l D cI cZ ad) y cc nL ret d pc lv (.int x0 :: .ref (ad 0) :: st) z Q := sg_put (E := (eM l D cI cZ ad)) (C := RX12) (T := TX12) (N := 36) (ci := 12) (ty := .int) 0 20 hdg hn inX_X12 tyX12 tyX12_ok nmX12 rfl rfl (by decide) hw rfl rfl (by decide +kernel) rfl rfl (Nat.le_of_ble_eq_true rfl) rfl k
theorem gfM_0_21 (hdg : decode cc pc = .ok (.getfield ix, 3)) (hn : pc + 3 = pn) (hw : Cond.fieldLink y.cls ix "StuckTownsModel" "readWheels" "[I" ∈ sg_tbl) (k : sg_G (eM l D cI cZ ad) y cc nL ret d pn lv (.ref (ad 10) :: st) z Q) : sg_G (eM l D cI cZ ad) y cc nL ret d pc lv (.ref (ad 0) :: st) z Q := sg_get (E := (eM l D cI cZ ad)) (C := RX12) (T := TX12) (N := 36) (ci := 12) 0 21 hdg hn inX_X12 rfl rfl (by decide) hw rfl rfl k
theorem gfM_0_22 (hdg : decode cc pc = .ok (.getfield ix, 3)) (hn : pc + 3 = pn) (hw : Cond.fieldLink y.cls ix "StuckTownsModel" "readLoad" "[I" ∈ sg_tbl) (k : sg_G (eM l D cI cZ ad) y cc nL ret d pn lv (.ref (ad 11) :: st) z Q) : sg_G (eM l D cI cZ ad) y cc nL ret d pc lv (.ref (ad 0) :: st) z Q := sg_get (E := (eM l D cI cZ ad)) (C := RX12) (T := TX12) (N := 36) (ci := 12) 0 22 hdg hn inX_X12 rfl rfl (by decide) hw rfl rfl k
theorem gfM_0_23 (hdg : decode cc pc = .ok (.getfield ix, 3)) (hn : pc + 3 = pn) (hw : Cond.fieldLink y.cls ix "StuckTownsModel" "readSays" "[I" ∈ sg_tbl) (k : sg_G (eM l D cI cZ ad) y cc nL ret d pn lv (.ref (ad 12) :: st) z Q) : sg_G (eM l D cI cZ ad) y cc nL ret d pc lv (.ref (ad 0) :: st) z Q := sg_get (E := (eM l D cI cZ ad)) (C := RX12) (T := TX12) (N := 36) (ci := 12) 0 23 hdg hn inX_X12 rfl rfl (by decide) hw rfl rfl k
theorem gfM_0_24 (hdg : decode cc pc = .ok (.getfield ix, 3)) (hn : pc + 3 = pn) (hw : Cond.fieldLink y.cls ix "StuckTownsModel" "undos" "I" ∈ sg_tbl) (k : sg_G (eM l D cI cZ ad) y cc nL ret d pn lv (.int (z.1 12) :: st) z Q) : sg_G (eM l D cI cZ ad) y cc nL ret d pc lv (.ref (ad 0) :: st) z Q := sg_get (E := (eM l D cI cZ ad)) (C := RX12) (T := TX12) (N := 36) (ci := 12) 0 24 hdg hn inX_X12 rfl rfl (by decide) hw rfl rfl k
theorem pfM_0_24 (hdg : decode cc pc = .ok (.putfield ix, 3)) (hn : pc + 3 = pn) (hw : Cond.fieldLink y.cls ix "StuckTownsModel" "undos" "I" ∈ sg_tbl) (k : sg_G (eM l D cI cZ ad) y cc nL ret d pn lv st (sg_s z 12 x0) Q) : sg_G (eM l D cI cZ ad) y cc nL ret d pc lv (.int x0 :: .ref (ad 0) :: st) z Q := sg_put (E := (eM l D cI cZ ad)) (C := RX12) (T := TX12) (N := 36) (ci := 12) (ty := .int) 0 24 hdg hn inX_X12 tyX12 tyX12_ok nmX12 rfl rfl (by decide) hw rfl rfl (by decide +kernel) rfl rfl (Nat.le_of_ble_eq_true rfl) rfl k
theorem gfM_0_25 (hdg : decode cc pc = .ok (.getfield ix, 3)) (hn : pc + 3 = pn) (hw : Cond.fieldLink y.cls ix "StuckTownsModel" "past" "[I" ∈ sg_tbl) (k : sg_G (eM l D cI cZ ad) y cc nL ret d pn lv (.ref (ad 13) :: st) z Q) : sg_G (eM l D cI cZ ad) y cc nL ret d pc lv (.ref (ad 0) :: st) z Q := sg_get (E := (eM l D cI cZ ad)) (C := RX12) (T := TX12) (N := 36) (ci := 12) 0 25 hdg hn inX_X12 rfl rfl (by decide) hw rfl rfl k
theorem gfM_0_26 (hdg : decode cc pc = .ok (.getfield ix, 3)) (hn : pc + 3 = pn) (hw : Cond.fieldLink y.cls ix "StuckTownsModel" "stopOn" "[I" ∈ sg_tbl) (k : sg_G (eM l D cI cZ ad) y cc nL ret d pn lv (.ref (ad 14) :: st) z Q) : sg_G (eM l D cI cZ ad) y cc nL ret d pc lv (.ref (ad 0) :: st) z Q := sg_get (E := (eM l D cI cZ ad)) (C := RX12) (T := TX12) (N := 36) (ci := 12) 0 26 hdg hn inX_X12 rfl rfl (by decide) hw rfl rfl k
theorem gfM_0_27 (hdg : decode cc pc = .ok (.getfield ix, 3)) (hn : pc + 3 = pn) (hw : Cond.fieldLink y.cls ix "StuckTownsModel" "heard" "I" ∈ sg_tbl) (k : sg_G (eM l D cI cZ ad) y cc nL ret d pn lv (.int (z.1 13) :: st) z Q) : sg_G (eM l D cI cZ ad) y cc nL ret d pc lv (.ref (ad 0) :: st) z Q := sg_get (E := (eM l D cI cZ ad)) (C := RX12) (T := TX12) (N := 36) (ci := 12) 0 27 hdg hn inX_X12 rfl rfl (by decide) hw rfl rfl k
theorem pfM_0_27 (hdg : decode cc pc = .ok (.putfield ix, 3)) (hn : pc + 3 = pn) (hw : Cond.fieldLink y.cls ix "StuckTownsModel" "heard" "I" ∈ sg_tbl) (k : sg_G (eM l D cI cZ ad) y cc nL ret d pn lv st (sg_s z 13 x0) Q) : sg_G (eM l D cI cZ ad) y cc nL ret d pc lv (.int x0 :: .ref (ad 0) :: st) z Q := sg_put (E := (eM l D cI cZ ad)) (C := RX12) (T := TX12) (N := 36) (ci := 12) (ty := .int) 0 27 hdg hn inX_X12 tyX12 tyX12_ok nmX12 rfl rfl (by decide) hw rfl rfl (by decide +kernel) rfl rfl (Nat.le_of_ble_eq_true rfl) rfl k
theorem gfM_0_28 (hdg : decode cc pc = .ok (.getfield ix, 3)) (hn : pc + 3 = pn) (hw : Cond.fieldLink y.cls ix "StuckTownsModel" "heardOf" "[I" ∈ sg_tbl) (k : sg_G (eM l D cI cZ ad) y cc nL ret d pn lv (.ref (ad 15) :: st) z Q) : sg_G (eM l D cI cZ ad) y cc nL ret d pc lv (.ref (ad 0) :: st) z Q := sg_get (E := (eM l D cI cZ ad)) (C := RX12) (T := TX12) (N := 36) (ci := 12) 0 28 hdg hn inX_X12 rfl rfl (by decide) hw rfl rfl k
theorem gfM_0_29 (hdg : decode cc pc = .ok (.getfield ix, 3)) (hn : pc + 3 = pn) (hw : Cond.fieldLink y.cls ix "StuckTownsModel" "heardAt" "[I" ∈ sg_tbl) (k : sg_G (eM l D cI cZ ad) y cc nL ret d pn lv (.ref (ad 16) :: st) z Q) : sg_G (eM l D cI cZ ad) y cc nL ret d pc lv (.ref (ad 0) :: st) z Q := sg_get (E := (eM l D cI cZ ad)) (C := RX12) (T := TX12) (N := 36) (ci := 12) 0 29 hdg hn inX_X12 rfl rfl (by decide) hw rfl rfl k
theorem gfM_0_30 (hdg : decode cc pc = .ok (.getfield ix, 3)) (hn : pc + 3 = pn) (hw : Cond.fieldLink y.cls ix "StuckTownsModel" "counts" "[I" ∈ sg_tbl) (k : sg_G (eM l D cI cZ ad) y cc nL ret d pn lv (.ref (ad 17) :: st) z Q) : sg_G (eM l D cI cZ ad) y cc nL ret d pc lv (.ref (ad 0) :: st) z Q := sg_get (E := (eM l D cI cZ ad)) (C := RX12) (T := TX12) (N := 36) (ci := 12) 0 30 hdg hn inX_X12 rfl rfl (by decide) hw rfl rfl k
theorem gfM_0_31 (hdg : decode cc pc = .ok (.getfield ix, 3)) (hn : pc + 3 = pn) (hw : Cond.fieldLink y.cls ix "StuckTownsModel" "booked" "I" ∈ sg_tbl) (k : sg_G (eM l D cI cZ ad) y cc nL ret d pn lv (.int (z.1 14) :: st) z Q) : sg_G (eM l D cI cZ ad) y cc nL ret d pc lv (.ref (ad 0) :: st) z Q := sg_get (E := (eM l D cI cZ ad)) (C := RX12) (T := TX12) (N := 36) (ci := 12) 0 31 hdg hn inX_X12 rfl rfl (by decide) hw rfl rfl k
theorem pfM_0_31 (hdg : decode cc pc = .ok (.putfield ix, 3)) (hn : pc + 3 = pn) (hw : Cond.fieldLink y.cls ix "StuckTownsModel" "booked" "I" ∈ sg_tbl) (k : sg_G (eM l D cI cZ ad) y cc nL ret d pn lv st (sg_s z 14 x0) Q) : sg_G (eM l D cI cZ ad) y cc nL ret d pc lv (.int x0 :: .ref (ad 0) :: st) z Q := sg_put (E := (eM l D cI cZ ad)) (C := RX12) (T := TX12) (N := 36) (ci := 12) (ty := .int) 0 31 hdg hn inX_X12 tyX12 tyX12_ok nmX12 rfl rfl (by decide) hw rfl rfl (by decide +kernel) rfl rfl (Nat.le_of_ble_eq_true rfl) rfl k
theorem gfM_0_32 (hdg : decode cc pc = .ok (.getfield ix, 3)) (hn : pc + 3 = pn) (hw : Cond.fieldLink y.cls ix "StuckTownsModel" "bookOf" "[I" ∈ sg_tbl) (k : sg_G (eM l D cI cZ ad) y cc nL ret d pn lv (.ref (ad 18) :: st) z Q) : sg_G (eM l D cI cZ ad) y cc nL ret d pc lv (.ref (ad 0) :: st) z Q := sg_get (E := (eM l D cI cZ ad)) (C := RX12) (T := TX12) (N := 36) (ci := 12) 0 32 hdg hn inX_X12 rfl rfl (by decide) hw rfl rfl k
theorem gfM_0_33 (hdg : decode cc pc = .ok (.getfield ix, 3)) (hn : pc + 3 = pn) (hw : Cond.fieldLink y.cls ix "StuckTownsModel" "bookIs" "[I" ∈ sg_tbl) (k : sg_G (eM l D cI cZ ad) y cc nL ret d pn lv (.ref (ad 19) :: st) z Q) : sg_G (eM l D cI cZ ad) y cc nL ret d pc lv (.ref (ad 0) :: st) z Q := sg_get (E := (eM l D cI cZ ad)) (C := RX12) (T := TX12) (N := 36) (ci := 12) 0 33 hdg hn inX_X12 rfl rfl (by decide) hw rfl rfl k
theorem gfM_0_34 (hdg : decode cc pc = .ok (.getfield ix, 3)) (hn : pc + 3 = pn) (hw : Cond.fieldLink y.cls ix "StuckTownsModel" "images" "[I" ∈ sg_tbl) (k : sg_G (eM l D cI cZ ad) y cc nL ret d pn lv (.ref (ad 20) :: st) z Q) : sg_G (eM l D cI cZ ad) y cc nL ret d pc lv (.ref (ad 0) :: st) z Q := sg_get (E := (eM l D cI cZ ad)) (C := RX12) (T := TX12) (N := 36) (ci := 12) 0 34 hdg hn inX_X12 rfl rfl (by decide) hw rfl rfl k
theorem gfM_0_35 (hdg : decode cc pc = .ok (.getfield ix, 3)) (hn : pc + 3 = pn) (hw : Cond.fieldLink y.cls ix "StuckTownsModel" "isKept" "[Z" ∈ sg_tbl) (k : sg_G (eM l D cI cZ ad) y cc nL ret d pn lv (.ref (ad 21) :: st) z Q) : sg_G (eM l D cI cZ ad) y cc nL ret d pc lv (.ref (ad 0) :: st) z Q := sg_get (E := (eM l D cI cZ ad)) (C := RX12) (T := TX12) (N := 36) (ci := 12) 0 35 hdg hn inX_X12 rfl rfl (by decide) hw rfl rfl k
theorem alC_10 (hdg : decode cc pc = .ok (.iaload, 1)) (hn : pc + 1 = pn) (hi : vp_in i 20) (k : sg_G (eC l D cI cZ ad) y cc nL ret d pn lv (.int (z.2 6 i.toNatClampNeg) :: st) z Q) : sg_G (eC l D cI cZ ad) y cc nL ret d pc lv (.int i :: .ref (ad 10) :: st) z Q := sg_iald (E := (eC l D cI cZ ad)) 10 0 hdg hn rfl rfl hi k
theorem alC_11 (hdg : decode cc pc = .ok (.iaload, 1)) (hn : pc + 1 = pn) (hi : vp_in i 12) (k : sg_G (eC l D cI cZ ad) y cc nL ret d pn lv (.int (z.2 7 i.toNatClampNeg) :: st) z Q) : sg_G (eC l D cI cZ ad) y cc nL ret d pc lv (.int i :: .ref (ad 11) :: st) z Q := sg_iald (E := (eC l D cI cZ ad)) 11 0 hdg hn rfl rfl hi k
theorem alC_12 (hdg : decode cc pc = .ok (.iaload, 1)) (hn : pc + 1 = pn) (hi : vp_in i 8) (k : sg_G (eC l D cI cZ ad) y cc nL ret d pn lv (.int (z.2 8 i.toNatClampNeg) :: st) z Q) : sg_G (eC l D cI cZ ad) y cc nL ret d pc lv (.int i :: .ref (ad 12) :: st) z Q := sg_iald (E := (eC l D cI cZ ad)) 12 0 hdg hn rfl rfl hi k
theorem cpC_13_20 {sp dp n : Int32} (hdg : decode cc pc = .ok (.invokestatic ix, 3)) (hn : pc + 3 = pn) (hw : Cond.methodLink y.cls ix arraycopyName ∈ sg_tbl) (hg : ¬ sp < 0 ∧ ¬ dp < 0 ∧ ¬ n < 0 ∧ sp.toNatClampNeg + n.toNatClampNeg ≤ 8 ∧ dp.toNatClampNeg + n.toNatClampNeg ≤ 8) (hd1 : 1 ≤ d) (hst : (st.map fun v => v.category).sum ≤ 8) (k : sg_G (eC l D cI cZ ad) y cc nL ret d pn lv st (sg_cp z 9 15 sp dp n) Q) : sg_G (eC l D cI cZ ad) y cc nL ret d pc lv (.int n :: .int dp :: .ref (ad 20) :: .int sp :: .ref (ad 13) :: st) z Q := sg_copy (E := (eC l D cI cZ ad)) 13 20 0 0 hdg hn hw sg_acw rfl rfl rfl rfl hg.1 hg.2.1 hg.2.2.1 hg.2.2.2.1 hg.2.2.2.2 hd1 hst rfl k
theorem alC_14 (hdg : decode cc pc = .ok (.iaload, 1)) (hn : pc + 1 = pn) (hi : vp_in i 8) (k : sg_G (eC l D cI cZ ad) y cc nL ret d pn lv (.int (z.2 10 i.toNatClampNeg) :: st) z Q) : sg_G (eC l D cI cZ ad) y cc nL ret d pc lv (.int i :: .ref (ad 14) :: st) z Q := sg_iald (E := (eC l D cI cZ ad)) 14 0 hdg hn rfl rfl hi k
theorem cpC_16_41 {sp dp n : Int32} (hdg : decode cc pc = .ok (.invokestatic ix, 3)) (hn : pc + 3 = pn) (hw : Cond.methodLink y.cls ix arraycopyName ∈ sg_tbl) (hg : ¬ sp < 0 ∧ ¬ dp < 0 ∧ ¬ n < 0 ∧ sp.toNatClampNeg + n.toNatClampNeg ≤ 20 ∧ dp.toNatClampNeg + n.toNatClampNeg ≤ 1908) (hd1 : 1 ≤ d) (hst : (st.map fun v => v.category).sum ≤ 8) (k : sg_G (eC l D cI cZ ad) y cc nL ret d pn lv st (sg_cp z 11 26 sp dp n) Q) : sg_G (eC l D cI cZ ad) y cc nL ret d pc lv (.int n :: .int dp :: .ref (ad 41) :: .int sp :: .ref (ad 16) :: st) z Q := sg_copy (E := (eC l D cI cZ ad)) 16 41 0 0 hdg hn hw sg_acw rfl rfl rfl rfl hg.1 hg.2.1 hg.2.2.1 hg.2.2.2.1 hg.2.2.2.2 hd1 hst rfl k
theorem alC_16 (hdg : decode cc pc = .ok (.iaload, 1)) (hn : pc + 1 = pn) (hi : vp_in i 20) (k : sg_G (eC l D cI cZ ad) y cc nL ret d pn lv (.int (z.2 11 i.toNatClampNeg) :: st) z Q) : sg_G (eC l D cI cZ ad) y cc nL ret d pc lv (.int i :: .ref (ad 16) :: st) z Q := sg_iald (E := (eC l D cI cZ ad)) 16 0 hdg hn rfl rfl hi k
theorem anC_16 (hdg : decode cc pc = .ok (.arraylength, 1)) (hn : pc + 1 = pn) (k : sg_G (eC l D cI cZ ad) y cc nL ret d pn lv (.int (20 : Int32) :: st) z Q) : sg_G (eC l D cI cZ ad) y cc nL ret d pc lv (.ref (ad 16) :: st) z Q := sg_alen (E := (eC l D cI cZ ad)) 16 0 hdg hn rfl rfl (by decide +kernel) k
theorem asC_16 (hdg : decode cc pc = .ok (.iastore, 1)) (hn : pc + 1 = pn) (hi : vp_in i 20) (k : sg_G (eC l D cI cZ ad) y cc nL ret d pn lv st (sg_w z 11 i x0) Q) : sg_G (eC l D cI cZ ad) y cc nL ret d pc lv (.int x0 :: .int i :: .ref (ad 16) :: st) z Q := sg_iast (E := (eC l D cI cZ ad)) 16 0 hdg hn rfl rfl hi rfl k
theorem cpC_17_41 {sp dp n : Int32} (hdg : decode cc pc = .ok (.invokestatic ix, 3)) (hn : pc + 3 = pn) (hw : Cond.methodLink y.cls ix arraycopyName ∈ sg_tbl) (hg : ¬ sp < 0 ∧ ¬ dp < 0 ∧ ¬ n < 0 ∧ sp.toNatClampNeg + n.toNatClampNeg ≤ 20 ∧ dp.toNatClampNeg + n.toNatClampNeg ≤ 1908) (hd1 : 1 ≤ d) (hst : (st.map fun v => v.category).sum ≤ 8) (k : sg_G (eC l D cI cZ ad) y cc nL ret d pn lv st (sg_cp z 12 26 sp dp n) Q) : sg_G (eC l D cI cZ ad) y cc nL ret d pc lv (.int n :: .int dp :: .ref (ad 41) :: .int sp :: .ref (ad 17) :: st) z Q := sg_copy (E := (eC l D cI cZ ad)) 17 41 0 0 hdg hn hw sg_acw rfl rfl rfl rfl hg.1 hg.2.1 hg.2.2.1 hg.2.2.2.1 hg.2.2.2.2 hd1 hst rfl k
theorem alC_17 (hdg : decode cc pc = .ok (.iaload, 1)) (hn : pc + 1 = pn) (hi : vp_in i 20) (k : sg_G (eC l D cI cZ ad) y cc nL ret d pn lv (.int (z.2 12 i.toNatClampNeg) :: st) z Q) : sg_G (eC l D cI cZ ad) y cc nL ret d pc lv (.int i :: .ref (ad 17) :: st) z Q := sg_iald (E := (eC l D cI cZ ad)) 17 0 hdg hn rfl rfl hi k
theorem anC_17 (hdg : decode cc pc = .ok (.arraylength, 1)) (hn : pc + 1 = pn) (k : sg_G (eC l D cI cZ ad) y cc nL ret d pn lv (.int (20 : Int32) :: st) z Q) : sg_G (eC l D cI cZ ad) y cc nL ret d pc lv (.ref (ad 17) :: st) z Q := sg_alen (E := (eC l D cI cZ ad)) 17 0 hdg hn rfl rfl (by decide +kernel) k
theorem asC_17 (hdg : decode cc pc = .ok (.iastore, 1)) (hn : pc + 1 = pn) (hi : vp_in i 20) (k : sg_G (eC l D cI cZ ad) y cc nL ret d pn lv st (sg_w z 12 i x0) Q) : sg_G (eC l D cI cZ ad) y cc nL ret d pc lv (.int x0 :: .int i :: .ref (ad 17) :: st) z Q := sg_iast (E := (eC l D cI cZ ad)) 17 0 hdg hn rfl rfl hi rfl k
theorem cpC_18_41 {sp dp n : Int32} (hdg : decode cc pc = .ok (.invokestatic ix, 3)) (hn : pc + 3 = pn) (hw : Cond.methodLink y.cls ix arraycopyName ∈ sg_tbl) (hg : ¬ sp < 0 ∧ ¬ dp < 0 ∧ ¬ n < 0 ∧ sp.toNatClampNeg + n.toNatClampNeg ≤ 20 ∧ dp.toNatClampNeg + n.toNatClampNeg ≤ 1908) (hd1 : 1 ≤ d) (hst : (st.map fun v => v.category).sum ≤ 8) (k : sg_G (eC l D cI cZ ad) y cc nL ret d pn lv st (sg_cp z 13 26 sp dp n) Q) : sg_G (eC l D cI cZ ad) y cc nL ret d pc lv (.int n :: .int dp :: .ref (ad 41) :: .int sp :: .ref (ad 18) :: st) z Q := sg_copy (E := (eC l D cI cZ ad)) 18 41 0 0 hdg hn hw sg_acw rfl rfl rfl rfl hg.1 hg.2.1 hg.2.2.1 hg.2.2.2.1 hg.2.2.2.2 hd1 hst rfl k
theorem alC_18 (hdg : decode cc pc = .ok (.iaload, 1)) (hn : pc + 1 = pn) (hi : vp_in i 20) (k : sg_G (eC l D cI cZ ad) y cc nL ret d pn lv (.int (z.2 13 i.toNatClampNeg) :: st) z Q) : sg_G (eC l D cI cZ ad) y cc nL ret d pc lv (.int i :: .ref (ad 18) :: st) z Q := sg_iald (E := (eC l D cI cZ ad)) 18 0 hdg hn rfl rfl hi k
theorem anC_18 (hdg : decode cc pc = .ok (.arraylength, 1)) (hn : pc + 1 = pn) (k : sg_G (eC l D cI cZ ad) y cc nL ret d pn lv (.int (20 : Int32) :: st) z Q) : sg_G (eC l D cI cZ ad) y cc nL ret d pc lv (.ref (ad 18) :: st) z Q := sg_alen (E := (eC l D cI cZ ad)) 18 0 hdg hn rfl rfl (by decide +kernel) k
theorem asC_18 (hdg : decode cc pc = .ok (.iastore, 1)) (hn : pc + 1 = pn) (hi : vp_in i 20) (k : sg_G (eC l D cI cZ ad) y cc nL ret d pn lv st (sg_w z 13 i x0) Q) : sg_G (eC l D cI cZ ad) y cc nL ret d pc lv (.int x0 :: .int i :: .ref (ad 18) :: st) z Q := sg_iast (E := (eC l D cI cZ ad)) 18 0 hdg hn rfl rfl hi rfl k
theorem cpC_19_41 {sp dp n : Int32} (hdg : decode cc pc = .ok (.invokestatic ix, 3)) (hn : pc + 3 = pn) (hw : Cond.methodLink y.cls ix arraycopyName ∈ sg_tbl) (hg : ¬ sp < 0 ∧ ¬ dp < 0 ∧ ¬ n < 0 ∧ sp.toNatClampNeg + n.toNatClampNeg ≤ 20 ∧ dp.toNatClampNeg + n.toNatClampNeg ≤ 1908) (hd1 : 1 ≤ d) (hst : (st.map fun v => v.category).sum ≤ 8) (k : sg_G (eC l D cI cZ ad) y cc nL ret d pn lv st (sg_cp z 14 26 sp dp n) Q) : sg_G (eC l D cI cZ ad) y cc nL ret d pc lv (.int n :: .int dp :: .ref (ad 41) :: .int sp :: .ref (ad 19) :: st) z Q := sg_copy (E := (eC l D cI cZ ad)) 19 41 0 0 hdg hn hw sg_acw rfl rfl rfl rfl hg.1 hg.2.1 hg.2.2.1 hg.2.2.2.1 hg.2.2.2.2 hd1 hst rfl k
theorem alC_19 (hdg : decode cc pc = .ok (.iaload, 1)) (hn : pc + 1 = pn) (hi : vp_in i 20) (k : sg_G (eC l D cI cZ ad) y cc nL ret d pn lv (.int (z.2 14 i.toNatClampNeg) :: st) z Q) : sg_G (eC l D cI cZ ad) y cc nL ret d pc lv (.int i :: .ref (ad 19) :: st) z Q := sg_iald (E := (eC l D cI cZ ad)) 19 0 hdg hn rfl rfl hi k
theorem anC_19 (hdg : decode cc pc = .ok (.arraylength, 1)) (hn : pc + 1 = pn) (k : sg_G (eC l D cI cZ ad) y cc nL ret d pn lv (.int (20 : Int32) :: st) z Q) : sg_G (eC l D cI cZ ad) y cc nL ret d pc lv (.ref (ad 19) :: st) z Q := sg_alen (E := (eC l D cI cZ ad)) 19 0 hdg hn rfl rfl (by decide +kernel) k
theorem asC_19 (hdg : decode cc pc = .ok (.iastore, 1)) (hn : pc + 1 = pn) (hi : vp_in i 20) (k : sg_G (eC l D cI cZ ad) y cc nL ret d pn lv st (sg_w z 14 i x0) Q) : sg_G (eC l D cI cZ ad) y cc nL ret d pc lv (.int x0 :: .int i :: .ref (ad 19) :: st) z Q := sg_iast (E := (eC l D cI cZ ad)) 19 0 hdg hn rfl rfl hi rfl k
theorem cpC_20_41 {sp dp n : Int32} (hdg : decode cc pc = .ok (.invokestatic ix, 3)) (hn : pc + 3 = pn) (hw : Cond.methodLink y.cls ix arraycopyName ∈ sg_tbl) (hg : ¬ sp < 0 ∧ ¬ dp < 0 ∧ ¬ n < 0 ∧ sp.toNatClampNeg + n.toNatClampNeg ≤ 8 ∧ dp.toNatClampNeg + n.toNatClampNeg ≤ 1908) (hd1 : 1 ≤ d) (hst : (st.map fun v => v.category).sum ≤ 8) (k : sg_G (eC l D cI cZ ad) y cc nL ret d pn lv st (sg_cp z 15 26 sp dp n) Q) : sg_G (eC l D cI cZ ad) y cc nL ret d pc lv (.int n :: .int dp :: .ref (ad 41) :: .int sp :: .ref (ad 20) :: st) z Q := sg_copy (E := (eC l D cI cZ ad)) 20 41 0 0 hdg hn hw sg_acw rfl rfl rfl rfl hg.1 hg.2.1 hg.2.2.1 hg.2.2.2.1 hg.2.2.2.2 hd1 hst rfl k
theorem alC_20 (hdg : decode cc pc = .ok (.iaload, 1)) (hn : pc + 1 = pn) (hi : vp_in i 8) (k : sg_G (eC l D cI cZ ad) y cc nL ret d pn lv (.int (z.2 15 i.toNatClampNeg) :: st) z Q) : sg_G (eC l D cI cZ ad) y cc nL ret d pc lv (.int i :: .ref (ad 20) :: st) z Q := sg_iald (E := (eC l D cI cZ ad)) 20 0 hdg hn rfl rfl hi k
theorem asC_20 (hdg : decode cc pc = .ok (.iastore, 1)) (hn : pc + 1 = pn) (hi : vp_in i 8) (k : sg_G (eC l D cI cZ ad) y cc nL ret d pn lv st (sg_w z 15 i x0) Q) : sg_G (eC l D cI cZ ad) y cc nL ret d pc lv (.int x0 :: .int i :: .ref (ad 20) :: st) z Q := sg_iast (E := (eC l D cI cZ ad)) 20 0 hdg hn rfl rfl hi rfl k
theorem cpC_21_41 {sp dp n : Int32} (hdg : decode cc pc = .ok (.invokestatic ix, 3)) (hn : pc + 3 = pn) (hw : Cond.methodLink y.cls ix arraycopyName ∈ sg_tbl) (hg : ¬ sp < 0 ∧ ¬ dp < 0 ∧ ¬ n < 0 ∧ sp.toNatClampNeg + n.toNatClampNeg ≤ 8 ∧ dp.toNatClampNeg + n.toNatClampNeg ≤ 1908) (hd1 : 1 ≤ d) (hst : (st.map fun v => v.category).sum ≤ 8) (k : sg_G (eC l D cI cZ ad) y cc nL ret d pn lv st (sg_cp z 16 26 sp dp n) Q) : sg_G (eC l D cI cZ ad) y cc nL ret d pc lv (.int n :: .int dp :: .ref (ad 41) :: .int sp :: .ref (ad 21) :: st) z Q := sg_copy (E := (eC l D cI cZ ad)) 21 41 0 0 hdg hn hw sg_acw rfl rfl rfl rfl hg.1 hg.2.1 hg.2.2.1 hg.2.2.2.1 hg.2.2.2.2 hd1 hst rfl k
theorem alC_21 (hdg : decode cc pc = .ok (.iaload, 1)) (hn : pc + 1 = pn) (hi : vp_in i 8) (k : sg_G (eC l D cI cZ ad) y cc nL ret d pn lv (.int (z.2 16 i.toNatClampNeg) :: st) z Q) : sg_G (eC l D cI cZ ad) y cc nL ret d pc lv (.int i :: .ref (ad 21) :: st) z Q := sg_iald (E := (eC l D cI cZ ad)) 21 0 hdg hn rfl rfl hi k
theorem anC_21 (hdg : decode cc pc = .ok (.arraylength, 1)) (hn : pc + 1 = pn) (k : sg_G (eC l D cI cZ ad) y cc nL ret d pn lv (.int (8 : Int32) :: st) z Q) : sg_G (eC l D cI cZ ad) y cc nL ret d pc lv (.ref (ad 21) :: st) z Q := sg_alen (E := (eC l D cI cZ ad)) 21 0 hdg hn rfl rfl (by decide +kernel) k
theorem asC_21 (hdg : decode cc pc = .ok (.iastore, 1)) (hn : pc + 1 = pn) (hi : vp_in i 8) (k : sg_G (eC l D cI cZ ad) y cc nL ret d pn lv st (sg_w z 16 i x0) Q) : sg_G (eC l D cI cZ ad) y cc nL ret d pc lv (.int x0 :: .int i :: .ref (ad 21) :: st) z Q := sg_iast (E := (eC l D cI cZ ad)) 21 0 hdg hn rfl rfl hi rfl k
theorem cpC_22_41 {sp dp n : Int32} (hdg : decode cc pc = .ok (.invokestatic ix, 3)) (hn : pc + 3 = pn) (hw : Cond.methodLink y.cls ix arraycopyName ∈ sg_tbl) (hg : ¬ sp < 0 ∧ ¬ dp < 0 ∧ ¬ n < 0 ∧ sp.toNatClampNeg + n.toNatClampNeg ≤ 8 ∧ dp.toNatClampNeg + n.toNatClampNeg ≤ 1908) (hd1 : 1 ≤ d) (hst : (st.map fun v => v.category).sum ≤ 8) (k : sg_G (eC l D cI cZ ad) y cc nL ret d pn lv st (sg_cp z 17 26 sp dp n) Q) : sg_G (eC l D cI cZ ad) y cc nL ret d pc lv (.int n :: .int dp :: .ref (ad 41) :: .int sp :: .ref (ad 22) :: st) z Q := sg_copy (E := (eC l D cI cZ ad)) 22 41 0 0 hdg hn hw sg_acw rfl rfl rfl rfl hg.1 hg.2.1 hg.2.2.1 hg.2.2.2.1 hg.2.2.2.2 hd1 hst rfl k
theorem alC_22 (hdg : decode cc pc = .ok (.iaload, 1)) (hn : pc + 1 = pn) (hi : vp_in i 8) (k : sg_G (eC l D cI cZ ad) y cc nL ret d pn lv (.int (z.2 17 i.toNatClampNeg) :: st) z Q) : sg_G (eC l D cI cZ ad) y cc nL ret d pc lv (.int i :: .ref (ad 22) :: st) z Q := sg_iald (E := (eC l D cI cZ ad)) 22 0 hdg hn rfl rfl hi k
theorem anC_22 (hdg : decode cc pc = .ok (.arraylength, 1)) (hn : pc + 1 = pn) (k : sg_G (eC l D cI cZ ad) y cc nL ret d pn lv (.int (8 : Int32) :: st) z Q) : sg_G (eC l D cI cZ ad) y cc nL ret d pc lv (.ref (ad 22) :: st) z Q := sg_alen (E := (eC l D cI cZ ad)) 22 0 hdg hn rfl rfl (by decide +kernel) k
theorem asC_22 (hdg : decode cc pc = .ok (.iastore, 1)) (hn : pc + 1 = pn) (hi : vp_in i 8) (k : sg_G (eC l D cI cZ ad) y cc nL ret d pn lv st (sg_w z 17 i x0) Q) : sg_G (eC l D cI cZ ad) y cc nL ret d pc lv (.int x0 :: .int i :: .ref (ad 22) :: st) z Q := sg_iast (E := (eC l D cI cZ ad)) 22 0 hdg hn rfl rfl hi rfl k
theorem alC_26 (hdg : decode cc pc = .ok (.iaload, 1)) (hn : pc + 1 = pn) (hi : vp_in i 20) (k : sg_G (eC l D cI cZ ad) y cc nL ret d pn lv (.int (z.2 18 i.toNatClampNeg) :: st) z Q) : sg_G (eC l D cI cZ ad) y cc nL ret d pc lv (.int i :: .ref (ad 26) :: st) z Q := sg_iald (E := (eC l D cI cZ ad)) 26 0 hdg hn rfl rfl hi k
theorem anC_26 (hdg : decode cc pc = .ok (.arraylength, 1)) (hn : pc + 1 = pn) (k : sg_G (eC l D cI cZ ad) y cc nL ret d pn lv (.int (20 : Int32) :: st) z Q) : sg_G (eC l D cI cZ ad) y cc nL ret d pc lv (.ref (ad 26) :: st) z Q := sg_alen (E := (eC l D cI cZ ad)) 26 0 hdg hn rfl rfl (by decide +kernel) k
theorem asC_26 (hdg : decode cc pc = .ok (.iastore, 1)) (hn : pc + 1 = pn) (hi : vp_in i 20) (k : sg_G (eC l D cI cZ ad) y cc nL ret d pn lv st (sg_w z 18 i x0) Q) : sg_G (eC l D cI cZ ad) y cc nL ret d pc lv (.int x0 :: .int i :: .ref (ad 26) :: st) z Q := sg_iast (E := (eC l D cI cZ ad)) 26 0 hdg hn rfl rfl hi rfl k
theorem alC_29 (hdg : decode cc pc = .ok (.iaload, 1)) (hn : pc + 1 = pn) (hi : vp_in i 40) (k : sg_G (eC l D cI cZ ad) y cc nL ret d pn lv (.int (z.2 19 i.toNatClampNeg) :: st) z Q) : sg_G (eC l D cI cZ ad) y cc nL ret d pc lv (.int i :: .ref (ad 29) :: st) z Q := sg_iald (E := (eC l D cI cZ ad)) 29 0 hdg hn rfl rfl hi k
theorem asC_29 (hdg : decode cc pc = .ok (.iastore, 1)) (hn : pc + 1 = pn) (hi : vp_in i 40) (k : sg_G (eC l D cI cZ ad) y cc nL ret d pn lv st (sg_w z 19 i x0) Q) : sg_G (eC l D cI cZ ad) y cc nL ret d pc lv (.int x0 :: .int i :: .ref (ad 29) :: st) z Q := sg_iast (E := (eC l D cI cZ ad)) 29 0 hdg hn rfl rfl hi rfl k
theorem cpC_3_10 {sp dp n : Int32} (hdg : decode cc pc = .ok (.invokestatic ix, 3)) (hn : pc + 3 = pn) (hw : Cond.methodLink y.cls ix arraycopyName ∈ sg_tbl) (hg : ¬ sp < 0 ∧ ¬ dp < 0 ∧ ¬ n < 0 ∧ sp.toNatClampNeg + n.toNatClampNeg ≤ 20 ∧ dp.toNatClampNeg + n.toNatClampNeg ≤ 20) (hd1 : 1 ≤ d) (hst : (st.map fun v => v.category).sum ≤ 8) (k : sg_G (eC l D cI cZ ad) y cc nL ret d pn lv st (sg_cp z 0 6 sp dp n) Q) : sg_G (eC l D cI cZ ad) y cc nL ret d pc lv (.int n :: .int dp :: .ref (ad 10) :: .int sp :: .ref (ad 3) :: st) z Q := sg_copy (E := (eC l D cI cZ ad)) 3 10 0 0 hdg hn hw sg_acw rfl rfl rfl rfl hg.1 hg.2.1 hg.2.2.1 hg.2.2.2.1 hg.2.2.2.2 hd1 hst rfl k
theorem anC_3 (hdg : decode cc pc = .ok (.arraylength, 1)) (hn : pc + 1 = pn) (k : sg_G (eC l D cI cZ ad) y cc nL ret d pn lv (.int (20 : Int32) :: st) z Q) : sg_G (eC l D cI cZ ad) y cc nL ret d pc lv (.ref (ad 3) :: st) z Q := sg_alen (E := (eC l D cI cZ ad)) 3 0 hdg hn rfl rfl (by decide +kernel) k
theorem asC_3 (hdg : decode cc pc = .ok (.iastore, 1)) (hn : pc + 1 = pn) (hi : vp_in i 20) (k : sg_G (eC l D cI cZ ad) y cc nL ret d pn lv st (sg_w z 0 i x0) Q) : sg_G (eC l D cI cZ ad) y cc nL ret d pc lv (.int x0 :: .int i :: .ref (ad 3) :: st) z Q := sg_iast (E := (eC l D cI cZ ad)) 3 0 hdg hn rfl rfl hi rfl k
theorem alC_31 (hdg : decode cc pc = .ok (.iaload, 1)) (hn : pc + 1 = pn) (hi : vp_in i 6) (k : sg_G (eC l D cI cZ ad) y cc nL ret d pn lv (.int (z.2 20 i.toNatClampNeg) :: st) z Q) : sg_G (eC l D cI cZ ad) y cc nL ret d pc lv (.int i :: .ref (ad 31) :: st) z Q := sg_iald (E := (eC l D cI cZ ad)) 31 0 hdg hn rfl rfl hi k
theorem anC_31 (hdg : decode cc pc = .ok (.arraylength, 1)) (hn : pc + 1 = pn) (k : sg_G (eC l D cI cZ ad) y cc nL ret d pn lv (.int (6 : Int32) :: st) z Q) : sg_G (eC l D cI cZ ad) y cc nL ret d pc lv (.ref (ad 31) :: st) z Q := sg_alen (E := (eC l D cI cZ ad)) 31 0 hdg hn rfl rfl (by decide +kernel) k
theorem asC_31 (hdg : decode cc pc = .ok (.iastore, 1)) (hn : pc + 1 = pn) (hi : vp_in i 6) (k : sg_G (eC l D cI cZ ad) y cc nL ret d pn lv st (sg_w z 20 i x0) Q) : sg_G (eC l D cI cZ ad) y cc nL ret d pc lv (.int x0 :: .int i :: .ref (ad 31) :: st) z Q := sg_iast (E := (eC l D cI cZ ad)) 31 0 hdg hn rfl rfl hi rfl k
theorem alC_32 (hdg : decode cc pc = .ok (.iaload, 1)) (hn : pc + 1 = pn) (hi : vp_in i 6) (k : sg_G (eC l D cI cZ ad) y cc nL ret d pn lv (.int (z.2 21 i.toNatClampNeg) :: st) z Q) : sg_G (eC l D cI cZ ad) y cc nL ret d pc lv (.int i :: .ref (ad 32) :: st) z Q := sg_iald (E := (eC l D cI cZ ad)) 32 0 hdg hn rfl rfl hi k
theorem asC_32 (hdg : decode cc pc = .ok (.iastore, 1)) (hn : pc + 1 = pn) (hi : vp_in i 6) (k : sg_G (eC l D cI cZ ad) y cc nL ret d pn lv st (sg_w z 21 i x0) Q) : sg_G (eC l D cI cZ ad) y cc nL ret d pc lv (.int x0 :: .int i :: .ref (ad 32) :: st) z Q := sg_iast (E := (eC l D cI cZ ad)) 32 0 hdg hn rfl rfl hi rfl k
theorem alC_34 (hdg : decode cc pc = .ok (.iaload, 1)) (hn : pc + 1 = pn) (hi : vp_in i 15) (k : sg_G (eC l D cI cZ ad) y cc nL ret d pn lv (.int (z.2 22 i.toNatClampNeg) :: st) z Q) : sg_G (eC l D cI cZ ad) y cc nL ret d pc lv (.int i :: .ref (ad 34) :: st) z Q := sg_iald (E := (eC l D cI cZ ad)) 34 0 hdg hn rfl rfl hi k
theorem anC_34 (hdg : decode cc pc = .ok (.arraylength, 1)) (hn : pc + 1 = pn) (k : sg_G (eC l D cI cZ ad) y cc nL ret d pn lv (.int (15 : Int32) :: st) z Q) : sg_G (eC l D cI cZ ad) y cc nL ret d pc lv (.ref (ad 34) :: st) z Q := sg_alen (E := (eC l D cI cZ ad)) 34 0 hdg hn rfl rfl (by decide +kernel) k
theorem asC_34 (hdg : decode cc pc = .ok (.iastore, 1)) (hn : pc + 1 = pn) (hi : vp_in i 15) (k : sg_G (eC l D cI cZ ad) y cc nL ret d pn lv st (sg_w z 22 i x0) Q) : sg_G (eC l D cI cZ ad) y cc nL ret d pc lv (.int x0 :: .int i :: .ref (ad 34) :: st) z Q := sg_iast (E := (eC l D cI cZ ad)) 34 0 hdg hn rfl rfl hi rfl k
theorem alC_35 (hdg : decode cc pc = .ok (.iaload, 1)) (hn : pc + 1 = pn) (hi : vp_in i 15) (k : sg_G (eC l D cI cZ ad) y cc nL ret d pn lv (.int (z.2 23 i.toNatClampNeg) :: st) z Q) : sg_G (eC l D cI cZ ad) y cc nL ret d pc lv (.int i :: .ref (ad 35) :: st) z Q := sg_iald (E := (eC l D cI cZ ad)) 35 0 hdg hn rfl rfl hi k
theorem asC_35 (hdg : decode cc pc = .ok (.iastore, 1)) (hn : pc + 1 = pn) (hi : vp_in i 15) (k : sg_G (eC l D cI cZ ad) y cc nL ret d pn lv st (sg_w z 23 i x0) Q) : sg_G (eC l D cI cZ ad) y cc nL ret d pc lv (.int x0 :: .int i :: .ref (ad 35) :: st) z Q := sg_iast (E := (eC l D cI cZ ad)) 35 0 hdg hn rfl rfl hi rfl k
theorem alC_37 (hdg : decode cc pc = .ok (.baload, 1)) (hn : pc + 1 = pn) (hi : vp_in i 61) (k : sg_G (eC l D cI cZ ad) y cc nL ret d pn lv (.int (z.2 24 i.toNatClampNeg) :: st) z Q) : sg_G (eC l D cI cZ ad) y cc nL ret d pc lv (.int i :: .ref (ad 37) :: st) z Q := sg_zald (E := (eC l D cI cZ ad)) 37 1 hdg hn rfl rfl hi k
theorem asC_37 (hdg : decode cc pc = .ok (.bastore, 1)) (hn : pc + 1 = pn) (hi : vp_in i 61) (k : sg_G (eC l D cI cZ ad) y cc nL ret d pn lv st (sg_w z 24 i (vp_nar .boolean x0)) Q) : sg_G (eC l D cI cZ ad) y cc nL ret d pc lv (.int x0 :: .int i :: .ref (ad 37) :: st) z Q := sg_zast (E := (eC l D cI cZ ad)) 37 1 hdg hn rfl rfl hi rfl k
theorem alC_38 (hdg : decode cc pc = .ok (.iaload, 1)) (hn : pc + 1 = pn) (hi : vp_in i 21) (k : sg_G (eC l D cI cZ ad) y cc nL ret d pn lv (.int (z.2 25 i.toNatClampNeg) :: st) z Q) : sg_G (eC l D cI cZ ad) y cc nL ret d pc lv (.int i :: .ref (ad 38) :: st) z Q := sg_iald (E := (eC l D cI cZ ad)) 38 0 hdg hn rfl rfl hi k
theorem anC_38 (hdg : decode cc pc = .ok (.arraylength, 1)) (hn : pc + 1 = pn) (k : sg_G (eC l D cI cZ ad) y cc nL ret d pn lv (.int (21 : Int32) :: st) z Q) : sg_G (eC l D cI cZ ad) y cc nL ret d pc lv (.ref (ad 38) :: st) z Q := sg_alen (E := (eC l D cI cZ ad)) 38 0 hdg hn rfl rfl (by decide +kernel) k
theorem asC_38 (hdg : decode cc pc = .ok (.iastore, 1)) (hn : pc + 1 = pn) (hi : vp_in i 21) (k : sg_G (eC l D cI cZ ad) y cc nL ret d pn lv st (sg_w z 25 i x0) Q) : sg_G (eC l D cI cZ ad) y cc nL ret d pc lv (.int x0 :: .int i :: .ref (ad 38) :: st) z Q := sg_iast (E := (eC l D cI cZ ad)) 38 0 hdg hn rfl rfl hi rfl k
theorem cpC_4_11 {sp dp n : Int32} (hdg : decode cc pc = .ok (.invokestatic ix, 3)) (hn : pc + 3 = pn) (hw : Cond.methodLink y.cls ix arraycopyName ∈ sg_tbl) (hg : ¬ sp < 0 ∧ ¬ dp < 0 ∧ ¬ n < 0 ∧ sp.toNatClampNeg + n.toNatClampNeg ≤ 12 ∧ dp.toNatClampNeg + n.toNatClampNeg ≤ 12) (hd1 : 1 ≤ d) (hst : (st.map fun v => v.category).sum ≤ 8) (k : sg_G (eC l D cI cZ ad) y cc nL ret d pn lv st (sg_cp z 1 7 sp dp n) Q) : sg_G (eC l D cI cZ ad) y cc nL ret d pc lv (.int n :: .int dp :: .ref (ad 11) :: .int sp :: .ref (ad 4) :: st) z Q := sg_copy (E := (eC l D cI cZ ad)) 4 11 0 0 hdg hn hw sg_acw rfl rfl rfl rfl hg.1 hg.2.1 hg.2.2.1 hg.2.2.2.1 hg.2.2.2.2 hd1 hst rfl k
theorem anC_4 (hdg : decode cc pc = .ok (.arraylength, 1)) (hn : pc + 1 = pn) (k : sg_G (eC l D cI cZ ad) y cc nL ret d pn lv (.int (12 : Int32) :: st) z Q) : sg_G (eC l D cI cZ ad) y cc nL ret d pc lv (.ref (ad 4) :: st) z Q := sg_alen (E := (eC l D cI cZ ad)) 4 0 hdg hn rfl rfl (by decide +kernel) k
theorem asC_4 (hdg : decode cc pc = .ok (.iastore, 1)) (hn : pc + 1 = pn) (hi : vp_in i 12) (k : sg_G (eC l D cI cZ ad) y cc nL ret d pn lv st (sg_w z 1 i x0) Q) : sg_G (eC l D cI cZ ad) y cc nL ret d pc lv (.int x0 :: .int i :: .ref (ad 4) :: st) z Q := sg_iast (E := (eC l D cI cZ ad)) 4 0 hdg hn rfl rfl hi rfl k
theorem cpC_41_16 {sp dp n : Int32} (hdg : decode cc pc = .ok (.invokestatic ix, 3)) (hn : pc + 3 = pn) (hw : Cond.methodLink y.cls ix arraycopyName ∈ sg_tbl) (hg : ¬ sp < 0 ∧ ¬ dp < 0 ∧ ¬ n < 0 ∧ sp.toNatClampNeg + n.toNatClampNeg ≤ 1908 ∧ dp.toNatClampNeg + n.toNatClampNeg ≤ 20) (hd1 : 1 ≤ d) (hst : (st.map fun v => v.category).sum ≤ 8) (k : sg_G (eC l D cI cZ ad) y cc nL ret d pn lv st (sg_cp z 26 11 sp dp n) Q) : sg_G (eC l D cI cZ ad) y cc nL ret d pc lv (.int n :: .int dp :: .ref (ad 16) :: .int sp :: .ref (ad 41) :: st) z Q := sg_copy (E := (eC l D cI cZ ad)) 41 16 0 0 hdg hn hw sg_acw rfl rfl rfl rfl hg.1 hg.2.1 hg.2.2.1 hg.2.2.2.1 hg.2.2.2.2 hd1 hst rfl k
theorem cpC_41_17 {sp dp n : Int32} (hdg : decode cc pc = .ok (.invokestatic ix, 3)) (hn : pc + 3 = pn) (hw : Cond.methodLink y.cls ix arraycopyName ∈ sg_tbl) (hg : ¬ sp < 0 ∧ ¬ dp < 0 ∧ ¬ n < 0 ∧ sp.toNatClampNeg + n.toNatClampNeg ≤ 1908 ∧ dp.toNatClampNeg + n.toNatClampNeg ≤ 20) (hd1 : 1 ≤ d) (hst : (st.map fun v => v.category).sum ≤ 8) (k : sg_G (eC l D cI cZ ad) y cc nL ret d pn lv st (sg_cp z 26 12 sp dp n) Q) : sg_G (eC l D cI cZ ad) y cc nL ret d pc lv (.int n :: .int dp :: .ref (ad 17) :: .int sp :: .ref (ad 41) :: st) z Q := sg_copy (E := (eC l D cI cZ ad)) 41 17 0 0 hdg hn hw sg_acw rfl rfl rfl rfl hg.1 hg.2.1 hg.2.2.1 hg.2.2.2.1 hg.2.2.2.2 hd1 hst rfl k
theorem cpC_41_18 {sp dp n : Int32} (hdg : decode cc pc = .ok (.invokestatic ix, 3)) (hn : pc + 3 = pn) (hw : Cond.methodLink y.cls ix arraycopyName ∈ sg_tbl) (hg : ¬ sp < 0 ∧ ¬ dp < 0 ∧ ¬ n < 0 ∧ sp.toNatClampNeg + n.toNatClampNeg ≤ 1908 ∧ dp.toNatClampNeg + n.toNatClampNeg ≤ 20) (hd1 : 1 ≤ d) (hst : (st.map fun v => v.category).sum ≤ 8) (k : sg_G (eC l D cI cZ ad) y cc nL ret d pn lv st (sg_cp z 26 13 sp dp n) Q) : sg_G (eC l D cI cZ ad) y cc nL ret d pc lv (.int n :: .int dp :: .ref (ad 18) :: .int sp :: .ref (ad 41) :: st) z Q := sg_copy (E := (eC l D cI cZ ad)) 41 18 0 0 hdg hn hw sg_acw rfl rfl rfl rfl hg.1 hg.2.1 hg.2.2.1 hg.2.2.2.1 hg.2.2.2.2 hd1 hst rfl k
theorem cpC_41_19 {sp dp n : Int32} (hdg : decode cc pc = .ok (.invokestatic ix, 3)) (hn : pc + 3 = pn) (hw : Cond.methodLink y.cls ix arraycopyName ∈ sg_tbl) (hg : ¬ sp < 0 ∧ ¬ dp < 0 ∧ ¬ n < 0 ∧ sp.toNatClampNeg + n.toNatClampNeg ≤ 1908 ∧ dp.toNatClampNeg + n.toNatClampNeg ≤ 20) (hd1 : 1 ≤ d) (hst : (st.map fun v => v.category).sum ≤ 8) (k : sg_G (eC l D cI cZ ad) y cc nL ret d pn lv st (sg_cp z 26 14 sp dp n) Q) : sg_G (eC l D cI cZ ad) y cc nL ret d pc lv (.int n :: .int dp :: .ref (ad 19) :: .int sp :: .ref (ad 41) :: st) z Q := sg_copy (E := (eC l D cI cZ ad)) 41 19 0 0 hdg hn hw sg_acw rfl rfl rfl rfl hg.1 hg.2.1 hg.2.2.1 hg.2.2.2.1 hg.2.2.2.2 hd1 hst rfl k
theorem cpC_41_20 {sp dp n : Int32} (hdg : decode cc pc = .ok (.invokestatic ix, 3)) (hn : pc + 3 = pn) (hw : Cond.methodLink y.cls ix arraycopyName ∈ sg_tbl) (hg : ¬ sp < 0 ∧ ¬ dp < 0 ∧ ¬ n < 0 ∧ sp.toNatClampNeg + n.toNatClampNeg ≤ 1908 ∧ dp.toNatClampNeg + n.toNatClampNeg ≤ 8) (hd1 : 1 ≤ d) (hst : (st.map fun v => v.category).sum ≤ 8) (k : sg_G (eC l D cI cZ ad) y cc nL ret d pn lv st (sg_cp z 26 15 sp dp n) Q) : sg_G (eC l D cI cZ ad) y cc nL ret d pc lv (.int n :: .int dp :: .ref (ad 20) :: .int sp :: .ref (ad 41) :: st) z Q := sg_copy (E := (eC l D cI cZ ad)) 41 20 0 0 hdg hn hw sg_acw rfl rfl rfl rfl hg.1 hg.2.1 hg.2.2.1 hg.2.2.2.1 hg.2.2.2.2 hd1 hst rfl k
theorem cpC_41_21 {sp dp n : Int32} (hdg : decode cc pc = .ok (.invokestatic ix, 3)) (hn : pc + 3 = pn) (hw : Cond.methodLink y.cls ix arraycopyName ∈ sg_tbl) (hg : ¬ sp < 0 ∧ ¬ dp < 0 ∧ ¬ n < 0 ∧ sp.toNatClampNeg + n.toNatClampNeg ≤ 1908 ∧ dp.toNatClampNeg + n.toNatClampNeg ≤ 8) (hd1 : 1 ≤ d) (hst : (st.map fun v => v.category).sum ≤ 8) (k : sg_G (eC l D cI cZ ad) y cc nL ret d pn lv st (sg_cp z 26 16 sp dp n) Q) : sg_G (eC l D cI cZ ad) y cc nL ret d pc lv (.int n :: .int dp :: .ref (ad 21) :: .int sp :: .ref (ad 41) :: st) z Q := sg_copy (E := (eC l D cI cZ ad)) 41 21 0 0 hdg hn hw sg_acw rfl rfl rfl rfl hg.1 hg.2.1 hg.2.2.1 hg.2.2.2.1 hg.2.2.2.2 hd1 hst rfl k
theorem cpC_41_22 {sp dp n : Int32} (hdg : decode cc pc = .ok (.invokestatic ix, 3)) (hn : pc + 3 = pn) (hw : Cond.methodLink y.cls ix arraycopyName ∈ sg_tbl) (hg : ¬ sp < 0 ∧ ¬ dp < 0 ∧ ¬ n < 0 ∧ sp.toNatClampNeg + n.toNatClampNeg ≤ 1908 ∧ dp.toNatClampNeg + n.toNatClampNeg ≤ 8) (hd1 : 1 ≤ d) (hst : (st.map fun v => v.category).sum ≤ 8) (k : sg_G (eC l D cI cZ ad) y cc nL ret d pn lv st (sg_cp z 26 17 sp dp n) Q) : sg_G (eC l D cI cZ ad) y cc nL ret d pc lv (.int n :: .int dp :: .ref (ad 22) :: .int sp :: .ref (ad 41) :: st) z Q := sg_copy (E := (eC l D cI cZ ad)) 41 22 0 0 hdg hn hw sg_acw rfl rfl rfl rfl hg.1 hg.2.1 hg.2.2.1 hg.2.2.2.1 hg.2.2.2.2 hd1 hst rfl k
theorem alC_41 (hdg : decode cc pc = .ok (.iaload, 1)) (hn : pc + 1 = pn) (hi : vp_in i 1908) (k : sg_G (eC l D cI cZ ad) y cc nL ret d pn lv (.int (z.2 26 i.toNatClampNeg) :: st) z Q) : sg_G (eC l D cI cZ ad) y cc nL ret d pc lv (.int i :: .ref (ad 41) :: st) z Q := sg_iald (E := (eC l D cI cZ ad)) 41 0 hdg hn rfl rfl hi k
theorem anC_41 (hdg : decode cc pc = .ok (.arraylength, 1)) (hn : pc + 1 = pn) (k : sg_G (eC l D cI cZ ad) y cc nL ret d pn lv (.int (1908 : Int32) :: st) z Q) : sg_G (eC l D cI cZ ad) y cc nL ret d pc lv (.ref (ad 41) :: st) z Q := sg_alen (E := (eC l D cI cZ ad)) 41 0 hdg hn rfl rfl (by decide +kernel) k
theorem asC_41 (hdg : decode cc pc = .ok (.iastore, 1)) (hn : pc + 1 = pn) (hi : vp_in i 1908) (k : sg_G (eC l D cI cZ ad) y cc nL ret d pn lv st (sg_w z 26 i x0) Q) : sg_G (eC l D cI cZ ad) y cc nL ret d pc lv (.int x0 :: .int i :: .ref (ad 41) :: st) z Q := sg_iast (E := (eC l D cI cZ ad)) 41 0 hdg hn rfl rfl hi rfl k
theorem alC_42 (hdg : decode cc pc = .ok (.baload, 1)) (hn : pc + 1 = pn) (hi : vp_in i 2) (k : sg_G (eC l D cI cZ ad) y cc nL ret d pn lv (.int (z.2 27 i.toNatClampNeg) :: st) z Q) : sg_G (eC l D cI cZ ad) y cc nL ret d pc lv (.int i :: .ref (ad 42) :: st) z Q := sg_zald (E := (eC l D cI cZ ad)) 42 1 hdg hn rfl rfl hi k
theorem asC_42 (hdg : decode cc pc = .ok (.bastore, 1)) (hn : pc + 1 = pn) (hi : vp_in i 2) (k : sg_G (eC l D cI cZ ad) y cc nL ret d pn lv st (sg_w z 27 i (vp_nar .boolean x0)) Q) : sg_G (eC l D cI cZ ad) y cc nL ret d pc lv (.int x0 :: .int i :: .ref (ad 42) :: st) z Q := sg_zast (E := (eC l D cI cZ ad)) 42 1 hdg hn rfl rfl hi rfl k
theorem alC_43 (hdg : decode cc pc = .ok (.iaload, 1)) (hn : pc + 1 = pn) (hi : vp_in i 2) (k : sg_G (eC l D cI cZ ad) y cc nL ret d pn lv (.int (z.2 28 i.toNatClampNeg) :: st) z Q) : sg_G (eC l D cI cZ ad) y cc nL ret d pc lv (.int i :: .ref (ad 43) :: st) z Q := sg_iald (E := (eC l D cI cZ ad)) 43 0 hdg hn rfl rfl hi k
theorem anC_43 (hdg : decode cc pc = .ok (.arraylength, 1)) (hn : pc + 1 = pn) (k : sg_G (eC l D cI cZ ad) y cc nL ret d pn lv (.int (2 : Int32) :: st) z Q) : sg_G (eC l D cI cZ ad) y cc nL ret d pc lv (.ref (ad 43) :: st) z Q := sg_alen (E := (eC l D cI cZ ad)) 43 0 hdg hn rfl rfl (by decide +kernel) k
theorem asC_43 (hdg : decode cc pc = .ok (.iastore, 1)) (hn : pc + 1 = pn) (hi : vp_in i 2) (k : sg_G (eC l D cI cZ ad) y cc nL ret d pn lv st (sg_w z 28 i x0) Q) : sg_G (eC l D cI cZ ad) y cc nL ret d pc lv (.int x0 :: .int i :: .ref (ad 43) :: st) z Q := sg_iast (E := (eC l D cI cZ ad)) 43 0 hdg hn rfl rfl hi rfl k
theorem cpC_5_12 {sp dp n : Int32} (hdg : decode cc pc = .ok (.invokestatic ix, 3)) (hn : pc + 3 = pn) (hw : Cond.methodLink y.cls ix arraycopyName ∈ sg_tbl) (hg : ¬ sp < 0 ∧ ¬ dp < 0 ∧ ¬ n < 0 ∧ sp.toNatClampNeg + n.toNatClampNeg ≤ 8 ∧ dp.toNatClampNeg + n.toNatClampNeg ≤ 8) (hd1 : 1 ≤ d) (hst : (st.map fun v => v.category).sum ≤ 8) (k : sg_G (eC l D cI cZ ad) y cc nL ret d pn lv st (sg_cp z 2 8 sp dp n) Q) : sg_G (eC l D cI cZ ad) y cc nL ret d pc lv (.int n :: .int dp :: .ref (ad 12) :: .int sp :: .ref (ad 5) :: st) z Q := sg_copy (E := (eC l D cI cZ ad)) 5 12 0 0 hdg hn hw sg_acw rfl rfl rfl rfl hg.1 hg.2.1 hg.2.2.1 hg.2.2.2.1 hg.2.2.2.2 hd1 hst rfl k
theorem asC_5 (hdg : decode cc pc = .ok (.iastore, 1)) (hn : pc + 1 = pn) (hi : vp_in i 8) (k : sg_G (eC l D cI cZ ad) y cc nL ret d pn lv st (sg_w z 2 i x0) Q) : sg_G (eC l D cI cZ ad) y cc nL ret d pc lv (.int x0 :: .int i :: .ref (ad 5) :: st) z Q := sg_iast (E := (eC l D cI cZ ad)) 5 0 hdg hn rfl rfl hi rfl k
theorem cpC_6_13 {sp dp n : Int32} (hdg : decode cc pc = .ok (.invokestatic ix, 3)) (hn : pc + 3 = pn) (hw : Cond.methodLink y.cls ix arraycopyName ∈ sg_tbl) (hg : ¬ sp < 0 ∧ ¬ dp < 0 ∧ ¬ n < 0 ∧ sp.toNatClampNeg + n.toNatClampNeg ≤ 8 ∧ dp.toNatClampNeg + n.toNatClampNeg ≤ 8) (hd1 : 1 ≤ d) (hst : (st.map fun v => v.category).sum ≤ 8) (k : sg_G (eC l D cI cZ ad) y cc nL ret d pn lv st (sg_cp z 3 9 sp dp n) Q) : sg_G (eC l D cI cZ ad) y cc nL ret d pc lv (.int n :: .int dp :: .ref (ad 13) :: .int sp :: .ref (ad 6) :: st) z Q := sg_copy (E := (eC l D cI cZ ad)) 6 13 0 0 hdg hn hw sg_acw rfl rfl rfl rfl hg.1 hg.2.1 hg.2.2.1 hg.2.2.2.1 hg.2.2.2.2 hd1 hst rfl k
theorem asC_6 (hdg : decode cc pc = .ok (.iastore, 1)) (hn : pc + 1 = pn) (hi : vp_in i 8) (k : sg_G (eC l D cI cZ ad) y cc nL ret d pn lv st (sg_w z 3 i x0) Q) : sg_G (eC l D cI cZ ad) y cc nL ret d pc lv (.int x0 :: .int i :: .ref (ad 6) :: st) z Q := sg_iast (E := (eC l D cI cZ ad)) 6 0 hdg hn rfl rfl hi rfl k
theorem cpC_7_14 {sp dp n : Int32} (hdg : decode cc pc = .ok (.invokestatic ix, 3)) (hn : pc + 3 = pn) (hw : Cond.methodLink y.cls ix arraycopyName ∈ sg_tbl) (hg : ¬ sp < 0 ∧ ¬ dp < 0 ∧ ¬ n < 0 ∧ sp.toNatClampNeg + n.toNatClampNeg ≤ 8 ∧ dp.toNatClampNeg + n.toNatClampNeg ≤ 8) (hd1 : 1 ≤ d) (hst : (st.map fun v => v.category).sum ≤ 8) (k : sg_G (eC l D cI cZ ad) y cc nL ret d pn lv st (sg_cp z 4 10 sp dp n) Q) : sg_G (eC l D cI cZ ad) y cc nL ret d pc lv (.int n :: .int dp :: .ref (ad 14) :: .int sp :: .ref (ad 7) :: st) z Q := sg_copy (E := (eC l D cI cZ ad)) 7 14 0 0 hdg hn hw sg_acw rfl rfl rfl rfl hg.1 hg.2.1 hg.2.2.1 hg.2.2.2.1 hg.2.2.2.2 hd1 hst rfl k
theorem asC_7 (hdg : decode cc pc = .ok (.iastore, 1)) (hn : pc + 1 = pn) (hi : vp_in i 8) (k : sg_G (eC l D cI cZ ad) y cc nL ret d pn lv st (sg_w z 4 i x0) Q) : sg_G (eC l D cI cZ ad) y cc nL ret d pc lv (.int x0 :: .int i :: .ref (ad 7) :: st) z Q := sg_iast (E := (eC l D cI cZ ad)) 7 0 hdg hn rfl rfl hi rfl k
theorem alC_8 (hdg : decode cc pc = .ok (.iaload, 1)) (hn : pc + 1 = pn) (hi : vp_in i 240) (k : sg_G (eC l D cI cZ ad) y cc nL ret d pn lv (.int (z.2 5 i.toNatClampNeg) :: st) z Q) : sg_G (eC l D cI cZ ad) y cc nL ret d pc lv (.int i :: .ref (ad 8) :: st) z Q := sg_iald (E := (eC l D cI cZ ad)) 8 0 hdg hn rfl rfl hi k
theorem asC_8 (hdg : decode cc pc = .ok (.iastore, 1)) (hn : pc + 1 = pn) (hi : vp_in i 240) (k : sg_G (eC l D cI cZ ad) y cc nL ret d pn lv st (sg_w z 5 i x0) Q) : sg_G (eC l D cI cZ ad) y cc nL ret d pc lv (.int x0 :: .int i :: .ref (ad 8) :: st) z Q := sg_iast (E := (eC l D cI cZ ad)) 8 0 hdg hn rfl rfl hi rfl k
theorem alM_1 (hdg : decode cc pc = .ok (.iaload, 1)) (hn : pc + 1 = pn) (hi : vp_in i 20) (k : sg_G (eM l D cI cZ ad) y cc nL ret d pn lv (.int (z.2 0 i.toNatClampNeg) :: st) z Q) : sg_G (eM l D cI cZ ad) y cc nL ret d pc lv (.int i :: .ref (ad 1) :: st) z Q := sg_iald (E := (eM l D cI cZ ad)) 1 0 hdg hn rfl rfl hi k
theorem asM_1 (hdg : decode cc pc = .ok (.iastore, 1)) (hn : pc + 1 = pn) (hi : vp_in i 20) (k : sg_G (eM l D cI cZ ad) y cc nL ret d pn lv st (sg_w z 0 i x0) Q) : sg_G (eM l D cI cZ ad) y cc nL ret d pc lv (.int x0 :: .int i :: .ref (ad 1) :: st) z Q := sg_iast (E := (eM l D cI cZ ad)) 1 0 hdg hn rfl rfl hi rfl k
theorem alM_10 (hdg : decode cc pc = .ok (.iaload, 1)) (hn : pc + 1 = pn) (hi : vp_in i 8) (k : sg_G (eM l D cI cZ ad) y cc nL ret d pn lv (.int (z.2 9 i.toNatClampNeg) :: st) z Q) : sg_G (eM l D cI cZ ad) y cc nL ret d pc lv (.int i :: .ref (ad 10) :: st) z Q := sg_iald (E := (eM l D cI cZ ad)) 10 0 hdg hn rfl rfl hi k
theorem asM_10 (hdg : decode cc pc = .ok (.iastore, 1)) (hn : pc + 1 = pn) (hi : vp_in i 8) (k : sg_G (eM l D cI cZ ad) y cc nL ret d pn lv st (sg_w z 9 i x0) Q) : sg_G (eM l D cI cZ ad) y cc nL ret d pc lv (.int x0 :: .int i :: .ref (ad 10) :: st) z Q := sg_iast (E := (eM l D cI cZ ad)) 10 0 hdg hn rfl rfl hi rfl k
theorem alM_11 (hdg : decode cc pc = .ok (.iaload, 1)) (hn : pc + 1 = pn) (hi : vp_in i 8) (k : sg_G (eM l D cI cZ ad) y cc nL ret d pn lv (.int (z.2 10 i.toNatClampNeg) :: st) z Q) : sg_G (eM l D cI cZ ad) y cc nL ret d pc lv (.int i :: .ref (ad 11) :: st) z Q := sg_iald (E := (eM l D cI cZ ad)) 11 0 hdg hn rfl rfl hi k
theorem asM_11 (hdg : decode cc pc = .ok (.iastore, 1)) (hn : pc + 1 = pn) (hi : vp_in i 8) (k : sg_G (eM l D cI cZ ad) y cc nL ret d pn lv st (sg_w z 10 i x0) Q) : sg_G (eM l D cI cZ ad) y cc nL ret d pc lv (.int x0 :: .int i :: .ref (ad 11) :: st) z Q := sg_iast (E := (eM l D cI cZ ad)) 11 0 hdg hn rfl rfl hi rfl k
theorem alM_12 (hdg : decode cc pc = .ok (.iaload, 1)) (hn : pc + 1 = pn) (hi : vp_in i 8) (k : sg_G (eM l D cI cZ ad) y cc nL ret d pn lv (.int (z.2 11 i.toNatClampNeg) :: st) z Q) : sg_G (eM l D cI cZ ad) y cc nL ret d pc lv (.int i :: .ref (ad 12) :: st) z Q := sg_iald (E := (eM l D cI cZ ad)) 12 0 hdg hn rfl rfl hi k
theorem asM_12 (hdg : decode cc pc = .ok (.iastore, 1)) (hn : pc + 1 = pn) (hi : vp_in i 8) (k : sg_G (eM l D cI cZ ad) y cc nL ret d pn lv st (sg_w z 11 i x0) Q) : sg_G (eM l D cI cZ ad) y cc nL ret d pc lv (.int x0 :: .int i :: .ref (ad 12) :: st) z Q := sg_iast (E := (eM l D cI cZ ad)) 12 0 hdg hn rfl rfl hi rfl k
theorem alM_13 (hdg : decode cc pc = .ok (.iaload, 1)) (hn : pc + 1 = pn) (hi : vp_in i 1696) (k : sg_G (eM l D cI cZ ad) y cc nL ret d pn lv (.int (z.2 12 i.toNatClampNeg) :: st) z Q) : sg_G (eM l D cI cZ ad) y cc nL ret d pc lv (.int i :: .ref (ad 13) :: st) z Q := sg_iald (E := (eM l D cI cZ ad)) 13 0 hdg hn rfl rfl hi k
theorem asM_13 (hdg : decode cc pc = .ok (.iastore, 1)) (hn : pc + 1 = pn) (hi : vp_in i 1696) (k : sg_G (eM l D cI cZ ad) y cc nL ret d pn lv st (sg_w z 12 i x0) Q) : sg_G (eM l D cI cZ ad) y cc nL ret d pc lv (.int x0 :: .int i :: .ref (ad 13) :: st) z Q := sg_iast (E := (eM l D cI cZ ad)) 13 0 hdg hn rfl rfl hi rfl k
theorem alM_14 (hdg : decode cc pc = .ok (.iaload, 1)) (hn : pc + 1 = pn) (hi : vp_in i 40) (k : sg_G (eM l D cI cZ ad) y cc nL ret d pn lv (.int (z.2 13 i.toNatClampNeg) :: st) z Q) : sg_G (eM l D cI cZ ad) y cc nL ret d pc lv (.int i :: .ref (ad 14) :: st) z Q := sg_iald (E := (eM l D cI cZ ad)) 14 0 hdg hn rfl rfl hi k
theorem asM_14 (hdg : decode cc pc = .ok (.iastore, 1)) (hn : pc + 1 = pn) (hi : vp_in i 40) (k : sg_G (eM l D cI cZ ad) y cc nL ret d pn lv st (sg_w z 13 i x0) Q) : sg_G (eM l D cI cZ ad) y cc nL ret d pc lv (.int x0 :: .int i :: .ref (ad 14) :: st) z Q := sg_iast (E := (eM l D cI cZ ad)) 14 0 hdg hn rfl rfl hi rfl k
theorem alM_15 (hdg : decode cc pc = .ok (.iaload, 1)) (hn : pc + 1 = pn) (hi : vp_in i 6) (k : sg_G (eM l D cI cZ ad) y cc nL ret d pn lv (.int (z.2 14 i.toNatClampNeg) :: st) z Q) : sg_G (eM l D cI cZ ad) y cc nL ret d pc lv (.int i :: .ref (ad 15) :: st) z Q := sg_iald (E := (eM l D cI cZ ad)) 15 0 hdg hn rfl rfl hi k
theorem asM_15 (hdg : decode cc pc = .ok (.iastore, 1)) (hn : pc + 1 = pn) (hi : vp_in i 6) (k : sg_G (eM l D cI cZ ad) y cc nL ret d pn lv st (sg_w z 14 i x0) Q) : sg_G (eM l D cI cZ ad) y cc nL ret d pc lv (.int x0 :: .int i :: .ref (ad 15) :: st) z Q := sg_iast (E := (eM l D cI cZ ad)) 15 0 hdg hn rfl rfl hi rfl k
theorem alM_16 (hdg : decode cc pc = .ok (.iaload, 1)) (hn : pc + 1 = pn) (hi : vp_in i 6) (k : sg_G (eM l D cI cZ ad) y cc nL ret d pn lv (.int (z.2 15 i.toNatClampNeg) :: st) z Q) : sg_G (eM l D cI cZ ad) y cc nL ret d pc lv (.int i :: .ref (ad 16) :: st) z Q := sg_iald (E := (eM l D cI cZ ad)) 16 0 hdg hn rfl rfl hi k
theorem asM_16 (hdg : decode cc pc = .ok (.iastore, 1)) (hn : pc + 1 = pn) (hi : vp_in i 6) (k : sg_G (eM l D cI cZ ad) y cc nL ret d pn lv st (sg_w z 15 i x0) Q) : sg_G (eM l D cI cZ ad) y cc nL ret d pc lv (.int x0 :: .int i :: .ref (ad 16) :: st) z Q := sg_iast (E := (eM l D cI cZ ad)) 16 0 hdg hn rfl rfl hi rfl k
theorem alM_17 (hdg : decode cc pc = .ok (.iaload, 1)) (hn : pc + 1 = pn) (hi : vp_in i 21) (k : sg_G (eM l D cI cZ ad) y cc nL ret d pn lv (.int (z.2 16 i.toNatClampNeg) :: st) z Q) : sg_G (eM l D cI cZ ad) y cc nL ret d pc lv (.int i :: .ref (ad 17) :: st) z Q := sg_iald (E := (eM l D cI cZ ad)) 17 0 hdg hn rfl rfl hi k
theorem asM_17 (hdg : decode cc pc = .ok (.iastore, 1)) (hn : pc + 1 = pn) (hi : vp_in i 21) (k : sg_G (eM l D cI cZ ad) y cc nL ret d pn lv st (sg_w z 16 i x0) Q) : sg_G (eM l D cI cZ ad) y cc nL ret d pc lv (.int x0 :: .int i :: .ref (ad 17) :: st) z Q := sg_iast (E := (eM l D cI cZ ad)) 17 0 hdg hn rfl rfl hi rfl k
theorem alM_18 (hdg : decode cc pc = .ok (.iaload, 1)) (hn : pc + 1 = pn) (hi : vp_in i 15) (k : sg_G (eM l D cI cZ ad) y cc nL ret d pn lv (.int (z.2 17 i.toNatClampNeg) :: st) z Q) : sg_G (eM l D cI cZ ad) y cc nL ret d pc lv (.int i :: .ref (ad 18) :: st) z Q := sg_iald (E := (eM l D cI cZ ad)) 18 0 hdg hn rfl rfl hi k
theorem asM_18 (hdg : decode cc pc = .ok (.iastore, 1)) (hn : pc + 1 = pn) (hi : vp_in i 15) (k : sg_G (eM l D cI cZ ad) y cc nL ret d pn lv st (sg_w z 17 i x0) Q) : sg_G (eM l D cI cZ ad) y cc nL ret d pc lv (.int x0 :: .int i :: .ref (ad 18) :: st) z Q := sg_iast (E := (eM l D cI cZ ad)) 18 0 hdg hn rfl rfl hi rfl k
theorem alM_19 (hdg : decode cc pc = .ok (.iaload, 1)) (hn : pc + 1 = pn) (hi : vp_in i 15) (k : sg_G (eM l D cI cZ ad) y cc nL ret d pn lv (.int (z.2 18 i.toNatClampNeg) :: st) z Q) : sg_G (eM l D cI cZ ad) y cc nL ret d pc lv (.int i :: .ref (ad 19) :: st) z Q := sg_iald (E := (eM l D cI cZ ad)) 19 0 hdg hn rfl rfl hi k
theorem asM_19 (hdg : decode cc pc = .ok (.iastore, 1)) (hn : pc + 1 = pn) (hi : vp_in i 15) (k : sg_G (eM l D cI cZ ad) y cc nL ret d pn lv st (sg_w z 18 i x0) Q) : sg_G (eM l D cI cZ ad) y cc nL ret d pc lv (.int x0 :: .int i :: .ref (ad 19) :: st) z Q := sg_iast (E := (eM l D cI cZ ad)) 19 0 hdg hn rfl rfl hi rfl k
theorem alM_2 (hdg : decode cc pc = .ok (.iaload, 1)) (hn : pc + 1 = pn) (hi : vp_in i 12) (k : sg_G (eM l D cI cZ ad) y cc nL ret d pn lv (.int (z.2 1 i.toNatClampNeg) :: st) z Q) : sg_G (eM l D cI cZ ad) y cc nL ret d pc lv (.int i :: .ref (ad 2) :: st) z Q := sg_iald (E := (eM l D cI cZ ad)) 2 0 hdg hn rfl rfl hi k
theorem asM_2 (hdg : decode cc pc = .ok (.iastore, 1)) (hn : pc + 1 = pn) (hi : vp_in i 12) (k : sg_G (eM l D cI cZ ad) y cc nL ret d pn lv st (sg_w z 1 i x0) Q) : sg_G (eM l D cI cZ ad) y cc nL ret d pc lv (.int x0 :: .int i :: .ref (ad 2) :: st) z Q := sg_iast (E := (eM l D cI cZ ad)) 2 0 hdg hn rfl rfl hi rfl k
theorem alM_20 (hdg : decode cc pc = .ok (.iaload, 1)) (hn : pc + 1 = pn) (hi : vp_in i 214) (k : sg_G (eM l D cI cZ ad) y cc nL ret d pn lv (.int (z.2 19 i.toNatClampNeg) :: st) z Q) : sg_G (eM l D cI cZ ad) y cc nL ret d pc lv (.int i :: .ref (ad 20) :: st) z Q := sg_iald (E := (eM l D cI cZ ad)) 20 0 hdg hn rfl rfl hi k
theorem asM_20 (hdg : decode cc pc = .ok (.iastore, 1)) (hn : pc + 1 = pn) (hi : vp_in i 214) (k : sg_G (eM l D cI cZ ad) y cc nL ret d pn lv st (sg_w z 19 i x0) Q) : sg_G (eM l D cI cZ ad) y cc nL ret d pc lv (.int x0 :: .int i :: .ref (ad 20) :: st) z Q := sg_iast (E := (eM l D cI cZ ad)) 20 0 hdg hn rfl rfl hi rfl k
theorem alM_21 (hdg : decode cc pc = .ok (.baload, 1)) (hn : pc + 1 = pn) (hi : vp_in i 2) (k : sg_G (eM l D cI cZ ad) y cc nL ret d pn lv (.int (z.2 20 i.toNatClampNeg) :: st) z Q) : sg_G (eM l D cI cZ ad) y cc nL ret d pc lv (.int i :: .ref (ad 21) :: st) z Q := sg_zald (E := (eM l D cI cZ ad)) 21 1 hdg hn rfl rfl hi k
theorem asM_21 (hdg : decode cc pc = .ok (.bastore, 1)) (hn : pc + 1 = pn) (hi : vp_in i 2) (k : sg_G (eM l D cI cZ ad) y cc nL ret d pn lv st (sg_w z 20 i (vp_nar .boolean x0)) Q) : sg_G (eM l D cI cZ ad) y cc nL ret d pc lv (.int x0 :: .int i :: .ref (ad 21) :: st) z Q := sg_zast (E := (eM l D cI cZ ad)) 21 1 hdg hn rfl rfl hi rfl k
theorem alM_3 (hdg : decode cc pc = .ok (.iaload, 1)) (hn : pc + 1 = pn) (hi : vp_in i 8) (k : sg_G (eM l D cI cZ ad) y cc nL ret d pn lv (.int (z.2 2 i.toNatClampNeg) :: st) z Q) : sg_G (eM l D cI cZ ad) y cc nL ret d pc lv (.int i :: .ref (ad 3) :: st) z Q := sg_iald (E := (eM l D cI cZ ad)) 3 0 hdg hn rfl rfl hi k
theorem asM_3 (hdg : decode cc pc = .ok (.iastore, 1)) (hn : pc + 1 = pn) (hi : vp_in i 8) (k : sg_G (eM l D cI cZ ad) y cc nL ret d pn lv st (sg_w z 2 i x0) Q) : sg_G (eM l D cI cZ ad) y cc nL ret d pc lv (.int x0 :: .int i :: .ref (ad 3) :: st) z Q := sg_iast (E := (eM l D cI cZ ad)) 3 0 hdg hn rfl rfl hi rfl k
theorem alM_4 (hdg : decode cc pc = .ok (.iaload, 1)) (hn : pc + 1 = pn) (hi : vp_in i 8) (k : sg_G (eM l D cI cZ ad) y cc nL ret d pn lv (.int (z.2 3 i.toNatClampNeg) :: st) z Q) : sg_G (eM l D cI cZ ad) y cc nL ret d pc lv (.int i :: .ref (ad 4) :: st) z Q := sg_iald (E := (eM l D cI cZ ad)) 4 0 hdg hn rfl rfl hi k
theorem asM_4 (hdg : decode cc pc = .ok (.iastore, 1)) (hn : pc + 1 = pn) (hi : vp_in i 8) (k : sg_G (eM l D cI cZ ad) y cc nL ret d pn lv st (sg_w z 3 i x0) Q) : sg_G (eM l D cI cZ ad) y cc nL ret d pc lv (.int x0 :: .int i :: .ref (ad 4) :: st) z Q := sg_iast (E := (eM l D cI cZ ad)) 4 0 hdg hn rfl rfl hi rfl k
theorem alM_5 (hdg : decode cc pc = .ok (.iaload, 1)) (hn : pc + 1 = pn) (hi : vp_in i 8) (k : sg_G (eM l D cI cZ ad) y cc nL ret d pn lv (.int (z.2 4 i.toNatClampNeg) :: st) z Q) : sg_G (eM l D cI cZ ad) y cc nL ret d pc lv (.int i :: .ref (ad 5) :: st) z Q := sg_iald (E := (eM l D cI cZ ad)) 5 0 hdg hn rfl rfl hi k
theorem asM_5 (hdg : decode cc pc = .ok (.iastore, 1)) (hn : pc + 1 = pn) (hi : vp_in i 8) (k : sg_G (eM l D cI cZ ad) y cc nL ret d pn lv st (sg_w z 4 i x0) Q) : sg_G (eM l D cI cZ ad) y cc nL ret d pc lv (.int x0 :: .int i :: .ref (ad 5) :: st) z Q := sg_iast (E := (eM l D cI cZ ad)) 5 0 hdg hn rfl rfl hi rfl k
theorem alM_6 (hdg : decode cc pc = .ok (.iaload, 1)) (hn : pc + 1 = pn) (hi : vp_in i 106) (k : sg_G (eM l D cI cZ ad) y cc nL ret d pn lv (.int (z.2 5 i.toNatClampNeg) :: st) z Q) : sg_G (eM l D cI cZ ad) y cc nL ret d pc lv (.int i :: .ref (ad 6) :: st) z Q := sg_iald (E := (eM l D cI cZ ad)) 6 0 hdg hn rfl rfl hi k
theorem asM_6 (hdg : decode cc pc = .ok (.iastore, 1)) (hn : pc + 1 = pn) (hi : vp_in i 106) (k : sg_G (eM l D cI cZ ad) y cc nL ret d pn lv st (sg_w z 5 i x0) Q) : sg_G (eM l D cI cZ ad) y cc nL ret d pc lv (.int x0 :: .int i :: .ref (ad 6) :: st) z Q := sg_iast (E := (eM l D cI cZ ad)) 6 0 hdg hn rfl rfl hi rfl k
theorem alM_7 (hdg : decode cc pc = .ok (.iaload, 1)) (hn : pc + 1 = pn) (hi : vp_in i 240) (k : sg_G (eM l D cI cZ ad) y cc nL ret d pn lv (.int (z.2 6 i.toNatClampNeg) :: st) z Q) : sg_G (eM l D cI cZ ad) y cc nL ret d pc lv (.int i :: .ref (ad 7) :: st) z Q := sg_iald (E := (eM l D cI cZ ad)) 7 0 hdg hn rfl rfl hi k
theorem asM_7 (hdg : decode cc pc = .ok (.iastore, 1)) (hn : pc + 1 = pn) (hi : vp_in i 240) (k : sg_G (eM l D cI cZ ad) y cc nL ret d pn lv st (sg_w z 6 i x0) Q) : sg_G (eM l D cI cZ ad) y cc nL ret d pc lv (.int x0 :: .int i :: .ref (ad 7) :: st) z Q := sg_iast (E := (eM l D cI cZ ad)) 7 0 hdg hn rfl rfl hi rfl k
theorem alM_8 (hdg : decode cc pc = .ok (.iaload, 1)) (hn : pc + 1 = pn) (hi : vp_in i 20) (k : sg_G (eM l D cI cZ ad) y cc nL ret d pn lv (.int (z.2 7 i.toNatClampNeg) :: st) z Q) : sg_G (eM l D cI cZ ad) y cc nL ret d pc lv (.int i :: .ref (ad 8) :: st) z Q := sg_iald (E := (eM l D cI cZ ad)) 8 0 hdg hn rfl rfl hi k
theorem asM_8 (hdg : decode cc pc = .ok (.iastore, 1)) (hn : pc + 1 = pn) (hi : vp_in i 20) (k : sg_G (eM l D cI cZ ad) y cc nL ret d pn lv st (sg_w z 7 i x0) Q) : sg_G (eM l D cI cZ ad) y cc nL ret d pc lv (.int x0 :: .int i :: .ref (ad 8) :: st) z Q := sg_iast (E := (eM l D cI cZ ad)) 8 0 hdg hn rfl rfl hi rfl k
theorem alM_9 (hdg : decode cc pc = .ok (.iaload, 1)) (hn : pc + 1 = pn) (hi : vp_in i 12) (k : sg_G (eM l D cI cZ ad) y cc nL ret d pn lv (.int (z.2 8 i.toNatClampNeg) :: st) z Q) : sg_G (eM l D cI cZ ad) y cc nL ret d pc lv (.int i :: .ref (ad 9) :: st) z Q := sg_iald (E := (eM l D cI cZ ad)) 9 0 hdg hn rfl rfl hi k
theorem asM_9 (hdg : decode cc pc = .ok (.iastore, 1)) (hn : pc + 1 = pn) (hi : vp_in i 12) (k : sg_G (eM l D cI cZ ad) y cc nL ret d pn lv st (sg_w z 8 i x0) Q) : sg_G (eM l D cI cZ ad) y cc nL ret d pc lv (.int x0 :: .int i :: .ref (ad 9) :: st) z Q := sg_iast (E := (eM l D cI cZ ad)) 9 0 hdg hn rfl rfl hi rfl k
end SGW
end
section
def gC_Reader_append (a1 : Int32) (z : sg_M) : Option (sg_M) := if (240 : Int32) ≤ (z.1 1) then (some z) else (if sg_in (z.1 1) 240 = true then sg_let (sg_w z 5 (z.1 1) a1) fun z1 => sg_let (sg_s z1 1 ((z1.1 1) + (1 : Int32))) fun z2 => some z2 else none)
def gC_feed (a1 : Int32) (z : sg_M) : Option (Int32 × sg_M) := if a1 < (0 : Int32) then (some ((-1000000002 : Int32), z)) else (if a1 ≤ (255 : Int32) then (if (z.1 1) < (240 : Int32) then (Option.bind (gC_Reader_append a1 z) fun r1 => some (r1.1 1, r1)) else (some ((-1000000004 : Int32), z))) else (some ((-1000000002 : Int32), z)))
def gC_Road_clear (z : sg_M) : Option (sg_M) := sg_let (sg_s z 6 (0 : Int32)) fun z1 => sg_let (sg_s z1 8 (0 : Int32)) fun z2 => sg_let (sg_s z2 7 (1 : Int32)) fun z3 => sg_let (sg_w z3 1 (0 : Int32) (5 : Int32)) fun z4 => some z4
def gC_Reader_nextLetter_L : Nat → sg_M → Option (Int32 × sg_M)
  | 0, _ => none
  | n + 1, z => if (z.1 1) ≤ (z.1 4) then (if (z.1 1) ≤ (z.1 4) then (some ((-1 : Int32), z)) else (if sg_in (z.1 4) 240 = true then some (z.2 5 (z.1 4).toNatClampNeg, z) else none)) else (if sg_in (z.1 4) 240 = true then if (z.2 5 (z.1 4).toNatClampNeg) = (32 : Int32) then (sg_let (sg_s z 4 ((z.1 4) + (1 : Int32))) fun z1 => gC_Reader_nextLetter_L n z1) else (if (z.1 1) ≤ (z.1 4) then (some ((-1 : Int32), z)) else (if sg_in (z.1 4) 240 = true then some (z.2 5 (z.1 4).toNatClampNeg, z) else none)) else none)
def gC_Reader_nextLetter (n : Nat) (z : sg_M) : Option (Int32 × sg_M) := gC_Reader_nextLetter_L n z
def gC_Reader_fail (a1 : Int32) (a2 : Int32) (z : sg_M) : Option (sg_M) := if (z.1 3) = (0 : Int32) then (sg_let (sg_s z 3 a1) fun z1 => sg_let (sg_s z1 2 a2) fun z2 => some z2) else (some z)
def gC_Reader_isOneTooMany (a1 : Int32) (z : sg_M) : Option (Int32) := if a1 = (114 : Int32) then (if (z.1 6) ≤ (0 : Int32) then (some (0 : Int32)) else (some (1 : Int32))) else (if a1 = (119 : Int32) then (if sg_bool (z.1 5) = true then some (z.1 5) else none) else (if (z.1 8) < (8 : Int32) then (some (0 : Int32)) else (some (1 : Int32))))
def gC_Reader_isFigure (a1 : Int32) : Int32 := if a1 < (48 : Int32) then (0 : Int32) else (if (57 : Int32) < a1 then (0 : Int32) else (1 : Int32))
theorem gC_Reader_isFigure_b {a1 : Int32} : sg_bool (gC_Reader_isFigure a1) = true := by
  unfold gC_Reader_isFigure
  repeat' split
  all_goals first | rfl | exact gM_in_b
def gC_Reader_readNumber_L : Nat → Int32 → Int32 → Int32 → Int32 → sg_M → Option (Int32 × sg_M)
  | 0, _, _, _, _, _ => none
  | n + 1, v1, v2, v3, v4, z => if (z.1 1) ≤ (z.1 4) then (Option.bind ((if (3 : Int32) < ((z.1 4) - v3) then (Option.bind (gC_Reader_fail (2 : Int32) v3 z) fun r4 => some r4) else (if v4 < v1 then (Option.bind (gC_Reader_fail (2 : Int32) v3 z) fun r5 => some r5) else (if v4 ≤ v2 then (some z) else (Option.bind (gC_Reader_fail (2 : Int32) v3 z) fun r6 => some r6)))) : Option (sg_M)) fun t7 => some (v4, t7)) else (if sg_in (z.1 4) 240 = true then if (gC_Reader_isFigure (z.2 5 (z.1 4).toNatClampNeg)) = (0 : Int32) then (Option.bind ((if (3 : Int32) < ((z.1 4) - v3) then (Option.bind (gC_Reader_fail (2 : Int32) v3 z) fun r8 => some r8) else (if v4 < v1 then (Option.bind (gC_Reader_fail (2 : Int32) v3 z) fun r9 => some r9) else (if v4 ≤ v2 then (some z) else (Option.bind (gC_Reader_fail (2 : Int32) v3 z) fun r10 => some r10)))) : Option (sg_M)) fun t11 => some (v4, t11)) else (Option.bind ((if (3 : Int32) ≤ ((z.1 4) - v3) then (some v4) else (if sg_in (z.1 4) 240 = true then sg_let (((v4 * (10 : Int32)) + (z.2 5 (z.1 4).toNatClampNeg)) - (48 : Int32)) fun v4_12 => some v4_12 else none)) : Option (Int32)) fun t13 => sg_let (sg_s z 4 ((z.1 4) + (1 : Int32))) fun z14 => gC_Reader_readNumber_L n v1 v2 v3 t13 z14) else none)
def gC_Reader_readNumber (n : Nat) (a1 : Int32) (a2 : Int32) (z : sg_M) : Option (Int32 × sg_M) := Option.bind (gC_Reader_nextLetter n z) fun r1 => if (gC_Reader_isFigure r1.1) = (0 : Int32) then (Option.bind (gC_Reader_fail (1 : Int32) (r1.2.1 4) r1.2) fun r3 => some ((0 : Int32), r3)) else (sg_let (r1.2.1 4) fun v3_2 => gC_Reader_readNumber_L n a1 a2 v3_2 (0 : Int32) r1.2)
def gC_Reader_readRow_1_3_L : Nat → Int32 → Int32 → Int32 → Int32 → sg_M → Option (Int32 × sg_M)
  | 0, _, _, _, _, _ => none
  | n + 1, v2, v3, v4, v5, z => if v3 ≤ v5 then (some ((0 : Int32), z)) else (if (20 : Int32) ≤ v5 then (some ((0 : Int32), z)) else (Option.bind (gC_Reader_readNumber n (0 : Int32) v4 z) fun r1 => if sg_in v5 20 = true then sg_let (sg_w r1.2 0 v5 r1.1) fun z2 => if (z2.1 3) = (0 : Int32) then (Option.bind (gC_Reader_nextLetter n z2) fun r3 => sg_let ((if r3.1 = (59 : Int32) then (if (v5 + (1 : Int32)) < v2 then (0 : Int32) else (1 : Int32)) else (0 : Int32)) : Int32) fun t4 => sg_let ((if r3.1 = (44 : Int32) then (if v3 ≤ (v5 + (1 : Int32)) then (0 : Int32) else (1 : Int32)) else (0 : Int32)) : Int32) fun t5 => if t4 = (0 : Int32) then (if t5 = (0 : Int32) then (Option.bind (gC_Reader_fail (1 : Int32) (r3.2.1 4) r3.2) fun r8 => some ((0 : Int32), r8)) else (sg_let (sg_s r3.2 4 ((r3.2.1 4) + (1 : Int32))) fun z7 => if t4 = (0 : Int32) then (gC_Reader_readRow_1_3_L n v2 v3 v4 (v5 + (1 : Int32)) z7) else (some (v5 + (1 : Int32), z7)))) else (sg_let (sg_s r3.2 4 ((r3.2.1 4) + (1 : Int32))) fun z6 => if t4 = (0 : Int32) then (gC_Reader_readRow_1_3_L n v2 v3 v4 (v5 + (1 : Int32)) z6) else (some (v5 + (1 : Int32), z6)))) else (some ((0 : Int32), z2)) else none))
def gC_Reader_readRow_1_3 (n : Nat) (a2 : Int32) (a3 : Int32) (a4 : Int32) (z : sg_M) : Option (Int32 × sg_M) := gC_Reader_readRow_1_3_L n a2 a3 a4 (0 : Int32) z
def gC_Reader_readRow_1_4_L : Nat → Int32 → Int32 → Int32 → Int32 → sg_M → Option (Int32 × sg_M)
  | 0, _, _, _, _, _ => none
  | n + 1, v2, v3, v4, v5, z => if v3 ≤ v5 then (some ((0 : Int32), z)) else (if (12 : Int32) ≤ v5 then (some ((0 : Int32), z)) else (Option.bind (gC_Reader_readNumber n (0 : Int32) v4 z) fun r1 => if sg_in v5 12 = true then sg_let (sg_w r1.2 1 v5 r1.1) fun z2 => if (z2.1 3) = (0 : Int32) then (Option.bind (gC_Reader_nextLetter n z2) fun r3 => sg_let ((if r3.1 = (59 : Int32) then (if (v5 + (1 : Int32)) < v2 then (0 : Int32) else (1 : Int32)) else (0 : Int32)) : Int32) fun t4 => sg_let ((if r3.1 = (44 : Int32) then (if v3 ≤ (v5 + (1 : Int32)) then (0 : Int32) else (1 : Int32)) else (0 : Int32)) : Int32) fun t5 => if t4 = (0 : Int32) then (if t5 = (0 : Int32) then (Option.bind (gC_Reader_fail (1 : Int32) (r3.2.1 4) r3.2) fun r8 => some ((0 : Int32), r8)) else (sg_let (sg_s r3.2 4 ((r3.2.1 4) + (1 : Int32))) fun z7 => if t4 = (0 : Int32) then (gC_Reader_readRow_1_4_L n v2 v3 v4 (v5 + (1 : Int32)) z7) else (some (v5 + (1 : Int32), z7)))) else (sg_let (sg_s r3.2 4 ((r3.2.1 4) + (1 : Int32))) fun z6 => if t4 = (0 : Int32) then (gC_Reader_readRow_1_4_L n v2 v3 v4 (v5 + (1 : Int32)) z6) else (some (v5 + (1 : Int32), z6)))) else (some ((0 : Int32), z2)) else none))
def gC_Reader_readRow_1_4 (n : Nat) (a2 : Int32) (a3 : Int32) (a4 : Int32) (z : sg_M) : Option (Int32 × sg_M) := gC_Reader_readRow_1_4_L n a2 a3 a4 (0 : Int32) z
def gC_Reader_readCart (n : Nat) (z : sg_M) : Option (sg_M) := sg_let (z.1 8) fun v1_1 => if v1_1 < (8 : Int32) then (Option.bind (gC_Reader_readNumber n (0 : Int32) (3 : Int32) z) fun r2 => if sg_in v1_1 8 = true then sg_let (sg_w r2.2 2 v1_1 r2.1) fun z3 => Option.bind (gC_Reader_readNumber n (1 : Int32) (60 : Int32) z3) fun r4 => if sg_in v1_1 8 = true then sg_let (sg_w r4.2 3 v1_1 r4.1) fun z5 => Option.bind (gC_Reader_readNumber n (0 : Int32) (9 : Int32) z5) fun r6 => if sg_in v1_1 8 = true then sg_let (sg_w r6.2 4 v1_1 r6.1) fun z7 => Option.bind (gC_Reader_nextLetter n z7) fun r8 => if r8.1 = (59 : Int32) then (sg_let (sg_s r8.2 4 ((r8.2.1 4) + (1 : Int32))) fun z9 => sg_let (sg_s z9 8 ((z9.1 8) + (1 : Int32))) fun z10 => some z10) else (Option.bind (gC_Reader_fail (1 : Int32) (r8.2.1 4) r8.2) fun r11 => some r11) else none else none else none) else (some z)
def gC_Reader_readRest (n : Nat) (a1 : Int32) (z : sg_M) : Option (sg_M) := if a1 = (114 : Int32) then (Option.bind (gC_Reader_readRow_1_3 n (2 : Int32) (20 : Int32) (60 : Int32) z) fun r5 => sg_let (sg_s r5.2 6 r5.1) fun z6 => some z6) else (if a1 = (119 : Int32) then (Option.bind (gC_Reader_readRow_1_4 n (1 : Int32) (12 : Int32) (30 : Int32) z) fun r2 => sg_let (sg_s r2.2 7 r2.1) fun z3 => sg_let (sg_s z3 5 (1 : Int32)) fun z4 => some z4) else (Option.bind (gC_Reader_readCart n z) fun r1 => some r1))
def gC_Reader_readClause (n : Nat) (z : sg_M) : Option (sg_M) := Option.bind (gC_Reader_nextLetter n z) fun r1 => if r1.1 = (114 : Int32) then (Option.bind (gC_Reader_isOneTooMany r1.1 r1.2) fun r2 => if r2 = (0 : Int32) then (sg_let (sg_s r1.2 4 ((r1.2.1 4) + (1 : Int32))) fun z3 => Option.bind (gC_Reader_readRest n r1.1 z3) fun r4 => some r4) else (Option.bind (gC_Reader_fail (3 : Int32) (r1.2.1 4) r1.2) fun r5 => some r5)) else (if (r1.2.1 6) = (0 : Int32) then (Option.bind (gC_Reader_fail (1 : Int32) (r1.2.1 4) r1.2) fun r6 => some r6) else (if r1.1 = (119 : Int32) then (Option.bind (gC_Reader_isOneTooMany r1.1 r1.2) fun r7 => if r7 = (0 : Int32) then (sg_let (sg_s r1.2 4 ((r1.2.1 4) + (1 : Int32))) fun z8 => Option.bind (gC_Reader_readRest n r1.1 z8) fun r9 => some r9) else (Option.bind (gC_Reader_fail (3 : Int32) (r1.2.1 4) r1.2) fun r10 => some r10)) else (if r1.1 = (99 : Int32) then (Option.bind (gC_Reader_isOneTooMany r1.1 r1.2) fun r11 => if r11 = (0 : Int32) then (sg_let (sg_s r1.2 4 ((r1.2.1 4) + (1 : Int32))) fun z12 => Option.bind (gC_Reader_readRest n r1.1 z12) fun r13 => some r13) else (Option.bind (gC_Reader_fail (3 : Int32) (r1.2.1 4) r1.2) fun r14 => some r14)) else (Option.bind (gC_Reader_fail (1 : Int32) (r1.2.1 4) r1.2) fun r15 => some r15))))
def gC_Reader_readText_L : Nat → Int32 → sg_M → Option (Int32 × sg_M)
  | 0, _, _ => none
  | n + 1, v1, z => if (240 : Int32) ≤ v1 then (some (z.1 3, z)) else (if (z.1 3) = (0 : Int32) then (Option.bind (gC_Reader_nextLetter n z) fun r6 => if r6.1 = (-1 : Int32) then (some (r6.2.1 3, r6.2)) else (Option.bind (gC_Reader_readClause n r6.2) fun r7 => gC_Reader_readText_L n (v1 + (1 : Int32)) r7)) else (some (z.1 3, z)))
def gC_Reader_readText (n : Nat) (z : sg_M) : Option (Int32 × sg_M) := Option.bind (gC_Road_clear z) fun r1 => sg_let (sg_s r1 3 (0 : Int32)) fun z2 => sg_let (sg_s z2 2 (-1 : Int32)) fun z3 => sg_let (sg_s z3 4 (0 : Int32)) fun z4 => sg_let (sg_s z4 5 (0 : Int32)) fun z5 => gC_Reader_readText_L n (0 : Int32) z5
def gC_Road_become (z : sg_M) : Option (sg_M) := sg_let (sg_s z 9 (z.1 6)) fun z1 => sg_let (sg_s z1 10 (z1.1 7)) fun z2 => sg_let (sg_s z2 11 (z2.1 8)) fun z3 => sg_let (sg_cp z3 0 6 (0 : Int32) (0 : Int32) (20 : Int32)) fun z4 => sg_let (sg_cp z4 1 7 (0 : Int32) (0 : Int32) (12 : Int32)) fun z5 => sg_let (sg_cp z5 2 8 (0 : Int32) (0 : Int32) (8 : Int32)) fun z6 => sg_let (sg_cp z6 3 9 (0 : Int32) (0 : Int32) (8 : Int32)) fun z7 => sg_let (sg_cp z7 4 10 (0 : Int32) (0 : Int32) (8 : Int32)) fun z8 => some z8
def gC_Arrays_fill_16_L : Nat → Int32 → Int32 → Int32 → sg_M → Option (sg_M)
  | 0, _, _, _, _ => none
  | n + 1, v1, v2, v3, z => if v3 ≤ v2 then (some z) else (if sg_in v2 20 = true then sg_let (sg_w z 11 v2 v1) fun z1 => gC_Arrays_fill_16_L n v1 (v2 + (1 : Int32)) v3 z1 else none)
def gC_Arrays_fill_16 (n : Nat) (a1 : Int32) (z : sg_M) : Option (sg_M) := gC_Arrays_fill_16_L n a1 (0 : Int32) (20 : Int32) z
def gC_Arrays_fill_17_L : Nat → Int32 → Int32 → Int32 → sg_M → Option (sg_M)
  | 0, _, _, _, _ => none
  | n + 1, v1, v2, v3, z => if v3 ≤ v2 then (some z) else (if sg_in v2 20 = true then sg_let (sg_w z 12 v2 v1) fun z1 => gC_Arrays_fill_17_L n v1 (v2 + (1 : Int32)) v3 z1 else none)
def gC_Arrays_fill_17 (n : Nat) (a1 : Int32) (z : sg_M) : Option (sg_M) := gC_Arrays_fill_17_L n a1 (0 : Int32) (20 : Int32) z
def gC_Arrays_fill_18_L : Nat → Int32 → Int32 → Int32 → sg_M → Option (sg_M)
  | 0, _, _, _, _ => none
  | n + 1, v1, v2, v3, z => if v3 ≤ v2 then (some z) else (if sg_in v2 20 = true then sg_let (sg_w z 13 v2 v1) fun z1 => gC_Arrays_fill_18_L n v1 (v2 + (1 : Int32)) v3 z1 else none)
def gC_Arrays_fill_18 (n : Nat) (a1 : Int32) (z : sg_M) : Option (sg_M) := gC_Arrays_fill_18_L n a1 (0 : Int32) (20 : Int32) z
def gC_Arrays_fill_19_L : Nat → Int32 → Int32 → Int32 → sg_M → Option (sg_M)
  | 0, _, _, _, _ => none
  | n + 1, v1, v2, v3, z => if v3 ≤ v2 then (some z) else (if sg_in v2 20 = true then sg_let (sg_w z 14 v2 v1) fun z1 => gC_Arrays_fill_19_L n v1 (v2 + (1 : Int32)) v3 z1 else none)
def gC_Arrays_fill_19 (n : Nat) (a1 : Int32) (z : sg_M) : Option (sg_M) := gC_Arrays_fill_19_L n a1 (0 : Int32) (20 : Int32) z
def gC_Arrays_fill_21_L : Nat → Int32 → Int32 → Int32 → sg_M → Option (sg_M)
  | 0, _, _, _, _ => none
  | n + 1, v1, v2, v3, z => if v3 ≤ v2 then (some z) else (if sg_in v2 8 = true then sg_let (sg_w z 16 v2 v1) fun z1 => gC_Arrays_fill_21_L n v1 (v2 + (1 : Int32)) v3 z1 else none)
def gC_Arrays_fill_21 (n : Nat) (a1 : Int32) (z : sg_M) : Option (sg_M) := gC_Arrays_fill_21_L n a1 (0 : Int32) (8 : Int32) z
def gC_Arrays_fill_22_L : Nat → Int32 → Int32 → Int32 → sg_M → Option (sg_M)
  | 0, _, _, _, _ => none
  | n + 1, v1, v2, v3, z => if v3 ≤ v2 then (some z) else (if sg_in v2 8 = true then sg_let (sg_w z 17 v2 v1) fun z1 => gC_Arrays_fill_22_L n v1 (v2 + (1 : Int32)) v3 z1 else none)
def gC_Arrays_fill_22 (n : Nat) (a1 : Int32) (z : sg_M) : Option (sg_M) := gC_Arrays_fill_22_L n a1 (0 : Int32) (8 : Int32) z
def gC_State_begin (n : Nat) (z : sg_M) : Option (sg_M) := sg_let (sg_s z 12 (0 : Int32)) fun z1 => sg_let (sg_s z1 13 (0 : Int32)) fun z2 => Option.bind (gC_Arrays_fill_16 n (0 : Int32) z2) fun r3 => Option.bind (gC_Arrays_fill_17 n (-1 : Int32) r3) fun r4 => Option.bind (gC_Arrays_fill_18 n (-1 : Int32) r4) fun r5 => Option.bind (gC_Arrays_fill_19 n (0 : Int32) r5) fun r6 => sg_let (sg_cp r6 9 15 (0 : Int32) (0 : Int32) (8 : Int32)) fun z7 => Option.bind (gC_Arrays_fill_21 n (-1 : Int32) z7) fun r8 => Option.bind (gC_Arrays_fill_22 n (0 : Int32) r8) fun r9 => some r9
def gC_Arrays_fill_43_L : Nat → Int32 → Int32 → Int32 → sg_M → Option (sg_M)
  | 0, _, _, _, _ => none
  | n + 1, v1, v2, v3, z => if v3 ≤ v2 then (some z) else (if sg_in v2 2 = true then sg_let (sg_w z 28 v2 v1) fun z1 => gC_Arrays_fill_43_L n v1 (v2 + (1 : Int32)) v3 z1 else none)
def gC_Arrays_fill_43 (n : Nat) (a1 : Int32) (z : sg_M) : Option (sg_M) := gC_Arrays_fill_43_L n a1 (0 : Int32) (2 : Int32) z
def gC_Memory_forgetAll_L : Nat → Int32 → sg_M → Option (sg_M)
  | 0, _, _ => none
  | n + 1, v1, z => if (2 : Int32) ≤ v1 then (some z) else (if sg_in v1 2 = true then sg_let (sg_w z 27 v1 (vp_nar .boolean (0 : Int32))) fun z3 => gC_Memory_forgetAll_L n (v1 + (1 : Int32)) z3 else none)
def gC_Memory_forgetAll (n : Nat) (z : sg_M) : Option (sg_M) := sg_let (sg_s z 24 (0 : Int32)) fun z1 => Option.bind (gC_Arrays_fill_43 n (0 : Int32) z1) fun r2 => gC_Memory_forgetAll_L n (0 : Int32) r2
def gC_road (n : Nat) (z : sg_M) : Option (Int32 × sg_M) := Option.bind (gC_Reader_readText n z) fun r1 => sg_let (sg_s r1.2 1 (0 : Int32)) fun z2 => if r1.1 = (0 : Int32) then (Option.bind (gC_Road_become z2) fun r3 => Option.bind (gC_State_begin n r3) fun r4 => sg_let (sg_s r4 19 (0 : Int32)) fun z5 => sg_let (sg_s z5 20 (0 : Int32)) fun z6 => Option.bind (gC_Memory_forgetAll n z6) fun r7 => some (r7.1 9, r7)) else (some ((-10 : Int32) - r1.1, z2))
def gC_fault (z : sg_M) : Int32 := z.1 2
def gC_State_hasTown (a1 : Int32) (z : sg_M) : Option (Int32) := if sg_in a1 20 = true then if (z.2 12 a1.toNatClampNeg) = (-1 : Int32) then (some (0 : Int32)) else (some (1 : Int32)) else none
def gC_Survey_folkOfAll_L : Nat → Int32 → Int32 → sg_M → Option (Int32)
  | 0, _, _, _ => none
  | n + 1, v1, v2, z => if (z.1 9) ≤ v2 then (some v1) else (Option.bind (gC_State_hasTown v2 z) fun r1 => Option.bind ((if r1 = (0 : Int32) then (some v1) else (if sg_in v2 20 = true then sg_let (v1 + (z.2 14 v2.toNatClampNeg)) fun v1_2 => some v1_2 else none)) : Option (Int32)) fun t3 => gC_Survey_folkOfAll_L n t3 (v2 + (1 : Int32)) z)
def gC_Survey_folkOfAll (n : Nat) (z : sg_M) : Option (Int32) := gC_Survey_folkOfAll_L n (0 : Int32) (0 : Int32) z
def gC_State_folkAt (a1 : Int32) (z : sg_M) : Option (Int32) := Option.bind (gC_State_hasTown a1 z) fun r1 => if r1 = (0 : Int32) then (some (-1 : Int32)) else (if sg_in a1 20 = true then some (z.2 14 a1.toNatClampNeg) else none)
def gC_Survey_biggest_L : Nat → Int32 → Int32 → Int32 → sg_M → Option (Int32)
  | 0, _, _, _, _ => none
  | n + 1, v1, v2, v3, z => if (z.1 9) ≤ v3 then (some v1) else (Option.bind (gC_State_folkAt v3 z) fun r1 => Option.bind ((if r1 ≤ v2 then (some (v1, v2)) else (if sg_in v3 20 = true then sg_let (z.2 14 v3.toNatClampNeg) fun v2_2 => some (v3, v2_2) else none)) : Option (Int32 × Int32)) fun t3 => gC_Survey_biggest_L n t3.1 t3.2 (v3 + (1 : Int32)) z)
def gC_Survey_biggest (n : Nat) (z : sg_M) : Option (Int32) := gC_Survey_biggest_L n (-1 : Int32) (-1 : Int32) (0 : Int32) z
def gC_Survey_longestWay_L : Nat → Int32 → Int32 → Int32 → sg_M → Option (Int32)
  | 0, _, _, _, _ => none
  | n + 1, v1, v2, v3, z => if (z.1 9) ≤ v3 then (some v1) else (Option.bind (gC_State_hasTown v3 z) fun r1 => sg_let ((if r1 = (0 : Int32) then (v2 + (1 : Int32)) else (0 : Int32)) : Int32) fun t2 => sg_let (sg_max v1 t2) fun v1_3 => gC_Survey_longestWay_L n v1_3 t2 (v3 + (1 : Int32)) z)
def gC_Survey_longestWay (n : Nat) (z : sg_M) : Option (Int32) := gC_Survey_longestWay_L n (0 : Int32) (0 : Int32) (0 : Int32) z
def gC_Survey_distanceWith_L : Nat → Int32 → Int32 → Int32 → sg_M → Option (Int32)
  | 0, _, _, _, _ => none
  | n + 1, v1, v3, v4, z => if (z.1 9) ≤ v4 then (some v3) else (Option.bind (gC_State_hasTown v4 z) fun r2 => Option.bind ((if r2 = (0 : Int32) then (some v3) else (if v3 = (-1 : Int32) then (sg_let (sg_abs (v1 - v4)) fun v3_3 => some v3_3) else (if v3 ≤ (sg_abs (v1 - v4)) then (some v3) else (sg_let (sg_abs (v1 - v4)) fun v3_4 => some v3_4)))) : Option (Int32)) fun t5 => gC_Survey_distanceWith_L n v1 t5 (v4 + (1 : Int32)) z)
def gC_Survey_distanceWith (n : Nat) (a1 : Int32) (a2 : Int32) (z : sg_M) : Option (Int32) := sg_let ((if a2 = (-1 : Int32) then (-1 : Int32) else (sg_abs (a1 - a2))) : Int32) fun t1 => gC_Survey_distanceWith_L n a1 t1 (0 : Int32) z
def gC_Survey_farthest_L : Nat → Int32 → Int32 → sg_M → Option (Int32)
  | 0, _, _, _ => none
  | n + 1, v1, v2, z => if (z.1 9) ≤ v2 then (some v1) else (Option.bind (gC_Survey_distanceWith n v2 (-1 : Int32) z) fun r1 => sg_let (sg_max v1 r1) fun v1_2 => gC_Survey_farthest_L n v1_2 (v2 + (1 : Int32)) z)
def gC_Survey_farthest (n : Nat) (z : sg_M) : Option (Int32) := gC_Survey_farthest_L n (-1 : Int32) (0 : Int32) z
def gC_Arrays_fill_26_L : Nat → Int32 → Int32 → Int32 → sg_M → Option (sg_M)
  | 0, _, _, _, _ => none
  | n + 1, v1, v2, v3, z => if v3 ≤ v2 then (some z) else (if sg_in v2 20 = true then sg_let (sg_w z 18 v2 v1) fun z1 => gC_Arrays_fill_26_L n v1 (v2 + (1 : Int32)) v3 z1 else none)
def gC_Arrays_fill_26 (n : Nat) (a1 : Int32) (z : sg_M) : Option (sg_M) := gC_Arrays_fill_26_L n a1 (0 : Int32) (20 : Int32) z
def gC_Road_weatherOn (a1 : Int32) (z : sg_M) : Option (Int32) := if (z.1 9) = (0 : Int32) then (some (0 : Int32)) else (if (z.1 10) ≤ (0 : Int32) then (some (0 : Int32)) else (if (0 : Int32) ≤ a1 then (if (z.1 10) = 0 then none else if sg_in (sg_rem a1 (z.1 10)) 12 = true then some (z.2 7 (sg_rem a1 (z.1 10)).toNatClampNeg) else none) else (some (0 : Int32))))
def gC_Kingdom_wetBehind_L : Nat → Int32 → Int32 → Int32 → sg_M → Option (Int32)
  | 0, _, _, _, _ => none
  | n + 1, v1, v2, v3, z => if v1 ≤ v3 then (Option.bind (gC_Road_weatherOn ((z.1 12) + v1) z) fun r2 => some (r2 + v2)) else (sg_let (v2 / (2 : Int32)) fun v2_3 => gC_Kingdom_wetBehind_L n v1 v2_3 (v3 + (1 : Int32)) z)
def gC_Kingdom_wetBehind (n : Nat) (a1 : Int32) (z : sg_M) : Option (Int32) := sg_let (z.1 13) fun v2_1 => gC_Kingdom_wetBehind_L n a1 v2_1 (0 : Int32) z
def gC_Kingdom_groundFor (a1 : Int32) (a2 : Int32) (a3 : Int32) (z : sg_M) : Option (Int32) := if sg_in a1 8 = true then sg_let ((if (z.2 8 a1.toNatClampNeg) = (2 : Int32) then (0 : Int32) else a3) : Int32) fun t1 => if sg_in a2 20 = true then if sg_in a2 20 = true then sg_let (((z.2 6 a2.toNatClampNeg) + t1) - (z.2 11 a2.toNatClampNeg)) fun v5_2 => if (0 : Int32) ≤ v5_2 then (some v5_2) else (some (0 : Int32)) else none else none else none
def gC_Kingdom_weightOf (a1 : Int32) (a2 : Int32) (z : sg_M) : Option (Int32) := if sg_in a1 8 = true then if (z.2 8 a1.toNatClampNeg) = (1 : Int32) then (some (a2 / (2 : Int32))) else (if sg_in a1 8 = true then if (z.2 8 a1.toNatClampNeg) = (3 : Int32) then (if sg_in a1 8 = true then Option.bind ((if (20 : Int32) ≤ (z.2 17 a1.toNatClampNeg) then (some (20 : Int32)) else (if sg_in a1 8 = true then some (z.2 17 a1.toNatClampNeg) else none)) : Option (Int32)) fun t1 => some (a2 + t1) else none) else (some a2) else none) else none
def gC_Kingdom_sinkOf (a1 : Int32) (a2 : Int32) (a3 : Int32) (a4 : Int32) (z : sg_M) : Option (Int32) := Option.bind (gC_Kingdom_groundFor a1 a2 a3 z) fun r1 => Option.bind (gC_Kingdom_weightOf a1 a4 z) fun r2 => some (r1 + r2)
def gC_Kingdom_stopOf_L : Nat → Int32 → Int32 → Int32 → Int32 → sg_M → Option (Int32)
  | 0, _, _, _, _, _ => none
  | n + 1, v1, v2, v3, v4, z => if (z.1 9) ≤ v4 then (some (-1 : Int32)) else (Option.bind (gC_Kingdom_sinkOf v1 v4 v2 v3 z) fun r1 => if r1 < (60 : Int32) then (gC_Kingdom_stopOf_L n v1 v2 v3 (v4 + (1 : Int32)) z) else (some v4))
def gC_Kingdom_stopOf (n : Nat) (a1 : Int32) (a2 : Int32) (a3 : Int32) (z : sg_M) : Option (Int32) := gC_Kingdom_stopOf_L n a1 a2 a3 (0 : Int32) z
def gC_Kingdom_stopBehind (n : Nat) (a1 : Int32) (a2 : Int32) (z : sg_M) : Option (Int32) := Option.bind (gC_Kingdom_wetBehind n a2 z) fun r1 => if sg_in a1 8 = true then Option.bind (gC_Kingdom_stopOf n a1 r1 (z.2 15 a1.toNatClampNeg) z) fun r2 => some r2 else none
def gC_Road_hasCell (a1 : Int32) (z : sg_M) : Int32 := if a1 < (0 : Int32) then (0 : Int32) else (if (z.1 9) ≤ a1 then (0 : Int32) else (1 : Int32))
theorem gC_Road_hasCell_b {a1 : Int32} {z : sg_M} : sg_bool (gC_Road_hasCell a1 z) = true := by
  unfold gC_Road_hasCell
  repeat' split
  all_goals first | rfl | exact gM_in_b
def gC_Trials_stopper_LL : Nat → Nat → Int32 → Int32 → Int32 → sg_M → Option (Int32 × sg_M)
  | 0, _, _, _, _, _ => none
  | n + 1, k, v1, v2, v3, z => if k = 10 then (if (z.1 11) ≤ v1 then (gC_Trials_stopper_LL n 64 (-1 : Int32) (0 : Int32) (0 : Int32) z) else (Option.bind (gC_Kingdom_stopBehind n v1 (0 : Int32) z) fun r2 => Option.bind ((if (gC_Road_hasCell r2 z) = (0 : Int32) then (some z) else (if sg_in r2 20 = true then if sg_in r2 20 = true then sg_let (sg_w z 18 r2 ((z.2 18 r2.toNatClampNeg) + (1 : Int32))) fun z3 => some z3 else none else none)) : Option (sg_M)) fun t4 => gC_Trials_stopper_LL n 10 (v1 + (1 : Int32)) (0 : Int32) (0 : Int32) t4)) else (if k = 64 then (if (z.1 9) ≤ v3 then (some (v1, z)) else (if sg_in v3 20 = true then Option.bind ((if (z.2 18 v3.toNatClampNeg) ≤ v2 then (some (v1, v2)) else (if sg_in v3 20 = true then sg_let (z.2 18 v3.toNatClampNeg) fun v2_5 => some (v3, v2_5) else none)) : Option (Int32 × Int32)) fun t6 => gC_Trials_stopper_LL n 64 t6.1 t6.2 (v3 + (1 : Int32)) z else none)) else none)
def gC_Trials_stopper (n : Nat) (z : sg_M) : Option (Int32 × sg_M) := Option.bind (gC_Arrays_fill_26 n (0 : Int32) z) fun r1 => gC_Trials_stopper_LL n 10 (0 : Int32) (0 : Int32) (0 : Int32) r1
def gC_State_isStuck (a1 : Int32) (z : sg_M) : Option (Int32) := if sg_in a1 8 = true then if (z.2 16 a1.toNatClampNeg) = (-1 : Int32) then (some (0 : Int32)) else (some (1 : Int32)) else none
def gC_Survey_stuckSet_L : Nat → Int32 → Int32 → sg_M → Option (Int32)
  | 0, _, _, _ => none
  | n + 1, v1, v2, z => if (z.1 11) ≤ v2 then (some v1) else (Option.bind (gC_State_isStuck v2 z) fun r1 => Option.bind ((if r1 = (0 : Int32) then (some v1) else (sg_let (v1 ||| (sg_shl (1 : Int32) v2)) fun v1_2 => some v1_2)) : Option (Int32)) fun t3 => gC_Survey_stuckSet_L n t3 (v2 + (1 : Int32)) z)
def gC_Survey_stuckSet (n : Nat) (z : sg_M) : Option (Int32) := gC_Survey_stuckSet_L n (0 : Int32) (0 : Int32) z
def gC_Survey_townSet_L : Nat → Int32 → Int32 → sg_M → Option (Int32)
  | 0, _, _, _ => none
  | n + 1, v1, v2, z => if (z.1 9) ≤ v2 then (some v1) else (Option.bind (gC_State_hasTown v2 z) fun r1 => Option.bind ((if r1 = (0 : Int32) then (some v1) else (sg_let (v1 ||| (sg_shl (1 : Int32) v2)) fun v1_2 => some v1_2)) : Option (Int32)) fun t3 => gC_Survey_townSet_L n t3 (v2 + (1 : Int32)) z)
def gC_Survey_townSet (n : Nat) (z : sg_M) : Option (Int32) := gC_Survey_townSet_L n (0 : Int32) (0 : Int32) z
def gC_told (n : Nat) (a1 : Int32) (z : sg_M) : Option (Int32 × sg_M) := if a1 = (0 : Int32) then (some (z.1 9, z)) else if a1 = (1 : Int32) then (some (z.1 11, z)) else if a1 = (2 : Int32) then (some (z.1 1, z)) else if a1 = (3 : Int32) then (some (z.1 12, z)) else if a1 = (4 : Int32) then (Option.bind (gC_Kingdom_wetBehind n (0 : Int32) z) fun r1 => some (r1, z)) else if a1 = (5 : Int32) then (some (z.1 13, z)) else if a1 = (6 : Int32) then (Option.bind (gC_Survey_townSet n z) fun r2 => some (r2, z)) else if a1 = (7 : Int32) then (Option.bind (gC_Survey_stuckSet n z) fun r3 => some (r3, z)) else if a1 = (8 : Int32) then (Option.bind (gC_Trials_stopper n z) fun r4 => some (r4.1, r4.2)) else if a1 = (9 : Int32) then (Option.bind (gC_Survey_farthest n z) fun r5 => some (r5, z)) else if a1 = (10 : Int32) then (Option.bind (gC_Survey_longestWay n z) fun r6 => some (r6, z)) else if a1 = (11 : Int32) then (Option.bind (gC_Survey_biggest n z) fun r7 => some (r7, z)) else if a1 = (12 : Int32) then (Option.bind (gC_Survey_folkOfAll n z) fun r8 => some (r8, z)) else if a1 = (13 : Int32) then (some (z.1 19, z)) else if a1 = (14 : Int32) then (some (z.1 20, z)) else if a1 = (15 : Int32) then (some (z.1 24, z)) else (some ((-1000000002 : Int32), z))
def gC_cell (a1 : Int32) (a2 : Int32) (z : sg_M) : Option (Int32) := if (gC_Road_hasCell a1 z) = (0 : Int32) then (some (-1000000001 : Int32)) else (if a2 = (0 : Int32) then (if sg_in a1 20 = true then some (z.2 6 a1.toNatClampNeg) else none) else if a2 = (1 : Int32) then (if sg_in a1 20 = true then some (z.2 11 a1.toNatClampNeg) else none) else if a2 = (2 : Int32) then (if sg_in a1 20 = true then some (z.2 12 a1.toNatClampNeg) else none) else if a2 = (3 : Int32) then (if sg_in a1 20 = true then some (z.2 13 a1.toNatClampNeg) else none) else if a2 = (4 : Int32) then (Option.bind (gC_State_folkAt a1 z) fun r1 => some r1) else (some (-1000000002 : Int32)))
def gC_Road_hasCart (a1 : Int32) (z : sg_M) : Int32 := if a1 < (0 : Int32) then (0 : Int32) else (if (z.1 11) ≤ a1 then (0 : Int32) else (1 : Int32))
theorem gC_Road_hasCart_b {a1 : Int32} {z : sg_M} : sg_bool (gC_Road_hasCart a1 z) = true := by
  unfold gC_Road_hasCart
  repeat' split
  all_goals first | rfl | exact gM_in_b
def gC_Survey_mayorOf_L : Nat → Int32 → Int32 → sg_M → Option (Int32)
  | 0, _, _, _ => none
  | n + 1, v1, v2, z => if (z.1 9) ≤ v2 then (some (-1 : Int32)) else (if sg_in v2 20 = true then if (z.2 13 v2.toNatClampNeg) = v1 then (some v2) else (gC_Survey_mayorOf_L n v1 (v2 + (1 : Int32)) z) else none)
def gC_Survey_mayorOf (n : Nat) (a1 : Int32) (z : sg_M) : Option (Int32) := gC_Survey_mayorOf_L n a1 (0 : Int32) z
def gC_cart (n : Nat) (a1 : Int32) (a2 : Int32) (z : sg_M) : Option (Int32) := if (gC_Road_hasCart a1 z) = (0 : Int32) then (some (-1000000001 : Int32)) else (if a2 = (0 : Int32) then (if sg_in a1 8 = true then some (z.2 8 a1.toNatClampNeg) else none) else if a2 = (1 : Int32) then (if sg_in a1 8 = true then some (z.2 15 a1.toNatClampNeg) else none) else if a2 = (2 : Int32) then (if sg_in a1 8 = true then some (z.2 10 a1.toNatClampNeg) else none) else if a2 = (3 : Int32) then (if sg_in a1 8 = true then some (z.2 16 a1.toNatClampNeg) else none) else if a2 = (4 : Int32) then (if sg_in a1 8 = true then some (z.2 17 a1.toNatClampNeg) else none) else if a2 = (5 : Int32) then (Option.bind (gC_Survey_mayorOf n a1 z) fun r1 => some r1) else (some (-1000000002 : Int32)))
def gC_sink (n : Nat) (a1 : Int32) (a2 : Int32) (z : sg_M) : Option (Int32) := if (gC_Road_hasCart a1 z) = (0 : Int32) then (some (-1000000001 : Int32)) else (if (gC_Road_hasCell a2 z) = (0 : Int32) then (some (-1000000001 : Int32)) else (Option.bind (gC_Kingdom_wetBehind n (0 : Int32) z) fun r1 => if sg_in a1 8 = true then Option.bind (gC_Kingdom_sinkOf a1 a2 r1 (z.2 15 a1.toNatClampNeg) z) fun r2 => some r2 else none))
def gC_State_copyTo (a2 : Int32) (z : sg_M) : Option (sg_M) := if a2 < (0 : Int32) then (some z) else (if a2 ≤ ((1908 : Int32) - (106 : Int32)) then (sg_let ((a2 + (2 : Int32)) + (80 : Int32)) fun v3_1 => if sg_in a2 1908 = true then sg_let (sg_w z 26 a2 (z.1 12)) fun z2 => if sg_in (a2 + (1 : Int32)) 1908 = true then sg_let (sg_w z2 26 (a2 + (1 : Int32)) (z2.1 13)) fun z3 => if sg_cpin (0 : Int32) (a2 + (2 : Int32)) (20 : Int32) 20 1908 = true then sg_let (sg_cp z3 11 26 (0 : Int32) (a2 + (2 : Int32)) (20 : Int32)) fun z4 => if sg_cpin (0 : Int32) ((a2 + (2 : Int32)) + (20 : Int32)) (20 : Int32) 20 1908 = true then sg_let (sg_cp z4 12 26 (0 : Int32) ((a2 + (2 : Int32)) + (20 : Int32)) (20 : Int32)) fun z5 => if sg_cpin (0 : Int32) ((a2 + (2 : Int32)) + (40 : Int32)) (20 : Int32) 20 1908 = true then sg_let (sg_cp z5 13 26 (0 : Int32) ((a2 + (2 : Int32)) + (40 : Int32)) (20 : Int32)) fun z6 => if sg_cpin (0 : Int32) ((a2 + (2 : Int32)) + (60 : Int32)) (20 : Int32) 20 1908 = true then sg_let (sg_cp z6 14 26 (0 : Int32) ((a2 + (2 : Int32)) + (60 : Int32)) (20 : Int32)) fun z7 => if sg_cpin (0 : Int32) v3_1 (8 : Int32) 8 1908 = true then sg_let (sg_cp z7 15 26 (0 : Int32) v3_1 (8 : Int32)) fun z8 => if sg_cpin (0 : Int32) (v3_1 + (8 : Int32)) (8 : Int32) 8 1908 = true then sg_let (sg_cp z8 16 26 (0 : Int32) (v3_1 + (8 : Int32)) (8 : Int32)) fun z9 => if sg_cpin (0 : Int32) (v3_1 + (16 : Int32)) (8 : Int32) 8 1908 = true then sg_let (sg_cp z9 17 26 (0 : Int32) (v3_1 + (16 : Int32)) (8 : Int32)) fun z10 => some z10 else none else none else none else none else none else none else none else none else none) else (some z))
def gC_Memory_remember (z : sg_M) : Option (sg_M) := Option.bind (gC_State_copyTo ((z.1 25) * (106 : Int32)) z) fun r1 => sg_let (sg_s r1 25 (sg_rem ((r1.1 25) + (1 : Int32)) (16 : Int32))) fun z2 => sg_let (sg_s z2 24 (sg_min (16 : Int32) ((z2.1 24) + (1 : Int32)))) fun z3 => some z3
def gC_Kingdom_settle (a1 : Int32) (a2 : Int32) (z : sg_M) : Option (sg_M) := if sg_in a1 8 = true then sg_let (sg_w z 16 a1 a2) fun z1 => if sg_in a1 8 = true then if sg_in a1 8 = true then sg_let (sg_w z1 17 a1 ((z1.2 17 a1.toNatClampNeg) + (1 : Int32))) fun z2 => Option.bind (gC_State_hasTown a2 z2) fun r3 => Option.bind ((if r3 = (0 : Int32) then (if sg_in a1 8 = true then if sg_in a2 20 = true then sg_let (sg_w z2 12 a2 (z2.2 10 a1.toNatClampNeg)) fun z4 => if sg_in a2 20 = true then sg_let (sg_w z4 14 a2 (0 : Int32)) fun z5 => some z5 else none else none else none) else (some z2)) : Option (sg_M)) fun t6 => if sg_in a2 20 = true then Option.bind ((if (t6.2 13 a2.toNatClampNeg) = (-1 : Int32) then (if sg_in a2 20 = true then sg_let (sg_w t6 13 a2 a1) fun z7 => some z7 else none) else (some t6)) : Option (sg_M)) fun t8 => if sg_in a2 20 = true then if sg_in a2 20 = true then sg_let (sg_w t8 14 a2 (sg_min (9999 : Int32) ((t8.2 14 a2.toNatClampNeg) + (1 : Int32)))) fun z9 => some z9 else none else none else none else none else none else none
def gC_Kingdom_driveOut (n : Nat) (a1 : Int32) (z : sg_M) : Option (Int32 × sg_M) := Option.bind (gC_Kingdom_stopBehind n a1 (0 : Int32) z) fun r1 => Option.bind ((if r1 = (-1 : Int32) then (some z) else (Option.bind (gC_Kingdom_settle a1 r1 z) fun r2 => some r2)) : Option (sg_M)) fun t3 => some (r1, t3)
def gC_drive (n : Nat) (a1 : Int32) (z : sg_M) : Option (Int32 × sg_M) := if (gC_Road_hasCart a1 z) = (0 : Int32) then (some ((-1000000001 : Int32), z)) else (Option.bind (gC_State_isStuck a1 z) fun r1 => if r1 = (0 : Int32) then (Option.bind (gC_Memory_remember z) fun r2 => Option.bind (gC_Kingdom_driveOut n a1 r2) fun r3 => some (r3.1, r3.2)) else (some ((-1000000003 : Int32), z)))
def gC_Kingdom_pullOut (a1 : Int32) (z : sg_M) : Option (Int32 × sg_M) := if sg_in a1 8 = true then sg_let (z.2 16 a1.toNatClampNeg) fun v2_1 => if sg_in a1 8 = true then sg_let (sg_w z 16 a1 (-1 : Int32)) fun z2 => Option.bind ((if (gC_Road_hasCell v2_1 z2) = (0 : Int32) then (some z2) else (Option.bind (gC_State_hasTown v2_1 z2) fun r3 => if r3 = (0 : Int32) then (some z2) else (if sg_in v2_1 20 = true then if sg_in v2_1 20 = true then sg_let (sg_w z2 14 v2_1 (sg_max (0 : Int32) ((z2.2 14 v2_1.toNatClampNeg) - (1 : Int32)))) fun z4 => if sg_in v2_1 20 = true then if (z4.2 13 v2_1.toNatClampNeg) = a1 then (if sg_in v2_1 20 = true then sg_let (sg_w z4 13 v2_1 (-1 : Int32)) fun z5 => some z5 else none) else (some z4) else none else none else none))) : Option (sg_M)) fun t6 => some (v2_1, t6) else none else none
def gC_pull (a1 : Int32) (z : sg_M) : Option (Int32 × sg_M) := if (gC_Road_hasCart a1 z) = (0 : Int32) then (some ((-1000000001 : Int32), z)) else (Option.bind (gC_State_isStuck a1 z) fun r1 => if r1 = (0 : Int32) then (some ((-1000000003 : Int32), z)) else (Option.bind (gC_Memory_remember z) fun r2 => Option.bind (gC_Kingdom_pullOut a1 r2) fun r3 => some (r3.1, r3.2)))
def gC_refusalOfDays (a1 : Int32) (z : sg_M) : Int32 := if a1 < (1 : Int32) then (-1000000002 : Int32) else (if a1 ≤ (60 : Int32) then (if (z.1 9) = (0 : Int32) then (-1000000003 : Int32) else (if (z.1 12) ≤ (9000 : Int32) then (0 : Int32) else (-1000000004 : Int32))) else (-1000000002 : Int32))
def gC_Kingdom_passDay (z : sg_M) : Option (sg_M) := sg_let (sg_s z 13 ((z.1 13) / (2 : Int32))) fun z1 => sg_let (sg_s z1 12 ((z1.1 12) + (1 : Int32))) fun z2 => some z2
def gC_day_L : Nat → Int32 → Int32 → sg_M → Option (Int32 × sg_M)
  | 0, _, _, _ => none
  | n + 1, v1, v3, z => if v1 ≤ v3 then (some (z.1 12, z)) else (Option.bind (gC_Kingdom_passDay z) fun r3 => gC_day_L n v1 (v3 + (1 : Int32)) r3)
def gC_day (n : Nat) (a1 : Int32) (z : sg_M) : Option (Int32 × sg_M) := sg_let (gC_refusalOfDays a1 z) fun v2_1 => if v2_1 = (0 : Int32) then (Option.bind (gC_Memory_remember z) fun r2 => gC_day_L n a1 (0 : Int32) r2) else (some (v2_1, z))
def gC_Kingdom_layGravel (a1 : Int32) (a2 : Int32) (z : sg_M) : Option (sg_M) := if sg_in a1 20 = true then if sg_in a1 20 = true then sg_let (sg_w z 11 a1 (sg_max (0 : Int32) (sg_min (60 : Int32) ((z.2 11 a1.toNatClampNeg) + a2)))) fun z1 => some z1 else none else none
def gC_lay (a1 : Int32) (a2 : Int32) (z : sg_M) : Option (Int32 × sg_M) := if (gC_Road_hasCell a1 z) = (0 : Int32) then (some ((-1000000001 : Int32), z)) else (if a2 < (-60 : Int32) then (some ((-1000000002 : Int32), z)) else (if a2 ≤ (60 : Int32) then (Option.bind (gC_Memory_remember z) fun r1 => Option.bind (gC_Kingdom_layGravel a1 a2 r1) fun r2 => if sg_in a1 20 = true then some (r2.2 11 a1.toNatClampNeg, r2) else none) else (some ((-1000000002 : Int32), z))))
def gC_load (a1 : Int32) (a2 : Int32) (z : sg_M) : Option (Int32 × sg_M) := if (gC_Road_hasCart a1 z) = (0 : Int32) then (some ((-1000000001 : Int32), z)) else (if a2 < (1 : Int32) then (some ((-1000000002 : Int32), z)) else (if a2 ≤ (60 : Int32) then (Option.bind (gC_Memory_remember z) fun r1 => if sg_in a1 8 = true then sg_let (r1.2 15 a1.toNatClampNeg) fun v3_2 => if sg_in a1 8 = true then sg_let (sg_w r1 15 a1 a2) fun z3 => some (v3_2, z3) else none else none) else (some ((-1000000002 : Int32), z))))
def gC_storm (a1 : Int32) (z : sg_M) : Option (Int32 × sg_M) := if a1 < (0 : Int32) then (some ((-1000000002 : Int32), z)) else (if a1 ≤ (60 : Int32) then (if (z.1 9) = (0 : Int32) then (some ((-1000000003 : Int32), z)) else (Option.bind (gC_Memory_remember z) fun r1 => sg_let (r1.1 13) fun v2_2 => sg_let (sg_s r1 13 a1) fun z3 => some (v2_2, z3))) else (some ((-1000000002 : Int32), z)))
def gC_State_clearTown (a1 : Int32) (z : sg_M) : Option (sg_M) := if sg_in a1 20 = true then sg_let (sg_w z 12 a1 (-1 : Int32)) fun z1 => if sg_in a1 20 = true then sg_let (sg_w z1 13 a1 (-1 : Int32)) fun z2 => if sg_in a1 20 = true then sg_let (sg_w z2 14 a1 (0 : Int32)) fun z3 => some z3 else none else none else none
def gC_raze (a1 : Int32) (z : sg_M) : Option (Int32 × sg_M) := if (gC_Road_hasCell a1 z) = (0 : Int32) then (some ((-1000000001 : Int32), z)) else (Option.bind (gC_State_hasTown a1 z) fun r1 => if r1 = (0 : Int32) then (some ((-1000000003 : Int32), z)) else (Option.bind (gC_Memory_remember z) fun r2 => if sg_in a1 20 = true then sg_let (r2.2 14 a1.toNatClampNeg) fun v2_3 => Option.bind (gC_State_clearTown a1 r2) fun r4 => some (v2_3, r4) else none))
def gC_drawOf (a1 : Int32) (z : sg_M) : Option (Int32 × sg_M) := sg_let (sg_s z 0 ((((((z.1 0).toInt64) * (1103515245 : Int64)) + (12345 : Int64)) &&& (2147483647 : Int64)).toInt32)) fun z1 => if (1 : Int32) ≤ a1 then (if a1 = 0 then none else some (sg_rem ((z1.1 0) / (65536 : Int32)) a1, z1)) else (some ((0 : Int32), z1))
def gC_doByDraw (n : Nat) (z : sg_M) : Option (sg_M) := Option.bind (gC_drawOf (5 : Int32) z) fun r1 => if r1.1 = (0 : Int32) then (Option.bind (gC_drawOf (31 : Int32) r1.2) fun r27 => sg_let (sg_s r27.2 13 r27.1) fun z28 => some z28) else (if r1.1 = (1 : Int32) then (if (r1.2.1 11) ≤ (0 : Int32) then (if r1.1 = (3 : Int32) then (Option.bind (gC_drawOf (r1.2.1 9) r1.2) fun r2 => Option.bind (gC_drawOf (10 : Int32) r2.2) fun r3 => Option.bind (gC_Kingdom_layGravel r2.1 r3.1 r3.2) fun r4 => some r4) else (some r1.2)) else (Option.bind (gC_drawOf (r1.2.1 11) r1.2) fun r5 => Option.bind ((if r1.1 = (1 : Int32) then (Option.bind (gC_State_isStuck r5.1 r5.2) fun r8 => if r8 = (0 : Int32) then (Option.bind (gC_Kingdom_driveOut n r5.1 r5.2) fun r11 => some r11.2) else (if r1.1 = (2 : Int32) then (Option.bind (gC_State_isStuck r5.1 r5.2) fun r9 => if r9 = (0 : Int32) then (some r5.2) else (Option.bind (gC_Kingdom_pullOut r5.1 r5.2) fun r10 => some r10.2)) else (some r5.2))) else (if r1.1 = (2 : Int32) then (Option.bind (gC_State_isStuck r5.1 r5.2) fun r6 => if r6 = (0 : Int32) then (some r5.2) else (Option.bind (gC_Kingdom_pullOut r5.1 r5.2) fun r7 => some r7.2)) else (some r5.2))) : Option (sg_M)) fun t12 => some t12)) else (if r1.1 = (2 : Int32) then (if (r1.2.1 11) ≤ (0 : Int32) then (if r1.1 = (3 : Int32) then (Option.bind (gC_drawOf (r1.2.1 9) r1.2) fun r16 => Option.bind (gC_drawOf (10 : Int32) r16.2) fun r17 => Option.bind (gC_Kingdom_layGravel r16.1 r17.1 r17.2) fun r18 => some r18) else (some r1.2)) else (Option.bind (gC_drawOf (r1.2.1 11) r1.2) fun r19 => Option.bind ((if r1.1 = (1 : Int32) then (Option.bind (gC_State_isStuck r19.1 r19.2) fun r22 => if r22 = (0 : Int32) then (Option.bind (gC_Kingdom_driveOut n r19.1 r19.2) fun r25 => some r25.2) else (if r1.1 = (2 : Int32) then (Option.bind (gC_State_isStuck r19.1 r19.2) fun r23 => if r23 = (0 : Int32) then (some r19.2) else (Option.bind (gC_Kingdom_pullOut r19.1 r19.2) fun r24 => some r24.2)) else (some r19.2))) else (if r1.1 = (2 : Int32) then (Option.bind (gC_State_isStuck r19.1 r19.2) fun r20 => if r20 = (0 : Int32) then (some r19.2) else (Option.bind (gC_Kingdom_pullOut r19.1 r19.2) fun r21 => some r21.2)) else (some r19.2))) : Option (sg_M)) fun t26 => some t26)) else (if r1.1 = (3 : Int32) then (Option.bind (gC_drawOf (r1.2.1 9) r1.2) fun r13 => Option.bind (gC_drawOf (10 : Int32) r13.2) fun r14 => Option.bind (gC_Kingdom_layGravel r13.1 r14.1 r14.2) fun r15 => some r15) else (some r1.2))))
def gC_drift_L : Nat → Int32 → Int32 → sg_M → Option (Int32 × sg_M)
  | 0, _, _, _ => none
  | n + 1, v1, v3, z => if v1 ≤ v3 then (Option.bind (gC_Survey_folkOfAll n z) fun r3 => some (r3, z)) else (Option.bind (gC_doByDraw n z) fun r4 => Option.bind (gC_Kingdom_passDay r4) fun r5 => gC_drift_L n v1 (v3 + (1 : Int32)) r5)
def gC_drift (n : Nat) (a1 : Int32) (z : sg_M) : Option (Int32 × sg_M) := sg_let (gC_refusalOfDays a1 z) fun v2_1 => if v2_1 = (0 : Int32) then (Option.bind (gC_Memory_remember z) fun r2 => gC_drift_L n a1 (0 : Int32) r2) else (some (v2_1, z))
def gC_State_copyFrom (a2 : Int32) (z : sg_M) : Option (sg_M) := if a2 < (0 : Int32) then (some z) else (if a2 ≤ ((1908 : Int32) - (106 : Int32)) then (sg_let ((a2 + (2 : Int32)) + (80 : Int32)) fun v3_1 => if sg_in a2 1908 = true then sg_let (sg_s z 12 (z.2 26 a2.toNatClampNeg)) fun z2 => if sg_in (a2 + (1 : Int32)) 1908 = true then sg_let (sg_s z2 13 (z2.2 26 (a2 + (1 : Int32)).toNatClampNeg)) fun z3 => if sg_cpin (a2 + (2 : Int32)) (0 : Int32) (20 : Int32) 1908 20 = true then sg_let (sg_cp z3 26 11 (a2 + (2 : Int32)) (0 : Int32) (20 : Int32)) fun z4 => if sg_cpin ((a2 + (2 : Int32)) + (20 : Int32)) (0 : Int32) (20 : Int32) 1908 20 = true then sg_let (sg_cp z4 26 12 ((a2 + (2 : Int32)) + (20 : Int32)) (0 : Int32) (20 : Int32)) fun z5 => if sg_cpin ((a2 + (2 : Int32)) + (40 : Int32)) (0 : Int32) (20 : Int32) 1908 20 = true then sg_let (sg_cp z5 26 13 ((a2 + (2 : Int32)) + (40 : Int32)) (0 : Int32) (20 : Int32)) fun z6 => if sg_cpin ((a2 + (2 : Int32)) + (60 : Int32)) (0 : Int32) (20 : Int32) 1908 20 = true then sg_let (sg_cp z6 26 14 ((a2 + (2 : Int32)) + (60 : Int32)) (0 : Int32) (20 : Int32)) fun z7 => if sg_cpin v3_1 (0 : Int32) (8 : Int32) 1908 8 = true then sg_let (sg_cp z7 26 15 v3_1 (0 : Int32) (8 : Int32)) fun z8 => if sg_cpin (v3_1 + (8 : Int32)) (0 : Int32) (8 : Int32) 1908 8 = true then sg_let (sg_cp z8 26 16 (v3_1 + (8 : Int32)) (0 : Int32) (8 : Int32)) fun z9 => if sg_cpin (v3_1 + (16 : Int32)) (0 : Int32) (8 : Int32) 1908 8 = true then sg_let (sg_cp z9 26 17 (v3_1 + (16 : Int32)) (0 : Int32) (8 : Int32)) fun z10 => some z10 else none else none else none else none else none else none else none else none else none) else (some z))
def gC_Memory_takeBack (z : sg_M) : Option (sg_M) := sg_let (sg_s z 25 (sg_rem (((z.1 25) + (16 : Int32)) - (1 : Int32)) (16 : Int32))) fun z1 => sg_let (sg_s z1 24 (sg_max (0 : Int32) ((z1.1 24) - (1 : Int32)))) fun z2 => Option.bind (gC_State_copyFrom ((z2.1 25) * (106 : Int32)) z2) fun r3 => some r3
def gC_undo (z : sg_M) : Option (Int32 × sg_M) := if (z.1 24) = (0 : Int32) then (some ((-1000000003 : Int32), z)) else (Option.bind (gC_Memory_takeBack z) fun r1 => some (r1.1 24, r1))
def gC_stops (n : Nat) (a1 : Int32) (a2 : Int32) (z : sg_M) : Option (Int32) := if (gC_Road_hasCart a1 z) = (0 : Int32) then (some (-1000000001 : Int32)) else (if a2 < (0 : Int32) then (some (-1000000002 : Int32)) else (if a2 ≤ (100 : Int32) then (Option.bind (gC_Kingdom_stopBehind n a1 a2 z) fun r1 => some r1) else (some (-1000000002 : Int32))))
def gC_Trials_soonestAt_L : Nat → Int32 → Int32 → Int32 → sg_M → Option (Int32)
  | 0, _, _, _, _ => none
  | n + 1, v1, v2, v3, z => if (100 : Int32) < v3 then (some (-1 : Int32)) else (Option.bind (gC_Kingdom_stopBehind n v1 v3 z) fun r1 => if r1 = v2 then (some v3) else (gC_Trials_soonestAt_L n v1 v2 (v3 + (1 : Int32)) z))
def gC_Trials_soonestAt (n : Nat) (a1 : Int32) (a2 : Int32) (z : sg_M) : Option (Int32) := gC_Trials_soonestAt_L n a1 a2 (0 : Int32) z
def gC_soonest (n : Nat) (a1 : Int32) (a2 : Int32) (z : sg_M) : Option (Int32) := if (gC_Road_hasCart a1 z) = (0 : Int32) then (some (-1000000001 : Int32)) else (if (gC_Road_hasCell a2 z) = (0 : Int32) then (some (-1000000001 : Int32)) else (Option.bind (gC_Trials_soonestAt n a1 a2 z) fun r1 => some r1))
def gC_Span_clear_27 (z : sg_M) : Option (sg_M) := sg_let (sg_s z 14 (0 : Int32)) fun z1 => sg_let (sg_s z1 15 (-1 : Int32)) fun z2 => sg_let (sg_s z2 16 (-1 : Int32)) fun z3 => some z3
def gC_Span_put_27 (a1 : Int32) (z : sg_M) : Option (sg_M) := sg_let ((if (z.1 14) = (0 : Int32) then (sg_let (sg_s z 15 a1) fun z1 => z1) else z) : sg_M) fun t2 => sg_let (sg_s t2 16 a1) fun z3 => sg_let (sg_s z3 14 ((z3.1 14) + (1 : Int32))) fun z4 => some z4
def gC_Trials_loadsFor_L : Nat → Int32 → Int32 → Int32 → Int32 → sg_M → Option (sg_M)
  | 0, _, _, _, _, _ => none
  | n + 1, v1, v2, v3, v4, z => if (60 : Int32) < v4 then (some z) else (Option.bind (gC_Kingdom_stopOf n v1 v3 v4 z) fun r3 => Option.bind ((if r3 = v2 then (Option.bind (gC_Span_put_27 v4 z) fun r4 => some r4) else (some z)) : Option (sg_M)) fun t5 => gC_Trials_loadsFor_L n v1 v2 v3 (v4 + (1 : Int32)) t5)
def gC_Trials_loadsFor (n : Nat) (a1 : Int32) (a2 : Int32) (z : sg_M) : Option (sg_M) := Option.bind (gC_Kingdom_wetBehind n (0 : Int32) z) fun r1 => Option.bind (gC_Span_clear_27 z) fun r2 => gC_Trials_loadsFor_L n a1 a2 r1 (1 : Int32) r2
def gC_Span_answer_27 (a1 : Int32) (z : sg_M) : Int32 := if a1 = (0 : Int32) then (z.1 14) else (if a1 = (1 : Int32) then (z.1 15) else (z.1 16))
def gC_loads (n : Nat) (a1 : Int32) (a2 : Int32) (a3 : Int32) (z : sg_M) : Option (Int32 × sg_M) := if (gC_Road_hasCart a1 z) = (0 : Int32) then (some ((-1000000001 : Int32), z)) else (if (gC_Road_hasCell a2 z) = (0 : Int32) then (some ((-1000000001 : Int32), z)) else (if a3 < (0 : Int32) then (some ((-1000000002 : Int32), z)) else (if a3 ≤ (2 : Int32) then (Option.bind (gC_Trials_loadsFor n a1 a2 z) fun r1 => some (gC_Span_answer_27 a3 r1, r1)) else (some ((-1000000002 : Int32), z)))))
def gC_Trials_needAt (n : Nat) (a1 : Int32) (a2 : Int32) (z : sg_M) : Option (Int32) := Option.bind (gC_Kingdom_wetBehind n (0 : Int32) z) fun r1 => Option.bind (gC_Kingdom_groundFor a1 a2 r1 z) fun r2 => if sg_in a1 8 = true then Option.bind (gC_Kingdom_weightOf a1 (z.2 15 a1.toNatClampNeg) z) fun r3 => if (60 : Int32) ≤ (r2 + r3) then (if (60 : Int32) ≤ r3 then (some (-1 : Int32)) else (some (((r2 + r3) - (60 : Int32)) + (1 : Int32)))) else (some (0 : Int32)) else none
def gC_Trials_greatestNeedAt_L : Nat → Int32 → Int32 → Int32 → Int32 → sg_M → Option (Int32)
  | 0, _, _, _, _, _ => none
  | n + 1, v1, v2, v3, v4, z => if (z.1 11) ≤ v4 then (some v3) else (if ((sg_shr v1 v4) &&& (1 : Int32)) = (0 : Int32) then (gC_Trials_greatestNeedAt_L n v1 v2 v3 (v4 + (1 : Int32)) z) else (Option.bind (gC_Trials_needAt n v4 v2 z) fun r1 => if r1 = (-1 : Int32) then (some (-1 : Int32)) else (sg_let (sg_max v3 r1) fun v3_2 => gC_Trials_greatestNeedAt_L n v1 v2 v3_2 (v4 + (1 : Int32)) z)))
def gC_Trials_greatestNeedAt (n : Nat) (a1 : Int32) (a2 : Int32) (z : sg_M) : Option (Int32) := gC_Trials_greatestNeedAt_L n a1 a2 (0 : Int32) (0 : Int32) z
def gC_Trials_gravelAhead_L : Nat → Int32 → Int32 → Int32 → Int32 → sg_M → Option (Int32)
  | 0, _, _, _, _, _ => none
  | n + 1, v1, v2, v3, v4, z => if v2 ≤ v4 then (some v3) else (if (z.1 9) ≤ v4 then (some v3) else (Option.bind (gC_Trials_greatestNeedAt n v1 v4 z) fun r1 => if r1 = (-1 : Int32) then (some (-1 : Int32)) else (sg_let (v3 + r1) fun v3_2 => gC_Trials_gravelAhead_L n v1 v2 v3_2 (v4 + (1 : Int32)) z)))
def gC_Trials_gravelAhead (n : Nat) (a1 : Int32) (a2 : Int32) (z : sg_M) : Option (Int32) := gC_Trials_gravelAhead_L n a1 a2 (0 : Int32) (0 : Int32) z
def gC_gravelTo (n : Nat) (a1 : Int32) (a2 : Int32) (z : sg_M) : Option (Int32) := if (gC_Road_hasCart a1 z) = (0 : Int32) then (some (-1000000001 : Int32)) else (if (gC_Road_hasCell a2 z) = (0 : Int32) then (some (-1000000001 : Int32)) else (Option.bind (gC_Trials_gravelAhead n (sg_shl (1 : Int32) a1) a2 z) fun r1 => some r1))
def gC_Road_hasCarts (a1 : Int32) (z : sg_M) : Int32 := if (sg_ushr a1 (z.1 11)) = (0 : Int32) then (1 : Int32) else (0 : Int32)
theorem gC_Road_hasCarts_b {a1 : Int32} {z : sg_M} : sg_bool (gC_Road_hasCarts a1 z) = true := by
  unfold gC_Road_hasCarts
  repeat' split
  all_goals first | rfl | exact gM_in_b
def gC_gravelForAll (n : Nat) (a1 : Int32) (z : sg_M) : Option (Int32) := if (gC_Road_hasCarts a1 z) = (0 : Int32) then (some (-1000000001 : Int32)) else (Option.bind (gC_Trials_gravelAhead n a1 (z.1 9) z) fun r1 => some r1)
def gC_Integer_bitCount (a0 : Int32) : Int32 := sg_let (a0 - ((sg_ushr a0 (1 : Int32)) &&& (1431655765 : Int32))) fun v0_1 => sg_let ((v0_1 &&& (858993459 : Int32)) + ((sg_ushr v0_1 (2 : Int32)) &&& (858993459 : Int32))) fun v0_2 => sg_let ((v0_2 + (sg_ushr v0_2 (4 : Int32))) &&& (252645135 : Int32)) fun v0_3 => sg_let (v0_3 + (sg_ushr v0_3 (8 : Int32))) fun v0_4 => sg_let (v0_4 + (sg_ushr v0_4 (16 : Int32))) fun v0_5 => v0_5 &&& (63 : Int32)
def gC_Orders_sendNext_LL : Nat → Nat → Int32 → Int32 → Int32 → Int32 → Int32 → Int32 → sg_M → Option (sg_M)
  | 0, _, _, _, _, _, _, _, _ => none
  | n + 1, k, v1, v2, v3, v4, v5, v6, z => if k = 0 then (if v2 = (0 : Int32) then (if v4 ≤ (z.1 17) then (some z) else (sg_let (sg_s z 17 v4) fun z1 => sg_let (sg_s z1 18 v5) fun z2 => some z2)) else (if v1 < (5 : Int32) then (gC_Orders_sendNext_LL n 34 v1 v2 v3 v4 v5 (0 : Int32) z) else (if v4 ≤ (z.1 17) then (some z) else (sg_let (sg_s z 17 v4) fun z3 => sg_let (sg_s z3 18 v5) fun z4 => some z4)))) else (if k = 34 then (if (z.1 11) ≤ v6 then (some z) else (Option.bind ((if ((sg_shr v2 v6) &&& (1 : Int32)) = (0 : Int32) then (some z) else (if sg_in ((v1 * (8 : Int32)) + v6) 40 = true then sg_let (z.2 19 ((v1 * (8 : Int32)) + v6).toNatClampNeg) fun v7_5 => sg_let ((if v7_5 = (-1 : Int32) then (0 : Int32) else (sg_shl (1 : Int32) v7_5)) : Int32) fun t6 => sg_let ((if (t6 &&& (v3 ^^^ (-1 : Int32))) = (0 : Int32) then (0 : Int32) else (1 : Int32)) : Int32) fun t7 => Option.bind (gC_Orders_sendNext_LL n 0 (v1 + (1 : Int32)) (v2 &&& ((sg_shl (1 : Int32) v6) ^^^ (-1 : Int32))) (v3 ||| t6) (v4 + t7) (((v5 * (10 : Int32)) + v6) + (1 : Int32)) (0 : Int32) z) fun r8 => some r8 else none)) : Option (sg_M)) fun t9 => gC_Orders_sendNext_LL n 34 v1 v2 v3 v4 v5 (v6 + (1 : Int32)) t9)) else none)
def gC_Orders_sendNext (n : Nat) (a1 : Int32) (a2 : Int32) (a3 : Int32) (a4 : Int32) (a5 : Int32) (z : sg_M) : Option (sg_M) := gC_Orders_sendNext_LL n 0 a1 a2 a3 a4 a5 (0 : Int32) z
def gC_Orders_look_LL : Nat → Nat → Int32 → Int32 → Int32 → Int32 → sg_M → Option (sg_M)
  | 0, _, _, _, _, _, _ => none
  | n + 1, k, v1, v2, v3, v4, z => if k = 2 then (if (5 : Int32) ≤ v3 then (sg_let (sg_s z 17 (-1 : Int32)) fun z1 => sg_let (sg_s z1 18 (0 : Int32)) fun z2 => Option.bind (gC_Orders_sendNext 100 (0 : Int32) v1 v2 (0 : Int32) (0 : Int32) z2) fun r3 => some r3) else (gC_Orders_look_LL n 10 v1 v2 v3 (0 : Int32) z)) else (if k = 10 then (if (z.1 11) ≤ v4 then (gC_Orders_look_LL n 2 v1 v2 (v3 + (1 : Int32)) (0 : Int32) z) else (Option.bind (gC_Kingdom_stopBehind n v4 v3 z) fun r4 => if sg_in ((v3 * (8 : Int32)) + v4) 40 = true then sg_let (sg_w z 19 ((v3 * (8 : Int32)) + v4) r4) fun z5 => gC_Orders_look_LL n 10 v1 v2 v3 (v4 + (1 : Int32)) z5 else none)) else none)
def gC_Orders_look (n : Nat) (a1 : Int32) (a2 : Int32) (z : sg_M) : Option (sg_M) := gC_Orders_look_LL n 2 a1 a2 (0 : Int32) (0 : Int32) z
def gC_order (n : Nat) (a1 : Int32) (a2 : Int32) (z : sg_M) : Option (Int32 × sg_M) := if (gC_Road_hasCarts a1 z) = (0 : Int32) then (some ((-1000000001 : Int32), z)) else (if a2 < (0 : Int32) then (some ((-1000000002 : Int32), z)) else (if a2 ≤ (1 : Int32) then (if (5 : Int32) < (gC_Integer_bitCount a1) then (some ((-1000000003 : Int32), z)) else (Option.bind (gC_Survey_stuckSet n z) fun r1 => if (a1 &&& r1) = (0 : Int32) then (Option.bind (gC_Survey_townSet n z) fun r2 => Option.bind (gC_Orders_look n a1 r2 z) fun r3 => if a2 = (0 : Int32) then (some (r3.1 17, r3)) else (some (r3.1 18, r3))) else (some ((-1000000003 : Int32), z)))) else (some ((-1000000002 : Int32), z))))
def gC_Survey_distancesWith_L : Nat → Int32 → Int32 → Int32 → sg_M → Option (Int32)
  | 0, _, _, _, _ => none
  | n + 1, v1, v2, v3, z => if (z.1 9) ≤ v3 then (some v2) else (Option.bind (gC_Survey_distanceWith n v3 v1 z) fun r1 => sg_let (v2 + r1) fun v2_2 => gC_Survey_distancesWith_L n v1 v2_2 (v3 + (1 : Int32)) z)
def gC_Survey_distancesWith (n : Nat) (a1 : Int32) (z : sg_M) : Option (Int32) := gC_Survey_distancesWith_L n a1 (0 : Int32) (0 : Int32) z
def gC_Survey_bestPlace_L : Nat → Int32 → Int32 → Int32 → sg_M → Option (Int32)
  | 0, _, _, _, _ => none
  | n + 1, v1, v2, v3, z => if (z.1 9) ≤ v3 then (some v1) else (Option.bind (gC_State_hasTown v3 z) fun r1 => Option.bind ((if r1 = (0 : Int32) then (Option.bind (gC_Survey_distancesWith n v3 z) fun r2 => if v1 = (-1 : Int32) then (some (v3, r2)) else (if v2 ≤ r2 then (some (v1, v2)) else (some (v3, r2)))) else (some (v1, v2))) : Option (Int32 × Int32)) fun t3 => gC_Survey_bestPlace_L n t3.1 t3.2 (v3 + (1 : Int32)) z)
def gC_Survey_bestPlace (n : Nat) (z : sg_M) : Option (Int32) := gC_Survey_bestPlace_L n (-1 : Int32) (0 : Int32) (0 : Int32) z
def gC_place (n : Nat) (a1 : Int32) (z : sg_M) : Option (Int32) := if a1 < (0 : Int32) then (some (-1000000002 : Int32)) else (if a1 ≤ (1 : Int32) then (if (z.1 9) = (0 : Int32) then (some (-1000000003 : Int32)) else (Option.bind (gC_Survey_bestPlace n z) fun r1 => if a1 = (0 : Int32) then (some r1) else (if r1 = (-1 : Int32) then (some r1) else (Option.bind (gC_Survey_distancesWith n r1 z) fun r2 => some r2)))) else (some (-1000000002 : Int32)))
def gC_Survey_townsNamed_L : Nat → Int32 → Int32 → Int32 → sg_M → Option (Int32)
  | 0, _, _, _, _ => none
  | n + 1, v1, v2, v3, z => if (z.1 9) ≤ v3 then (some v2) else (if sg_in v3 20 = true then sg_let ((if (z.2 12 v3.toNatClampNeg) = v1 then (v2 + (1 : Int32)) else v2) : Int32) fun t1 => gC_Survey_townsNamed_L n v1 t1 (v3 + (1 : Int32)) z else none)
def gC_Survey_townsNamed (n : Nat) (a1 : Int32) (z : sg_M) : Option (Int32) := gC_Survey_townsNamed_L n a1 (0 : Int32) (0 : Int32) z
def gC_said (n : Nat) (a1 : Int32) (z : sg_M) : Option (Int32) := if a1 < (0 : Int32) then (some (-1000000002 : Int32)) else (if a1 ≤ (9 : Int32) then (Option.bind (gC_Survey_townsNamed n a1 z) fun r1 => some r1) else (some (-1000000002 : Int32)))
def gC_dry_L : Nat → Int32 → Int32 → Int64 → Int32 → sg_M → Option (Int32)
  | 0, _, _, _, _, _ => none
  | n + 1, v1, v2, v3, v5, z => if v1 ≤ v5 then (some v3.toInt32) else (sg_let ((v3 * v2.toInt64) / (100 : Int64)) fun v3_1 => gC_dry_L n v1 v2 v3_1 (v5 + (1 : Int32)) z)
def gC_dry (n : Nat) (a1 : Int32) (a2 : Int32) (z : sg_M) : Option (Int32) := if a1 < (0 : Int32) then (some (-1000000002 : Int32)) else (if (60 : Int32) < a1 then (some (-1000000002 : Int32)) else (if a2 < (0 : Int32) then (some (-1000000002 : Int32)) else (if a2 ≤ (100 : Int32) then (gC_dry_L n a1 a2 (1000000000 : Int64) (0 : Int32) z) else (some (-1000000002 : Int32)))))
def gC_Entries_isFull_30 (z : sg_M) : Int32 := if (z.1 19) < (6 : Int32) then (0 : Int32) else (1 : Int32)
theorem gC_Entries_isFull_30_b {z : sg_M} : sg_bool (gC_Entries_isFull_30 z) = true := by
  unfold gC_Entries_isFull_30
  repeat' split
  all_goals first | rfl | exact gM_in_b
def gC_Entries_append_30 (a1 : Int32) (a2 : Int32) (z : sg_M) : Option (sg_M) := if (gC_Entries_isFull_30 z) = (0 : Int32) then (if sg_in (z.1 19) 6 = true then sg_let (sg_w z 20 (z.1 19) a1) fun z1 => if sg_in (z1.1 19) 6 = true then sg_let (sg_w z1 21 (z1.1 19) a2) fun z2 => sg_let (sg_s z2 19 ((z2.1 19) + (1 : Int32))) fun z3 => some z3 else none else none) else (some z)
def gC_hear (a1 : Int32) (a2 : Int32) (z : sg_M) : Option (Int32 × sg_M) := if (gC_Road_hasCart a1 z) = (0 : Int32) then (some ((-1000000001 : Int32), z)) else (if a2 = (-1 : Int32) then (if (gC_Entries_isFull_30 z) = (0 : Int32) then (Option.bind (gC_Entries_append_30 a1 a2 z) fun r1 => some (r1.1 19, r1)) else (some ((-1000000004 : Int32), z))) else (if (gC_Road_hasCell a2 z) = (0 : Int32) then (some ((-1000000001 : Int32), z)) else (if (gC_Entries_isFull_30 z) = (0 : Int32) then (Option.bind (gC_Entries_append_30 a1 a2 z) fun r2 => some (r2.1 19, r2)) else (some ((-1000000004 : Int32), z)))))
def gC_Span_clear_39 (z : sg_M) : Option (sg_M) := sg_let (sg_s z 21 (0 : Int32)) fun z1 => sg_let (sg_s z1 22 (-1 : Int32)) fun z2 => sg_let (sg_s z2 23 (-1 : Int32)) fun z3 => some z3
def gC_Guesses_isAsHeard_L : Nat → Int32 → Int32 → sg_M → Option (Int32)
  | 0, _, _, _ => none
  | n + 1, v1, v2, z => if (z.1 19) ≤ v2 then (some (1 : Int32)) else (if sg_in v2 6 = true then sg_let (z.2 20 v2.toNatClampNeg) fun v3_1 => if (gC_Road_hasCart v3_1 z) = (0 : Int32) then (gC_Guesses_isAsHeard_L n v1 (v2 + (1 : Int32)) z) else (if sg_in v3_1 8 = true then Option.bind (gC_Kingdom_stopOf n v3_1 v1 (z.2 15 v3_1.toNatClampNeg) z) fun r2 => if sg_in v2 6 = true then if r2 = (z.2 21 v2.toNatClampNeg) then (gC_Guesses_isAsHeard_L n v1 (v2 + (1 : Int32)) z) else (some (0 : Int32)) else none else none) else none)
def gC_Guesses_isAsHeard (n : Nat) (a1 : Int32) (z : sg_M) : Option (Int32) := gC_Guesses_isAsHeard_L n a1 (0 : Int32) z
def gC_Span_put_39 (a1 : Int32) (z : sg_M) : Option (sg_M) := sg_let ((if (z.1 21) = (0 : Int32) then (sg_let (sg_s z 22 a1) fun z1 => z1) else z) : sg_M) fun t2 => sg_let (sg_s t2 23 a1) fun z3 => sg_let (sg_s z3 21 ((z3.1 21) + (1 : Int32))) fun z4 => some z4
def gC_Guesses_fittingRains_L : Nat → Int32 → sg_M → Option (sg_M)
  | 0, _, _ => none
  | n + 1, v1, z => if (60 : Int32) < v1 then (some z) else (Option.bind (gC_Guesses_isAsHeard n v1 z) fun r2 => if sg_in v1 61 = true then sg_let (sg_w z 24 v1 (vp_nar .boolean r2)) fun z3 => if sg_in v1 61 = true then Option.bind ((if (z3.2 24 v1.toNatClampNeg) = (0 : Int32) then (some z3) else (Option.bind (gC_Span_put_39 v1 z3) fun r4 => some r4)) : Option (sg_M)) fun t5 => gC_Guesses_fittingRains_L n (v1 + (1 : Int32)) t5 else none else none)
def gC_Guesses_fittingRains (n : Nat) (z : sg_M) : Option (sg_M) := Option.bind (gC_Span_clear_39 z) fun r1 => gC_Guesses_fittingRains_L n (0 : Int32) r1
def gC_Span_answer_39 (a1 : Int32) (z : sg_M) : Int32 := if a1 = (0 : Int32) then (z.1 21) else (if a1 = (1 : Int32) then (z.1 22) else (z.1 23))
def gC_rains (n : Nat) (a1 : Int32) (z : sg_M) : Option (Int32 × sg_M) := if a1 < (0 : Int32) then (some ((-1000000002 : Int32), z)) else (if a1 ≤ (2 : Int32) then (Option.bind (gC_Guesses_fittingRains n z) fun r1 => some (gC_Span_answer_39 a1 r1, r1)) else (some ((-1000000002 : Int32), z)))
def gC_Arrays_fill_38_L : Nat → Int32 → Int32 → Int32 → sg_M → Option (sg_M)
  | 0, _, _, _, _ => none
  | n + 1, v1, v2, v3, z => if v3 ≤ v2 then (some z) else (if sg_in v2 21 = true then sg_let (sg_w z 25 v2 v1) fun z1 => gC_Arrays_fill_38_L n v1 (v2 + (1 : Int32)) v3 z1 else none)
def gC_Arrays_fill_38 (n : Nat) (a1 : Int32) (z : sg_M) : Option (sg_M) := gC_Arrays_fill_38_L n a1 (0 : Int32) (21 : Int32) z
def gC_Guesses_greatestPart_L : Nat → Int32 → Int32 → Int32 → sg_M → Option (Int32 × sg_M)
  | 0, _, _, _, _ => none
  | n + 1, v1, v2, v3, z => if (60 : Int32) < v3 then (some (v2, z)) else (if sg_in v3 61 = true then Option.bind ((if (z.2 24 v3.toNatClampNeg) = (0 : Int32) then (some (v2, z)) else (if sg_in v1 8 = true then Option.bind (gC_Kingdom_stopOf n v1 v3 (z.2 15 v1.toNatClampNeg) z) fun r2 => sg_let (r2 + (1 : Int32)) fun v4_3 => if sg_in v4_3 21 = true then if sg_in v4_3 21 = true then sg_let (sg_w z 25 v4_3 ((z.2 25 v4_3.toNatClampNeg) + (1 : Int32))) fun z4 => if sg_in v4_3 21 = true then sg_let (sg_max v2 (z4.2 25 v4_3.toNatClampNeg)) fun v2_5 => some (v2_5, z4) else none else none else none else none)) : Option (Int32 × sg_M)) fun t6 => gC_Guesses_greatestPart_L n v1 t6.1 (v3 + (1 : Int32)) t6.2 else none)
def gC_Guesses_greatestPart (n : Nat) (a1 : Int32) (z : sg_M) : Option (Int32 × sg_M) := Option.bind (gC_Arrays_fill_38 n (0 : Int32) z) fun r1 => gC_Guesses_greatestPart_L n a1 (0 : Int32) (0 : Int32) r1
def gC_Guesses_bestToSend_L : Nat → Int32 → Int32 → Int32 → sg_M → Option (Int32 × sg_M)
  | 0, _, _, _, _ => none
  | n + 1, v1, v2, v3, z => if (z.1 11) ≤ v3 then (some (v2, z)) else (Option.bind (gC_Guesses_greatestPart n v3 z) fun r3 => sg_let ((if v1 ≤ r3.1 then ((v1, v2)) else ((r3.1, v3))) : Int32 × Int32) fun t4 => gC_Guesses_bestToSend_L n t4.1 t4.2 (v3 + (1 : Int32)) r3.2)
def gC_Guesses_bestToSend (n : Nat) (z : sg_M) : Option (Int32 × sg_M) := Option.bind (gC_Guesses_fittingRains n z) fun r1 => sg_let (gC_Span_answer_39 (0 : Int32) r1) fun v1_2 => gC_Guesses_bestToSend_L n v1_2 (-1 : Int32) (0 : Int32) r1
def gC_send (n : Nat) (z : sg_M) : Option (Int32 × sg_M) := Option.bind (gC_Guesses_bestToSend n z) fun r1 => some (r1.1, r1.2)
def gC_Entries_isFull_33 (z : sg_M) : Int32 := if (z.1 20) < (15 : Int32) then (0 : Int32) else (1 : Int32)
theorem gC_Entries_isFull_33_b {z : sg_M} : sg_bool (gC_Entries_isFull_33 z) = true := by
  unfold gC_Entries_isFull_33
  repeat' split
  all_goals first | rfl | exact gM_in_b
def gC_Entries_append_33 (a1 : Int32) (a2 : Int32) (z : sg_M) : Option (sg_M) := if (gC_Entries_isFull_33 z) = (0 : Int32) then (if sg_in (z.1 20) 15 = true then sg_let (sg_w z 22 (z.1 20) a1) fun z1 => if sg_in (z1.1 20) 15 = true then sg_let (sg_w z1 23 (z1.1 20) a2) fun z2 => sg_let (sg_s z2 20 ((z2.1 20) + (1 : Int32))) fun z3 => some z3 else none else none) else (some z)
def gC_write (a1 : Int32) (a2 : Int32) (z : sg_M) : Option (Int32 × sg_M) := if (gC_Road_hasCell a1 z) = (0 : Int32) then (some ((-1000000001 : Int32), z)) else (if a2 < (-1 : Int32) then (some ((-1000000002 : Int32), z)) else (if a2 ≤ (9999 : Int32) then (if (gC_Entries_isFull_33 z) = (0 : Int32) then (Option.bind (gC_Entries_append_33 a1 a2 z) fun r1 => some (r1.1 20, r1)) else (some ((-1000000004 : Int32), z))) else (some ((-1000000002 : Int32), z))))
def gC_tear (z : sg_M) : Option (Int32 × sg_M) := sg_let ((z.1 19) + (z.1 20)) fun v1_1 => sg_let (sg_s z 19 (0 : Int32)) fun z2 => sg_let (sg_s z2 20 (0 : Int32)) fun z3 => some (v1_1, z3)
def gC_judge_L : Nat → Int32 → sg_M → Option (Int32)
  | 0, _, _ => none
  | n + 1, v1, z => if (z.1 20) ≤ v1 then (some (-1 : Int32)) else (if sg_in v1 15 = true then sg_let (z.2 22 v1.toNatClampNeg) fun v2_1 => if (gC_Road_hasCell v2_1 z) = (0 : Int32) then (gC_judge_L n (v1 + (1 : Int32)) z) else (Option.bind (gC_State_folkAt v2_1 z) fun r2 => if sg_in v1 15 = true then if r2 = (z.2 23 v1.toNatClampNeg) then (gC_judge_L n (v1 + (1 : Int32)) z) else (some v1) else none) else none)
def gC_judge (n : Nat) (z : sg_M) : Option (Int32) := gC_judge_L n (0 : Int32) z
def gC_seed (a1 : Int32) (z : sg_M) : Option (Int32 × sg_M) := if (0 : Int32) ≤ a1 then (sg_let (z.1 0) fun v2_1 => sg_let (sg_s z 0 a1) fun z2 => some (v2_1, z2)) else (some ((-1000000002 : Int32), z))
def gC_Memory_hasRoomFor (a1 : Int32) : Int32 := if a1 < (0 : Int32) then (0 : Int32) else (if (2 : Int32) ≤ a1 then (0 : Int32) else (1 : Int32))
theorem gC_Memory_hasRoomFor_b {a1 : Int32} : sg_bool (gC_Memory_hasRoomFor a1) = true := by
  unfold gC_Memory_hasRoomFor
  repeat' split
  all_goals first | rfl | exact gM_in_b
def gC_Memory_keepImage (a1 : Int32) (a3 : Int32) (z : sg_M) : Option (sg_M) := if (gC_Memory_hasRoomFor a1) = (0 : Int32) then (some z) else (Option.bind (gC_State_copyTo (((16 : Int32) + a1) * (106 : Int32)) z) fun r1 => if sg_in a1 2 = true then sg_let (sg_w r1 28 a1 a3) fun z2 => if sg_in a1 2 = true then sg_let (sg_w z2 27 a1 (vp_nar .boolean (1 : Int32))) fun z3 => some z3 else none else none)
def gC_keep (a1 : Int32) (z : sg_M) : Option (Int32 × sg_M) := if (gC_Memory_hasRoomFor a1) = (0 : Int32) then (some ((-1000000001 : Int32), z)) else (Option.bind (gC_Memory_keepImage a1 (z.1 0) z) fun r1 => sg_let (sg_s r1 24 (0 : Int32)) fun z2 => some ((1 : Int32), z2))
def gC_Memory_hasKept (a1 : Int32) (z : sg_M) : Option (Int32) := if (gC_Memory_hasRoomFor a1) = (0 : Int32) then (some (0 : Int32)) else (if sg_in a1 2 = true then if (z.2 27 a1.toNatClampNeg) = (0 : Int32) then (some (0 : Int32)) else (some (1 : Int32)) else none)
def gC_Memory_fetchImage (a1 : Int32) (z : sg_M) : Option (sg_M) := Option.bind (gC_Memory_hasKept a1 z) fun r1 => if r1 = (0 : Int32) then (some z) else (Option.bind (gC_State_copyFrom (((16 : Int32) + a1) * (106 : Int32)) z) fun r2 => some r2)
def gC_Memory_seedOfImage (a1 : Int32) (z : sg_M) : Option (Int32) := Option.bind (gC_Memory_hasKept a1 z) fun r1 => if r1 = (0 : Int32) then (some (0 : Int32)) else (if sg_in a1 2 = true then some (z.2 28 a1.toNatClampNeg) else none)
def gC_goBack (a1 : Int32) (z : sg_M) : Option (Int32 × sg_M) := if (gC_Memory_hasRoomFor a1) = (0 : Int32) then (some ((-1000000001 : Int32), z)) else (Option.bind (gC_Memory_hasKept a1 z) fun r1 => if r1 = (0 : Int32) then (some ((-1000000003 : Int32), z)) else (Option.bind (gC_Memory_fetchImage a1 z) fun r2 => Option.bind (gC_Memory_seedOfImage a1 r2) fun r3 => sg_let (sg_s r2 0 r3) fun z4 => sg_let (sg_s z4 24 (0 : Int32)) fun z5 => some ((1 : Int32), z5)))
def gM_in (a0 : Int64) (a2 : Int64) (a4 : Int64) : Int32 := if (lg_cmp a0 a2) < (0 : Int32) then (0 : Int32) else (if (0 : Int32) < (lg_cmp a0 a4) then (0 : Int32) else (1 : Int32))
theorem gM_in_b {a0 : Int64} {a2 : Int64} {a4 : Int64} : sg_bool (gM_in a0 a2 a4) = true := by
  unfold gM_in
  repeat' split
  all_goals first | rfl | exact gM_in_b
def gM_feed (a1 : Int32) (z : sg_M) : Option (Int32 × sg_M) := if (gM_in a1.toInt64 (0 : Int64) (255 : Int64)) = (0 : Int32) then (some ((-1000000002 : Int32), z)) else (if (z.1 4) = (240 : Int32) then (some ((-1000000004 : Int32), z)) else (if sg_in (z.1 4) 240 = true then sg_let (sg_w z 6 (z.1 4) a1) fun z1 => sg_let (sg_s z1 4 ((z1.1 4) + (1 : Int32))) fun z2 => some (z2.1 4, z2) else none))
def gM_here_L : Nat → sg_M → Option (Int32 × sg_M)
  | 0, _ => none
  | n + 1, z => if (z.1 4) ≤ (z.1 6) then (if (z.1 4) ≤ (z.1 6) then (some ((-1 : Int32), z)) else (if sg_in (z.1 6) 240 = true then some (z.2 6 (z.1 6).toNatClampNeg, z) else none)) else (if sg_in (z.1 6) 240 = true then if (z.2 6 (z.1 6).toNatClampNeg) = (32 : Int32) then (sg_let (sg_s z 6 ((z.1 6) + (1 : Int32))) fun z1 => gM_here_L n z1) else (if (z.1 4) ≤ (z.1 6) then (some ((-1 : Int32), z)) else (if sg_in (z.1 6) 240 = true then some (z.2 6 (z.1 6).toNatClampNeg, z) else none)) else none)
def gM_here (n : Nat) (z : sg_M) : Option (Int32 × sg_M) := gM_here_L n z
def gM_fails (a1 : Int32) (a2 : Int32) (z : sg_M) : Option (Int32 × sg_M) := sg_let (sg_s z 5 a2) fun z1 => some (a1, z1)
def gM_takeNumber_L : Nat → Int32 → Int32 → sg_M → Option (Int32 × sg_M)
  | 0, _, _, _ => none
  | n + 1, v1, v2, z => if (z.1 4) ≤ (z.1 6) then (if (3 : Int32) < ((z.1 6) - (z.1 8)) then (Option.bind (gM_fails (2 : Int32) (z.1 8) z) fun r5 => some (r5.1, r5.2)) else (if (gM_in ((z.1 7).toInt64) v1.toInt64 v2.toInt64) = (0 : Int32) then (Option.bind (gM_fails (2 : Int32) (z.1 8) z) fun r6 => some (r6.1, r6.2)) else (some ((0 : Int32), z)))) else (if sg_in (z.1 6) 240 = true then if (gM_in ((z.2 6 (z.1 6).toNatClampNeg).toInt64) (48 : Int64) (57 : Int64)) = (0 : Int32) then (if (3 : Int32) < ((z.1 6) - (z.1 8)) then (Option.bind (gM_fails (2 : Int32) (z.1 8) z) fun r7 => some (r7.1, r7.2)) else (if (gM_in ((z.1 7).toInt64) v1.toInt64 v2.toInt64) = (0 : Int32) then (Option.bind (gM_fails (2 : Int32) (z.1 8) z) fun r8 => some (r8.1, r8.2)) else (some ((0 : Int32), z)))) else (Option.bind ((if (z.1 7) ≤ (10000 : Int32) then (if sg_in (z.1 6) 240 = true then some ((((10 : Int32) * (z.1 7)) + (z.2 6 (z.1 6).toNatClampNeg)) - (48 : Int32)) else none) else (some (z.1 7))) : Option (Int32)) fun t9 => sg_let (sg_s z 7 t9) fun z10 => sg_let (sg_s z10 6 ((z10.1 6) + (1 : Int32))) fun z11 => gM_takeNumber_L n v1 v2 z11) else none)
def gM_takeNumber (n : Nat) (a1 : Int32) (a2 : Int32) (z : sg_M) : Option (Int32 × sg_M) := Option.bind (gM_here n z) fun r1 => if (gM_in r1.1.toInt64 (48 : Int64) (57 : Int64)) = (0 : Int32) then (Option.bind (gM_fails (1 : Int32) (r1.2.1 6) r1.2) fun r4 => some (r4.1, r4.2)) else (sg_let (sg_s r1.2 8 (r1.2.1 6)) fun z2 => sg_let (sg_s z2 7 (0 : Int32)) fun z3 => gM_takeNumber_L n a1 a2 z3)
def gM_into_0_8 (n : Nat) (a2 : Int32) (a3 : Int32) (a4 : Int32) (z : sg_M) : Option (Int32 × sg_M) := Option.bind (gM_takeNumber n a3 a4 z) fun r1 => if sg_in a2 20 = true then sg_let (sg_w r1.2 7 a2 (r1.2.1 7)) fun z2 => some (r1.1, z2) else none
def gM_takeRoad_L : Nat → Int32 → sg_M → Option (Int32 × sg_M)
  | 0, _, _ => none
  | n + 1, v1, z => if v1 = (0 : Int32) then (Option.bind (gM_here n z) fun r4 => if r4.1 = (44 : Int32) then (if (r4.2.1 9) = (20 : Int32) then (Option.bind (gM_fails (1 : Int32) (r4.2.1 6) r4.2) fun r9 => some (r9.1, r9.2)) else (sg_let (sg_s r4.2 6 ((r4.2.1 6) + (1 : Int32))) fun z6 => Option.bind (gM_into_0_8 n (z6.1 9) (0 : Int32) (60 : Int32) z6) fun r7 => sg_let (sg_s r7.2 9 ((r7.2.1 9) + (1 : Int32))) fun z8 => gM_takeRoad_L n r7.1 z8)) else (if v1 = (0 : Int32) then (if (r4.2.1 9) = (1 : Int32) then (Option.bind (gM_fails (1 : Int32) (r4.2.1 6) r4.2) fun r5 => some (r5.1, r5.2)) else (some (v1, r4.2))) else (some (v1, r4.2)))) else (if v1 = (0 : Int32) then (if (z.1 9) = (1 : Int32) then (Option.bind (gM_fails (1 : Int32) (z.1 6) z) fun r3 => some (r3.1, r3.2)) else (some (v1, z))) else (some (v1, z)))
def gM_takeRoad (n : Nat) (z : sg_M) : Option (Int32 × sg_M) := Option.bind (gM_into_0_8 n (0 : Int32) (0 : Int32) (60 : Int32) z) fun r1 => sg_let (sg_s r1.2 9 (1 : Int32)) fun z2 => gM_takeRoad_L n r1.1 z2
def gM_into_0_9 (n : Nat) (a2 : Int32) (a3 : Int32) (a4 : Int32) (z : sg_M) : Option (Int32 × sg_M) := Option.bind (gM_takeNumber n a3 a4 z) fun r1 => if sg_in a2 12 = true then sg_let (sg_w r1.2 8 a2 (r1.2.1 7)) fun z2 => some (r1.1, z2) else none
def gM_takeWeather_L : Nat → Int32 → sg_M → Option (Int32 × sg_M)
  | 0, _, _ => none
  | n + 1, v1, z => if v1 = (0 : Int32) then (Option.bind (gM_here n z) fun r3 => if r3.1 = (44 : Int32) then (if (r3.2.1 10) = (12 : Int32) then (Option.bind (gM_fails (1 : Int32) (r3.2.1 6) r3.2) fun r7 => some (r7.1, r7.2)) else (sg_let (sg_s r3.2 6 ((r3.2.1 6) + (1 : Int32))) fun z4 => Option.bind (gM_into_0_9 n (z4.1 10) (0 : Int32) (30 : Int32) z4) fun r5 => sg_let (sg_s r5.2 10 ((r5.2.1 10) + (1 : Int32))) fun z6 => gM_takeWeather_L n r5.1 z6)) else (some (v1, r3.2))) else (some (v1, z))
def gM_takeWeather (n : Nat) (z : sg_M) : Option (Int32 × sg_M) := Option.bind (gM_into_0_9 n (0 : Int32) (0 : Int32) (30 : Int32) z) fun r1 => sg_let (sg_s r1.2 10 (1 : Int32)) fun z2 => gM_takeWeather_L n r1.1 z2
def gM_into_0_10 (n : Nat) (a2 : Int32) (a3 : Int32) (a4 : Int32) (z : sg_M) : Option (Int32 × sg_M) := Option.bind (gM_takeNumber n a3 a4 z) fun r1 => if sg_in a2 8 = true then sg_let (sg_w r1.2 9 a2 (r1.2.1 7)) fun z2 => some (r1.1, z2) else none
def gM_into_0_12 (n : Nat) (a2 : Int32) (a3 : Int32) (a4 : Int32) (z : sg_M) : Option (Int32 × sg_M) := Option.bind (gM_takeNumber n a3 a4 z) fun r1 => if sg_in a2 8 = true then sg_let (sg_w r1.2 11 a2 (r1.2.1 7)) fun z2 => some (r1.1, z2) else none
def gM_into_0_11 (n : Nat) (a2 : Int32) (a3 : Int32) (a4 : Int32) (z : sg_M) : Option (Int32 × sg_M) := Option.bind (gM_takeNumber n a3 a4 z) fun r1 => if sg_in a2 8 = true then sg_let (sg_w r1.2 10 a2 (r1.2.1 7)) fun z2 => some (r1.1, z2) else none
def gM_takeCart (n : Nat) (z : sg_M) : Option (Int32 × sg_M) := sg_let (z.1 11) fun v1_1 => sg_let (sg_s z 11 ((z.1 11) + (1 : Int32))) fun z2 => Option.bind (gM_into_0_10 n v1_1 (0 : Int32) (3 : Int32) z2) fun r3 => Option.bind ((if r3.1 ≤ (0 : Int32) then (Option.bind (gM_into_0_11 n v1_1 (1 : Int32) (60 : Int32) r3.2) fun r4 => some (r4.1, r4.2)) else (some (r3.1, r3.2))) : Option (Int32 × sg_M)) fun t5 => if t5.1 ≤ (0 : Int32) then (Option.bind (gM_into_0_12 n v1_1 (0 : Int32) (9 : Int32) t5.2) fun r6 => some (r6.1, r6.2)) else (some (t5.1, t5.2))
def gM_takeClause (n : Nat) (z : sg_M) : Option (Int32 × sg_M) := Option.bind (gM_here n z) fun r1 => sg_let ((if r1.1 = (114 : Int32) then (0 : Int32) else (if r1.1 = (119 : Int32) then (1 : Int32) else (if r1.1 = (99 : Int32) then (2 : Int32) else (-1 : Int32)))) : Int32) fun t2 => if t2 < (0 : Int32) then (Option.bind (gM_fails (1 : Int32) (r1.2.1 6) r1.2) fun r3 => some (r3.1, r3.2)) else (if t2 ≤ (0 : Int32) then (sg_let ((if t2 = (0 : Int32) then (if (r1.2.1 9) ≤ (0 : Int32) then (0 : Int32) else (1 : Int32)) else (if t2 = (1 : Int32) then (if (r1.2.1 10) ≤ (0 : Int32) then (0 : Int32) else (1 : Int32)) else (if (r1.2.1 11) = (8 : Int32) then (1 : Int32) else (0 : Int32)))) : Int32) fun t4 => if t4 = (0 : Int32) then (sg_let (sg_s r1.2 6 ((r1.2.1 6) + (1 : Int32))) fun z5 => Option.bind ((if t2 = (0 : Int32) then (Option.bind (gM_takeRoad n z5) fun r8 => some (r8.1, r8.2)) else (if t2 = (1 : Int32) then (Option.bind (gM_takeWeather n z5) fun r7 => some (r7.1, r7.2)) else (Option.bind (gM_takeCart n z5) fun r6 => some (r6.1, r6.2)))) : Option (Int32 × sg_M)) fun t9 => if t9.1 = (0 : Int32) then (Option.bind (gM_here n t9.2) fun r11 => if r11.1 = (59 : Int32) then (sg_let (sg_s r11.2 6 ((r11.2.1 6) + (1 : Int32))) fun z12 => some (t9.1, z12)) else (Option.bind (gM_fails (1 : Int32) (r11.2.1 6) r11.2) fun r13 => some (r13.1, r13.2))) else (sg_let (sg_s t9.2 6 ((t9.2.1 6) + (1 : Int32))) fun z10 => some (t9.1, z10))) else (Option.bind (gM_fails (3 : Int32) (r1.2.1 6) r1.2) fun r14 => some (r14.1, r14.2))) else (if (r1.2.1 9) = (0 : Int32) then (Option.bind (gM_fails (1 : Int32) (r1.2.1 6) r1.2) fun r26 => some (r26.1, r26.2)) else (sg_let ((if t2 = (0 : Int32) then (if (r1.2.1 9) ≤ (0 : Int32) then (0 : Int32) else (1 : Int32)) else (if t2 = (1 : Int32) then (if (r1.2.1 10) ≤ (0 : Int32) then (0 : Int32) else (1 : Int32)) else (if (r1.2.1 11) = (8 : Int32) then (1 : Int32) else (0 : Int32)))) : Int32) fun t15 => if t15 = (0 : Int32) then (sg_let (sg_s r1.2 6 ((r1.2.1 6) + (1 : Int32))) fun z16 => Option.bind ((if t2 = (0 : Int32) then (Option.bind (gM_takeRoad n z16) fun r19 => some (r19.1, r19.2)) else (if t2 = (1 : Int32) then (Option.bind (gM_takeWeather n z16) fun r18 => some (r18.1, r18.2)) else (Option.bind (gM_takeCart n z16) fun r17 => some (r17.1, r17.2)))) : Option (Int32 × sg_M)) fun t20 => if t20.1 = (0 : Int32) then (Option.bind (gM_here n t20.2) fun r22 => if r22.1 = (59 : Int32) then (sg_let (sg_s r22.2 6 ((r22.2.1 6) + (1 : Int32))) fun z23 => some (t20.1, z23)) else (Option.bind (gM_fails (1 : Int32) (r22.2.1 6) r22.2) fun r24 => some (r24.1, r24.2))) else (sg_let (sg_s t20.2 6 ((t20.2.1 6) + (1 : Int32))) fun z21 => some (t20.1, z21))) else (Option.bind (gM_fails (3 : Int32) (r1.2.1 6) r1.2) fun r25 => some (r25.1, r25.2)))))
def gM_copyRow_8_1_L : Nat → Int32 → Int32 → sg_M → Option (sg_M)
  | 0, _, _, _ => none
  | n + 1, v2, v3, z => if v2 ≤ v3 then (some z) else (if sg_in v3 20 = true then if sg_in v3 20 = true then sg_let (sg_w z 0 v3 (z.2 7 v3.toNatClampNeg)) fun z1 => gM_copyRow_8_1_L n v2 (v3 + (1 : Int32)) z1 else none else none)
def gM_copyRow_8_1 (n : Nat) (a2 : Int32) (z : sg_M) : Option (sg_M) := gM_copyRow_8_1_L n a2 (0 : Int32) z
def gM_copyRow_9_2_L : Nat → Int32 → Int32 → sg_M → Option (sg_M)
  | 0, _, _, _ => none
  | n + 1, v2, v3, z => if v2 ≤ v3 then (some z) else (if sg_in v3 12 = true then if sg_in v3 12 = true then sg_let (sg_w z 1 v3 (z.2 8 v3.toNatClampNeg)) fun z1 => gM_copyRow_9_2_L n v2 (v3 + (1 : Int32)) z1 else none else none)
def gM_copyRow_9_2 (n : Nat) (a2 : Int32) (z : sg_M) : Option (sg_M) := gM_copyRow_9_2_L n a2 (0 : Int32) z
def gM_copyRow_10_3_L : Nat → Int32 → Int32 → sg_M → Option (sg_M)
  | 0, _, _, _ => none
  | n + 1, v2, v3, z => if v2 ≤ v3 then (some z) else (if sg_in v3 8 = true then if sg_in v3 8 = true then sg_let (sg_w z 2 v3 (z.2 9 v3.toNatClampNeg)) fun z1 => gM_copyRow_10_3_L n v2 (v3 + (1 : Int32)) z1 else none else none)
def gM_copyRow_10_3 (n : Nat) (a2 : Int32) (z : sg_M) : Option (sg_M) := gM_copyRow_10_3_L n a2 (0 : Int32) z
def gM_copyRow_11_4_L : Nat → Int32 → Int32 → sg_M → Option (sg_M)
  | 0, _, _, _ => none
  | n + 1, v2, v3, z => if v2 ≤ v3 then (some z) else (if sg_in v3 8 = true then if sg_in v3 8 = true then sg_let (sg_w z 3 v3 (z.2 10 v3.toNatClampNeg)) fun z1 => gM_copyRow_11_4_L n v2 (v3 + (1 : Int32)) z1 else none else none)
def gM_copyRow_11_4 (n : Nat) (a2 : Int32) (z : sg_M) : Option (sg_M) := gM_copyRow_11_4_L n a2 (0 : Int32) z
def gM_copyRow_12_5_L : Nat → Int32 → Int32 → sg_M → Option (sg_M)
  | 0, _, _, _ => none
  | n + 1, v2, v3, z => if v2 ≤ v3 then (some z) else (if sg_in v3 8 = true then if sg_in v3 8 = true then sg_let (sg_w z 4 v3 (z.2 11 v3.toNatClampNeg)) fun z1 => gM_copyRow_12_5_L n v2 (v3 + (1 : Int32)) z1 else none else none)
def gM_copyRow_12_5 (n : Nat) (a2 : Int32) (z : sg_M) : Option (sg_M) := gM_copyRow_12_5_L n a2 (0 : Int32) z
def gM_takeRead_LL : Nat → Nat → Int32 → sg_M → Option (sg_M)
  | 0, _, _, _ => none
  | n + 1, k, v1, z => if k = 101 then (if (106 : Int32) ≤ v1 then (gM_takeRead_LL n 122 (0 : Int32) z) else (if sg_in v1 106 = true then sg_let (sg_w z 5 v1 (0 : Int32)) fun z9 => gM_takeRead_LL n 101 (v1 + (1 : Int32)) z9 else none)) else (if k = 122 then (if (20 : Int32) ≤ v1 then (gM_takeRead_LL n 156 (0 : Int32) z) else (if sg_in ((20 : Int32) + v1) 106 = true then sg_let (sg_w z 5 ((20 : Int32) + v1) (-1 : Int32)) fun z10 => if sg_in ((40 : Int32) + v1) 106 = true then sg_let (sg_w z10 5 ((40 : Int32) + v1) (-1 : Int32)) fun z11 => gM_takeRead_LL n 122 (v1 + (1 : Int32)) z11 else none else none)) else (if k = 156 then (if (8 : Int32) ≤ v1 then (some z) else (if sg_in ((88 : Int32) + v1) 106 = true then sg_let (sg_w z 5 ((88 : Int32) + v1) (-1 : Int32)) fun z12 => Option.bind ((if (z12.1 2) ≤ v1 then (some (0 : Int32)) else (if sg_in v1 8 = true then some (z12.2 3 v1.toNatClampNeg) else none)) : Option (Int32)) fun t13 => if sg_in ((80 : Int32) + v1) 106 = true then sg_let (sg_w z12 5 ((80 : Int32) + v1) t13) fun z14 => gM_takeRead_LL n 156 (v1 + (1 : Int32)) z14 else none else none)) else none))
def gM_takeRead (n : Nat) (z : sg_M) : Option (sg_M) := sg_let (sg_s z 0 (z.1 9)) fun z1 => sg_let (sg_s z1 1 (z1.1 10)) fun z2 => sg_let (sg_s z2 2 (z2.1 11)) fun z3 => Option.bind (gM_copyRow_8_1 n (z3.1 0) z3) fun r4 => Option.bind (gM_copyRow_9_2 n (r4.1 1) r4) fun r5 => Option.bind (gM_copyRow_10_3 n (r5.1 2) r5) fun r6 => Option.bind (gM_copyRow_11_4 n (r6.1 2) r6) fun r7 => Option.bind (gM_copyRow_12_5 n (r7.1 2) r7) fun r8 => gM_takeRead_LL n 101 (0 : Int32) r8
def gM_road_L : Nat → Int32 → sg_M → Option (Int32 × sg_M)
  | 0, _, _ => none
  | n + 1, v1, z => if v1 = (0 : Int32) then (Option.bind (gM_here n z) fun r13 => if r13.1 < (0 : Int32) then (sg_let (sg_s r13.2 4 (0 : Int32)) fun z14 => if v1 ≤ (0 : Int32) then (Option.bind (gM_takeRead n z14) fun r15 => sg_let (sg_s r15 13 (0 : Int32)) fun z16 => sg_let (sg_s z16 14 (0 : Int32)) fun z17 => sg_let (sg_s z17 12 (0 : Int32)) fun z18 => sg_let (sg_w z18 20 (0 : Int32) (vp_nar .boolean (0 : Int32))) fun z19 => sg_let (sg_w z19 20 (1 : Int32) (vp_nar .boolean (0 : Int32))) fun z20 => some (z20.1 0, z20)) else (some ((-10 : Int32) - v1, z14))) else (Option.bind (gM_takeClause n r13.2) fun r21 => gM_road_L n r21.1 r21.2)) else (sg_let (sg_s z 4 (0 : Int32)) fun z6 => if v1 ≤ (0 : Int32) then (Option.bind (gM_takeRead n z6) fun r7 => sg_let (sg_s r7 13 (0 : Int32)) fun z8 => sg_let (sg_s z8 14 (0 : Int32)) fun z9 => sg_let (sg_s z9 12 (0 : Int32)) fun z10 => sg_let (sg_w z10 20 (0 : Int32) (vp_nar .boolean (0 : Int32))) fun z11 => sg_let (sg_w z11 20 (1 : Int32) (vp_nar .boolean (0 : Int32))) fun z12 => some (z12.1 0, z12)) else (some ((-10 : Int32) - v1, z6)))
def gM_road (n : Nat) (z : sg_M) : Option (Int32 × sg_M) := sg_let (sg_s z 5 (-1 : Int32)) fun z1 => sg_let (sg_s z1 6 (0 : Int32)) fun z2 => sg_let (sg_s z2 9 (0 : Int32)) fun z3 => sg_let (sg_s z3 10 (0 : Int32)) fun z4 => sg_let (sg_s z4 11 (0 : Int32)) fun z5 => gM_road_L n (0 : Int32) z5
def gM_fault (z : sg_M) : Int32 := z.1 5
def gM_isTown (a1 : Int32) (z : sg_M) : Option (Int32) := if sg_in ((20 : Int32) + a1) 106 = true then if (z.2 5 ((20 : Int32) + a1).toNatClampNeg) = (-1 : Int32) then (some (0 : Int32)) else (some (1 : Int32)) else none
def gM_allFolk_L : Nat → Int32 → Int32 → sg_M → Option (Int32)
  | 0, _, _, _ => none
  | n + 1, v1, v2, z => if (z.1 0) ≤ v2 then (some v1) else (Option.bind (gM_isTown v2 z) fun r1 => Option.bind ((if r1 = (0 : Int32) then (some (0 : Int32)) else (if sg_in ((60 : Int32) + v2) 106 = true then some (z.2 5 ((60 : Int32) + v2).toNatClampNeg) else none)) : Option (Int32)) fun t2 => sg_let (v1 + t2) fun v1_3 => gM_allFolk_L n v1_3 (v2 + (1 : Int32)) z)
def gM_allFolk (n : Nat) (z : sg_M) : Option (Int32) := gM_allFolk_L n (0 : Int32) (0 : Int32) z
def gM_biggest_L : Nat → Int32 → Int32 → sg_M → Option (Int32)
  | 0, _, _, _ => none
  | n + 1, v1, v2, z => if (z.1 0) ≤ v2 then (some v1) else (Option.bind (gM_isTown v2 z) fun r1 => Option.bind ((if r1 = (0 : Int32) then (some v1) else (if v1 < (0 : Int32) then (some v2) else (if sg_in ((60 : Int32) + v2) 106 = true then if sg_in ((60 : Int32) + v1) 106 = true then if (z.2 5 ((60 : Int32) + v2).toNatClampNeg) ≤ (z.2 5 ((60 : Int32) + v1).toNatClampNeg) then (some v1) else (some v2) else none else none))) : Option (Int32)) fun t2 => gM_biggest_L n t2 (v2 + (1 : Int32)) z)
def gM_biggest (n : Nat) (z : sg_M) : Option (Int32) := gM_biggest_L n (-1 : Int32) (0 : Int32) z
def gM_longest_L : Nat → Int32 → Int32 → Int32 → sg_M → Option (Int32)
  | 0, _, _, _, _ => none
  | n + 1, v1, v2, v3, z => if (z.1 0) ≤ v3 then (some v1) else (Option.bind (gM_isTown v3 z) fun r1 => sg_let ((if r1 = (0 : Int32) then (v2 + (1 : Int32)) else (0 : Int32)) : Int32) fun t2 => sg_let ((if t2 ≤ v1 then v1 else t2) : Int32) fun t3 => gM_longest_L n t3 t2 (v3 + (1 : Int32)) z)
def gM_longest (n : Nat) (z : sg_M) : Option (Int32) := gM_longest_L n (0 : Int32) (0 : Int32) (0 : Int32) z
def gM_towns_L : Nat → Int32 → Int32 → sg_M → Option (Int32)
  | 0, _, _, _ => none
  | n + 1, v1, v2, z => if (z.1 0) ≤ v2 then (some v1) else (Option.bind (gM_isTown v2 z) fun r1 => sg_let ((if r1 = (0 : Int32) then (0 : Int32) else (sg_shl (1 : Int32) v2)) : Int32) fun t2 => sg_let (v1 ||| t2) fun v1_3 => gM_towns_L n v1_3 (v2 + (1 : Int32)) z)
def gM_towns (n : Nat) (z : sg_M) : Option (Int32) := gM_towns_L n (0 : Int32) (0 : Int32) z
def gM_has (a0 : Int32) (a1 : Int32) : Int32 := if ((sg_shr a0 a1) &&& (1 : Int32)) = (1 : Int32) then (1 : Int32) else (0 : Int32)
theorem gM_has_b {a0 : Int32} {a1 : Int32} : sg_bool (gM_has a0 a1) = true := by
  unfold gM_has
  repeat' split
  all_goals first | rfl | exact gM_in_b
def gM_distanceTo_L : Nat → Int32 → Int32 → Int32 → Int32 → sg_M → Option (Int32)
  | 0, _, _, _, _, _ => none
  | n + 1, v1, v2, v3, v4, z => if (z.1 0) ≤ v4 then (some v3) else (sg_let ((if v1 ≤ v4 then (v4 - v1) else (v1 - v4)) : Int32) fun t1 => sg_let ((if (gM_has v2 v4) = (0 : Int32) then v3 else (if v3 ≤ t1 then v3 else t1)) : Int32) fun t2 => gM_distanceTo_L n v1 v2 t2 (v4 + (1 : Int32)) z)
def gM_distanceTo (n : Nat) (a1 : Int32) (a2 : Int32) (z : sg_M) : Option (Int32) := gM_distanceTo_L n a1 a2 (1000000 : Int32) (0 : Int32) z
def gM_farOf_L : Nat → Int32 → Int32 → sg_M → Option (Int32)
  | 0, _, _, _ => none
  | n + 1, v1, v2, z => if (z.1 0) ≤ v2 then (some v1) else (Option.bind (gM_towns n z) fun r1 => if r1 = (0 : Int32) then (some v1) else (Option.bind (gM_towns n z) fun r2 => Option.bind (gM_distanceTo n v2 r2 z) fun r3 => sg_let ((if r3 ≤ v1 then v1 else r3) : Int32) fun t4 => gM_farOf_L n t4 (v2 + (1 : Int32)) z))
def gM_farOf (n : Nat) (z : sg_M) : Option (Int32) := gM_farOf_L n (-1 : Int32) (0 : Int32) z
def gM_weatherOf (a1 : Int32) (z : sg_M) : Option (Int32) := if (z.1 1) = (0 : Int32) then (some (5 : Int32)) else (if (z.1 1) = 0 then none else if sg_in (sg_rem a1 (z.1 1)) 12 = true then some (z.2 1 (sg_rem a1 (z.1 1)).toNatClampNeg) else none)
def gM_wetBehind_L : Nat → Int32 → Int32 → Int32 → sg_M → Option (Int32)
  | 0, _, _, _, _ => none
  | n + 1, v1, v2, v3, z => if v1 ≤ v3 then (Option.bind (gM_weatherOf ((z.2 5 (104 : Int32).toNatClampNeg) + v1) z) fun r2 => some (r2 + v2)) else (if v2 ≤ (0 : Int32) then (Option.bind (gM_weatherOf ((z.2 5 (104 : Int32).toNatClampNeg) + v1) z) fun r3 => some (r3 + v2)) else (sg_let (v2 / (2 : Int32)) fun v2_4 => gM_wetBehind_L n v1 v2_4 (v3 + (1 : Int32)) z))
def gM_wetBehind (n : Nat) (a1 : Int32) (z : sg_M) : Option (Int32) := sg_let (z.2 5 (105 : Int32).toNatClampNeg) fun v2_1 => gM_wetBehind_L n a1 v2_1 (0 : Int32) z
def gM_wet (n : Nat) (z : sg_M) : Option (Int32) := if (z.1 0) = (0 : Int32) then (some (0 : Int32)) else (Option.bind (gM_wetBehind n (0 : Int32) z) fun r1 => some r1)
def gM_notBelow (a0 : Int32) : Int32 := if a0 ≤ (0 : Int32) then (0 : Int32) else a0
def gM_groundOf (a1 : Int32) (a2 : Int32) (a3 : Int32) (z : sg_M) : Option (Int32) := if sg_in a2 20 = true then if sg_in a1 8 = true then sg_let ((if (z.2 2 a1.toNatClampNeg) = (2 : Int32) then (0 : Int32) else a3) : Int32) fun t1 => if sg_in a2 106 = true then some (gM_notBelow (((z.2 0 a2.toNatClampNeg) + t1) - (z.2 5 a2.toNatClampNeg))) else none else none else none
def gM_weighs (a1 : Int32) (a2 : Int32) (z : sg_M) : Option (Int32) := if sg_in a1 8 = true then if (z.2 2 a1.toNatClampNeg) = (1 : Int32) then (some (a2 / (2 : Int32))) else if (z.2 2 a1.toNatClampNeg) = (3 : Int32) then (if sg_in ((96 : Int32) + a1) 106 = true then Option.bind ((if (20 : Int32) ≤ (z.2 5 ((96 : Int32) + a1).toNatClampNeg) then (some (20 : Int32)) else (if sg_in ((96 : Int32) + a1) 106 = true then some (z.2 5 ((96 : Int32) + a1).toNatClampNeg) else none)) : Option (Int32)) fun t1 => some (a2 + t1) else none) else (some a2) else none
def gM_stopBy_L : Nat → Int32 → Int32 → Int32 → Int32 → sg_M → Option (Int32)
  | 0, _, _, _, _, _ => none
  | n + 1, v1, v2, v3, v4, z => if (z.1 0) ≤ v4 then (some (-1 : Int32)) else (Option.bind (gM_groundOf v1 v4 v3 z) fun r1 => Option.bind (gM_weighs v1 v2 z) fun r2 => if (r1 + r2) < (60 : Int32) then (gM_stopBy_L n v1 v2 v3 (v4 + (1 : Int32)) z) else (some v4))
def gM_stopBy (n : Nat) (a1 : Int32) (a2 : Int32) (a3 : Int32) (z : sg_M) : Option (Int32) := gM_stopBy_L n a1 a2 a3 (0 : Int32) z
def gM_stopOf (n : Nat) (a1 : Int32) (a2 : Int32) (z : sg_M) : Option (Int32) := if sg_in ((80 : Int32) + a1) 106 = true then Option.bind (gM_stopBy n a1 (z.2 5 ((80 : Int32) + a1).toNatClampNeg) a2 z) fun r1 => some r1 else none
def gM_stopper_LL : Nat → Nat → Int32 → Int32 → Int32 → Int32 → Int32 → sg_M → Option (Int32)
  | 0, _, _, _, _, _, _, _ => none
  | n + 1, k, v1, v2, v3, v4, v5, z => if k = 6 then (if (z.1 0) ≤ v3 then (some v1) else (gM_stopper_LL n 20 v1 v2 v3 (0 : Int32) (0 : Int32) z)) else (if k = 20 then (if (z.1 2) ≤ v5 then (sg_let ((if v4 ≤ v2 then v1 else v3) : Int32) fun t1 => sg_let ((if v4 ≤ v2 then v2 else v4) : Int32) fun t2 => gM_stopper_LL n 6 t1 t2 (v3 + (1 : Int32)) (0 : Int32) (0 : Int32) z) else (Option.bind (gM_wet n z) fun r3 => Option.bind (gM_stopOf n v5 r3 z) fun r4 => sg_let ((if r4 = v3 then (1 : Int32) else (0 : Int32)) : Int32) fun t5 => sg_let (v4 + t5) fun v4_6 => gM_stopper_LL n 20 v1 v2 v3 v4_6 (v5 + (1 : Int32)) z)) else none)
def gM_stopper (n : Nat) (z : sg_M) : Option (Int32) := gM_stopper_LL n 6 (-1 : Int32) (0 : Int32) (0 : Int32) (0 : Int32) (0 : Int32) z
def gM_stuckOnes_L : Nat → Int32 → Int32 → sg_M → Option (Int32)
  | 0, _, _, _ => none
  | n + 1, v1, v2, z => if (z.1 2) ≤ v2 then (some v1) else (if sg_in ((88 : Int32) + v2) 106 = true then sg_let ((if (z.2 5 ((88 : Int32) + v2).toNatClampNeg) = (-1 : Int32) then (0 : Int32) else (sg_shl (1 : Int32) v2)) : Int32) fun t1 => sg_let (v1 ||| t1) fun v1_2 => gM_stuckOnes_L n v1_2 (v2 + (1 : Int32)) z else none)
def gM_stuckOnes (n : Nat) (z : sg_M) : Option (Int32) := gM_stuckOnes_L n (0 : Int32) (0 : Int32) z
def gM_told (n : Nat) (a1 : Int32) (z : sg_M) : Option (Int32) := if a1 = (0 : Int32) then (some (z.1 0)) else if a1 = (1 : Int32) then (some (z.1 2)) else if a1 = (2 : Int32) then (some (z.1 4)) else if a1 = (3 : Int32) then (some (z.2 5 (104 : Int32).toNatClampNeg)) else if a1 = (4 : Int32) then (Option.bind (gM_wet n z) fun r1 => some r1) else if a1 = (5 : Int32) then (some (z.2 5 (105 : Int32).toNatClampNeg)) else if a1 = (6 : Int32) then (Option.bind (gM_towns n z) fun r2 => some r2) else if a1 = (7 : Int32) then (Option.bind (gM_stuckOnes n z) fun r3 => some r3) else if a1 = (8 : Int32) then (Option.bind (gM_stopper n z) fun r4 => some r4) else if a1 = (9 : Int32) then (Option.bind (gM_farOf n z) fun r5 => some r5) else if a1 = (10 : Int32) then (Option.bind (gM_longest n z) fun r6 => some r6) else if a1 = (11 : Int32) then (Option.bind (gM_biggest n z) fun r7 => some r7) else if a1 = (12 : Int32) then (Option.bind (gM_allFolk n z) fun r8 => some r8) else if a1 = (13 : Int32) then (some (z.1 13)) else if a1 = (14 : Int32) then (some (z.1 14)) else if a1 = (15 : Int32) then (some (z.1 12)) else (some (-1000000002 : Int32))
def gM_isCell (a1 : Int32) (z : sg_M) : Int32 := gM_in a1.toInt64 (0 : Int64) (((z.1 0) - (1 : Int32)).toInt64)
theorem gM_isCell_b {a1 : Int32} {z : sg_M} : sg_bool (gM_isCell a1 z) = true := by
  unfold gM_isCell
  repeat' split
  all_goals first | rfl | exact gM_in_b
def gM_cell (a1 : Int32) (a2 : Int32) (z : sg_M) : Option (Int32) := if (gM_isCell a1 z) = (0 : Int32) then (some (-1000000001 : Int32)) else (if a2 = (0 : Int32) then (if sg_in a1 20 = true then some (z.2 0 a1.toNatClampNeg) else none) else if a2 = (1 : Int32) then (if sg_in a1 106 = true then some (z.2 5 a1.toNatClampNeg) else none) else if a2 = (2 : Int32) then (if sg_in ((20 : Int32) + a1) 106 = true then some (z.2 5 ((20 : Int32) + a1).toNatClampNeg) else none) else if a2 = (3 : Int32) then (if sg_in ((40 : Int32) + a1) 106 = true then some (z.2 5 ((40 : Int32) + a1).toNatClampNeg) else none) else if a2 = (4 : Int32) then (Option.bind (gM_isTown a1 z) fun r1 => if r1 = (0 : Int32) then (some (-1 : Int32)) else (if sg_in ((60 : Int32) + a1) 106 = true then some (z.2 5 ((60 : Int32) + a1).toNatClampNeg) else none)) else (some (-1000000002 : Int32)))
def gM_isCart (a1 : Int32) (z : sg_M) : Int32 := gM_in a1.toInt64 (0 : Int64) (((z.1 2) - (1 : Int32)).toInt64)
theorem gM_isCart_b {a1 : Int32} {z : sg_M} : sg_bool (gM_isCart a1 z) = true := by
  unfold gM_isCart
  repeat' split
  all_goals first | rfl | exact gM_in_b
def gM_mayorOf_L : Nat → Int32 → Int32 → sg_M → Option (Int32)
  | 0, _, _, _ => none
  | n + 1, v1, v2, z => if (z.1 0) ≤ v2 then (some (-1 : Int32)) else (if sg_in ((40 : Int32) + v2) 106 = true then if (z.2 5 ((40 : Int32) + v2).toNatClampNeg) = v1 then (some v2) else (gM_mayorOf_L n v1 (v2 + (1 : Int32)) z) else none)
def gM_mayorOf (n : Nat) (a1 : Int32) (z : sg_M) : Option (Int32) := gM_mayorOf_L n a1 (0 : Int32) z
def gM_cart (n : Nat) (a1 : Int32) (a2 : Int32) (z : sg_M) : Option (Int32) := if (gM_isCart a1 z) = (0 : Int32) then (some (-1000000001 : Int32)) else (if a2 = (0 : Int32) then (if sg_in a1 8 = true then some (z.2 2 a1.toNatClampNeg) else none) else if a2 = (1 : Int32) then (if sg_in ((80 : Int32) + a1) 106 = true then some (z.2 5 ((80 : Int32) + a1).toNatClampNeg) else none) else if a2 = (2 : Int32) then (if sg_in a1 8 = true then some (z.2 4 a1.toNatClampNeg) else none) else if a2 = (3 : Int32) then (if sg_in ((88 : Int32) + a1) 106 = true then some (z.2 5 ((88 : Int32) + a1).toNatClampNeg) else none) else if a2 = (4 : Int32) then (if sg_in ((96 : Int32) + a1) 106 = true then some (z.2 5 ((96 : Int32) + a1).toNatClampNeg) else none) else if a2 = (5 : Int32) then (Option.bind (gM_mayorOf n a1 z) fun r1 => some r1) else (some (-1000000002 : Int32)))
def gM_sink (n : Nat) (a1 : Int32) (a2 : Int32) (z : sg_M) : Option (Int32) := if (gM_isCart a1 z) = (0 : Int32) then (some (-1000000001 : Int32)) else (if (gM_isCell a2 z) = (0 : Int32) then (some (-1000000001 : Int32)) else (Option.bind (gM_wet n z) fun r1 => Option.bind (gM_groundOf a1 a2 r1 z) fun r2 => if sg_in ((80 : Int32) + a1) 106 = true then Option.bind (gM_weighs a1 (z.2 5 ((80 : Int32) + a1).toNatClampNeg) z) fun r3 => some (r2 + r3) else none))
def gM_remember_LL : Nat → Nat → Int32 → sg_M → Option (sg_M)
  | 0, _, _, _ => none
  | n + 1, k, v1, z => if k = 12 then (if (1696 : Int32) ≤ v1 then (sg_let (sg_s z 12 ((z.1 12) - (1 : Int32))) fun z3 => gM_remember_LL n 52 (0 : Int32) z3) else (if sg_in v1 1696 = true then if sg_in (v1 - (106 : Int32)) 1696 = true then sg_let (sg_w z 12 (v1 - (106 : Int32)) (z.2 12 v1.toNatClampNeg)) fun z4 => gM_remember_LL n 12 (v1 + (1 : Int32)) z4 else none else none)) else (if k = 52 then (if (106 : Int32) ≤ v1 then (sg_let (sg_s z 12 ((z.1 12) + (1 : Int32))) fun z1 => some z1) else (if sg_in v1 106 = true then if sg_in (((106 : Int32) * (z.1 12)) + v1) 1696 = true then sg_let (sg_w z 12 (((106 : Int32) * (z.1 12)) + v1) (z.2 5 v1.toNatClampNeg)) fun z2 => gM_remember_LL n 52 (v1 + (1 : Int32)) z2 else none else none)) else none)
def gM_remember (n : Nat) (z : sg_M) : Option (sg_M) := if (z.1 12) = (16 : Int32) then (gM_remember_LL n 12 (106 : Int32) z) else (gM_remember_LL n 52 (0 : Int32) z)
def gM_driveNow (n : Nat) (a1 : Int32) (z : sg_M) : Option (Int32 × sg_M) := Option.bind (gM_wet n z) fun r1 => Option.bind (gM_stopOf n a1 r1 z) fun r2 => if (0 : Int32) ≤ r2 then (Option.bind (gM_isTown r2 z) fun r3 => Option.bind ((if r3 = (0 : Int32) then (if sg_in a1 8 = true then if sg_in ((20 : Int32) + r2) 106 = true then sg_let (sg_w z 5 ((20 : Int32) + r2) (z.2 4 a1.toNatClampNeg)) fun z4 => if sg_in ((60 : Int32) + r2) 106 = true then sg_let (sg_w z4 5 ((60 : Int32) + r2) (0 : Int32)) fun z5 => some z5 else none else none else none) else (some z)) : Option (sg_M)) fun t6 => if sg_in ((60 : Int32) + r2) 106 = true then if sg_in ((60 : Int32) + r2) 106 = true then sg_let ((if (9999 : Int32) ≤ (t6.2 5 ((60 : Int32) + r2).toNatClampNeg) then (0 : Int32) else (1 : Int32)) : Int32) fun t7 => if sg_in ((60 : Int32) + r2) 106 = true then sg_let (sg_w t6 5 ((60 : Int32) + r2) ((t6.2 5 ((60 : Int32) + r2).toNatClampNeg) + t7)) fun z8 => if sg_in ((40 : Int32) + r2) 106 = true then Option.bind ((if (z8.2 5 ((40 : Int32) + r2).toNatClampNeg) = (-1 : Int32) then (some a1) else (if sg_in ((40 : Int32) + r2) 106 = true then some (z8.2 5 ((40 : Int32) + r2).toNatClampNeg) else none)) : Option (Int32)) fun t9 => if sg_in ((40 : Int32) + r2) 106 = true then sg_let (sg_w z8 5 ((40 : Int32) + r2) t9) fun z10 => if sg_in ((88 : Int32) + a1) 106 = true then sg_let (sg_w z10 5 ((88 : Int32) + a1) r2) fun z11 => if sg_in ((96 : Int32) + a1) 106 = true then if sg_in ((96 : Int32) + a1) 106 = true then sg_let (sg_w z11 5 ((96 : Int32) + a1) ((z11.2 5 ((96 : Int32) + a1).toNatClampNeg) + (1 : Int32))) fun z12 => some (r2, z12) else none else none else none else none else none else none else none else none) else (some ((-1 : Int32), z))
def gM_drive (n : Nat) (a1 : Int32) (z : sg_M) : Option (Int32 × sg_M) := if (gM_isCart a1 z) = (0 : Int32) then (some ((-1000000001 : Int32), z)) else (if sg_in ((88 : Int32) + a1) 106 = true then if (z.2 5 ((88 : Int32) + a1).toNatClampNeg) = (-1 : Int32) then (Option.bind (gM_remember n z) fun r1 => Option.bind (gM_driveNow n a1 r1) fun r2 => some (r2.1, r2.2)) else (some ((-1000000003 : Int32), z)) else none)
def gM_pullNow (a1 : Int32) (z : sg_M) : Option (Int32 × sg_M) := if sg_in ((88 : Int32) + a1) 106 = true then sg_let (z.2 5 ((88 : Int32) + a1).toNatClampNeg) fun v2_1 => if sg_in ((88 : Int32) + a1) 106 = true then sg_let (sg_w z 5 ((88 : Int32) + a1) (-1 : Int32)) fun z2 => if sg_in ((60 : Int32) + v2_1) 106 = true then Option.bind (gM_isTown v2_1 z2) fun r3 => Option.bind ((if r3 = (0 : Int32) then (some (0 : Int32)) else (if sg_in ((60 : Int32) + v2_1) 106 = true then if (z2.2 5 ((60 : Int32) + v2_1).toNatClampNeg) ≤ (0 : Int32) then (some (0 : Int32)) else (some (1 : Int32)) else none)) : Option (Int32)) fun t4 => if sg_in ((60 : Int32) + v2_1) 106 = true then sg_let (sg_w z2 5 ((60 : Int32) + v2_1) ((z2.2 5 ((60 : Int32) + v2_1).toNatClampNeg) - t4)) fun z5 => if sg_in ((40 : Int32) + v2_1) 106 = true then Option.bind ((if (z5.2 5 ((40 : Int32) + v2_1).toNatClampNeg) = a1 then (some (-1 : Int32)) else (if sg_in ((40 : Int32) + v2_1) 106 = true then some (z5.2 5 ((40 : Int32) + v2_1).toNatClampNeg) else none)) : Option (Int32)) fun t6 => if sg_in ((40 : Int32) + v2_1) 106 = true then sg_let (sg_w z5 5 ((40 : Int32) + v2_1) t6) fun z7 => some (v2_1, z7) else none else none else none else none else none else none
def gM_pull (n : Nat) (a1 : Int32) (z : sg_M) : Option (Int32 × sg_M) := if (gM_isCart a1 z) = (0 : Int32) then (some ((-1000000001 : Int32), z)) else (if sg_in ((88 : Int32) + a1) 106 = true then if (z.2 5 ((88 : Int32) + a1).toNatClampNeg) = (-1 : Int32) then (some ((-1000000003 : Int32), z)) else (Option.bind (gM_remember n z) fun r1 => Option.bind (gM_pullNow a1 r1) fun r2 => some (r2.1, r2.2)) else none)
def gM_daysRefused (a1 : Int32) (z : sg_M) : Int32 := if (gM_in a1.toInt64 (1 : Int64) (60 : Int64)) = (0 : Int32) then (-1000000002 : Int32) else (if (z.1 0) = (0 : Int32) then (-1000000003 : Int32) else (if (z.2 5 (104 : Int32).toNatClampNeg) ≤ (9000 : Int32) then (0 : Int32) else (-1000000004 : Int32)))
def gM_pass (z : sg_M) : Option (sg_M) := sg_let (sg_w z 5 (105 : Int32) ((z.2 5 (105 : Int32).toNatClampNeg) / (2 : Int32))) fun z1 => sg_let (sg_w z1 5 (104 : Int32) ((z1.2 5 (104 : Int32).toNatClampNeg) + (1 : Int32))) fun z2 => some z2
def gM_day_L : Nat → Int32 → Int32 → sg_M → Option (Int32 × sg_M)
  | 0, _, _, _ => none
  | n + 1, v1, v3, z => if v1 ≤ v3 then (some (z.2 5 (104 : Int32).toNatClampNeg, z)) else (Option.bind (gM_pass z) fun r3 => gM_day_L n v1 (v3 + (1 : Int32)) r3)
def gM_day (n : Nat) (a1 : Int32) (z : sg_M) : Option (Int32 × sg_M) := sg_let (gM_daysRefused a1 z) fun v2_1 => if v2_1 = (0 : Int32) then (Option.bind (gM_remember n z) fun r2 => gM_day_L n a1 (0 : Int32) r2) else (some (v2_1, z))
def gM_layNow (a1 : Int32) (a2 : Int32) (z : sg_M) : Option (sg_M) := if sg_in a1 106 = true then sg_let (gM_notBelow ((z.2 5 a1.toNatClampNeg) + a2)) fun v3_1 => sg_let ((if (60 : Int32) ≤ v3_1 then (60 : Int32) else v3_1) : Int32) fun t2 => if sg_in a1 106 = true then sg_let (sg_w z 5 a1 t2) fun z3 => some z3 else none else none
def gM_lay (n : Nat) (a1 : Int32) (a2 : Int32) (z : sg_M) : Option (Int32 × sg_M) := if (gM_isCell a1 z) = (0 : Int32) then (some ((-1000000001 : Int32), z)) else (if (gM_in a2.toInt64 (-60 : Int64) (60 : Int64)) = (0 : Int32) then (some ((-1000000002 : Int32), z)) else (Option.bind (gM_remember n z) fun r1 => Option.bind (gM_layNow a1 a2 r1) fun r2 => if sg_in a1 106 = true then some (r2.2 5 a1.toNatClampNeg, r2) else none))
def gM_load (n : Nat) (a1 : Int32) (a2 : Int32) (z : sg_M) : Option (Int32 × sg_M) := if (gM_isCart a1 z) = (0 : Int32) then (some ((-1000000001 : Int32), z)) else (if (gM_in a2.toInt64 (1 : Int64) (60 : Int64)) = (0 : Int32) then (some ((-1000000002 : Int32), z)) else (Option.bind (gM_remember n z) fun r1 => if sg_in ((80 : Int32) + a1) 106 = true then sg_let (r1.2 5 ((80 : Int32) + a1).toNatClampNeg) fun v3_2 => if sg_in ((80 : Int32) + a1) 106 = true then sg_let (sg_w r1 5 ((80 : Int32) + a1) a2) fun z3 => some (v3_2, z3) else none else none))
def gM_storm (n : Nat) (a1 : Int32) (z : sg_M) : Option (Int32 × sg_M) := if (gM_in a1.toInt64 (0 : Int64) (60 : Int64)) = (0 : Int32) then (some ((-1000000002 : Int32), z)) else (if (z.1 0) = (0 : Int32) then (some ((-1000000003 : Int32), z)) else (Option.bind (gM_remember n z) fun r1 => sg_let (r1.2 5 (105 : Int32).toNatClampNeg) fun v2_2 => sg_let (sg_w r1 5 (105 : Int32) a1) fun z3 => some (v2_2, z3)))
def gM_raze (n : Nat) (a1 : Int32) (z : sg_M) : Option (Int32 × sg_M) := if (gM_isCell a1 z) = (0 : Int32) then (some ((-1000000001 : Int32), z)) else (Option.bind (gM_isTown a1 z) fun r1 => if r1 = (0 : Int32) then (some ((-1000000003 : Int32), z)) else (Option.bind (gM_remember n z) fun r2 => if sg_in ((60 : Int32) + a1) 106 = true then sg_let (r2.2 5 ((60 : Int32) + a1).toNatClampNeg) fun v2_3 => if sg_in ((20 : Int32) + a1) 106 = true then sg_let (sg_w r2 5 ((20 : Int32) + a1) (-1 : Int32)) fun z4 => if sg_in ((40 : Int32) + a1) 106 = true then sg_let (sg_w z4 5 ((40 : Int32) + a1) (-1 : Int32)) fun z5 => if sg_in ((60 : Int32) + a1) 106 = true then sg_let (sg_w z5 5 ((60 : Int32) + a1) (0 : Int32)) fun z6 => some (v2_3, z6) else none else none else none else none))
def gM_draw (a1 : Int32) (z : sg_M) : Option (Int32 × sg_M) := sg_let (sg_s z 3 ((sg_lrm ((((z.1 3).toInt64) * (1103515245 : Int64)) + (12345 : Int64)) (2147483648 : Int64)).toInt32)) fun z1 => if a1 = 0 then none else some (sg_rem ((z1.1 3) / (65536 : Int32)) a1, z1)
def gM_chance (n : Nat) (z : sg_M) : Option (sg_M) := Option.bind (gM_draw (5 : Int32) z) fun r1 => if r1.1 = (0 : Int32) then (Option.bind (gM_draw (31 : Int32) r1.2) fun r11 => sg_let (sg_w r11.2 5 (105 : Int32) r11.1) fun z12 => some z12) else (if r1.1 = (3 : Int32) then (Option.bind (gM_draw (r1.2.1 0) r1.2) fun r8 => Option.bind (gM_draw (10 : Int32) r8.2) fun r9 => Option.bind (gM_layNow r8.1 r9.1 r9.2) fun r10 => some r10) else (if (3 : Int32) ≤ r1.1 then (some r1.2) else (if (r1.2.1 2) ≤ (0 : Int32) then (some r1.2) else (Option.bind (gM_draw (r1.2.1 2) r1.2) fun r2 => if sg_in ((88 : Int32) + r2.1) 106 = true then sg_let ((if (r2.2.2 5 ((88 : Int32) + r2.1).toNatClampNeg) = (-1 : Int32) then (0 : Int32) else (1 : Int32)) : Int32) fun t3 => Option.bind ((if r1.1 = (1 : Int32) then (if t3 = (0 : Int32) then (Option.bind (gM_driveNow n r2.1 r2.2) fun r6 => some (r6.1, r6.2)) else (if r1.1 = (2 : Int32) then (if t3 = (0 : Int32) then (some ((-1 : Int32), r2.2)) else (Option.bind (gM_pullNow r2.1 r2.2) fun r5 => some (r5.1, r5.2))) else (some ((-1 : Int32), r2.2)))) else (if r1.1 = (2 : Int32) then (if t3 = (0 : Int32) then (some ((-1 : Int32), r2.2)) else (Option.bind (gM_pullNow r2.1 r2.2) fun r4 => some (r4.1, r4.2))) else (some ((-1 : Int32), r2.2)))) : Option (Int32 × sg_M)) fun t7 => some t7.2 else none))))
def gM_drift_L : Nat → Int32 → Int32 → sg_M → Option (Int32 × sg_M)
  | 0, _, _, _ => none
  | n + 1, v1, v3, z => if v1 ≤ v3 then (Option.bind (gM_allFolk n z) fun r3 => some (r3, z)) else (Option.bind (gM_chance n z) fun r4 => Option.bind (gM_pass r4) fun r5 => gM_drift_L n v1 (v3 + (1 : Int32)) r5)
def gM_drift (n : Nat) (a1 : Int32) (z : sg_M) : Option (Int32 × sg_M) := sg_let (gM_daysRefused a1 z) fun v2_1 => if v2_1 = (0 : Int32) then (Option.bind (gM_remember n z) fun r2 => gM_drift_L n a1 (0 : Int32) r2) else (some (v2_1, z))
def gM_undo_L : Nat → Int32 → sg_M → Option (Int32 × sg_M)
  | 0, _, _ => none
  | n + 1, v1, z => if (106 : Int32) ≤ v1 then (some (z.1 12, z)) else (if sg_in (((106 : Int32) * (z.1 12)) + v1) 1696 = true then if sg_in v1 106 = true then sg_let (sg_w z 5 v1 (z.2 12 (((106 : Int32) * (z.1 12)) + v1).toNatClampNeg)) fun z2 => gM_undo_L n (v1 + (1 : Int32)) z2 else none else none)
def gM_undo (n : Nat) (z : sg_M) : Option (Int32 × sg_M) := if (z.1 12) = (0 : Int32) then (some ((-1000000003 : Int32), z)) else (sg_let (sg_s z 12 ((z.1 12) - (1 : Int32))) fun z1 => gM_undo_L n (0 : Int32) z1)
def gM_stops (n : Nat) (a1 : Int32) (a2 : Int32) (z : sg_M) : Option (Int32) := if (gM_isCart a1 z) = (0 : Int32) then (some (-1000000001 : Int32)) else (if (gM_in a2.toInt64 (0 : Int64) (100 : Int64)) = (0 : Int32) then (some (-1000000002 : Int32)) else (Option.bind (gM_wetBehind n a2 z) fun r1 => Option.bind (gM_stopOf n a1 r1 z) fun r2 => some r2))
def gM_soonest_L : Nat → Int32 → Int32 → Int32 → sg_M → Option (Int32)
  | 0, _, _, _, _ => none
  | n + 1, v1, v2, v3, z => if (100 : Int32) < v3 then (some (-1 : Int32)) else (Option.bind (gM_wetBehind n v3 z) fun r1 => Option.bind (gM_stopOf n v1 r1 z) fun r2 => if r2 = v2 then (some v3) else (gM_soonest_L n v1 v2 (v3 + (1 : Int32)) z))
def gM_soonest (n : Nat) (a1 : Int32) (a2 : Int32) (z : sg_M) : Option (Int32) := if (gM_isCart a1 z) = (0 : Int32) then (some (-1000000001 : Int32)) else (if (gM_isCell a2 z) = (0 : Int32) then (some (-1000000001 : Int32)) else (gM_soonest_L n a1 a2 (0 : Int32) z))
def gM_loads_L : Nat → Int32 → Int32 → Int32 → Int32 → Int32 → Int32 → Int32 → sg_M → Option (Int32)
  | 0, _, _, _, _, _, _, _, _ => none
  | n + 1, v1, v2, v3, v4, v5, v6, v7, z => if (60 : Int32) < v7 then (if v3 = (0 : Int32) then (some v4) else (if v3 = (1 : Int32) then (some v5) else (some v6))) else (Option.bind (gM_wet n z) fun r1 => Option.bind (gM_stopBy n v1 v7 r1 z) fun r2 => Option.bind ((if r2 = v2 then (sg_let ((if v4 = (0 : Int32) then v7 else v5) : Int32) fun t3 => some (v4 + (1 : Int32), t3, v7)) else (some (v4, v5, v6))) : Option (Int32 × Int32 × Int32)) fun t4 => gM_loads_L n v1 v2 v3 t4.1 t4.2.1 t4.2.2 (v7 + (1 : Int32)) z)
def gM_loads (n : Nat) (a1 : Int32) (a2 : Int32) (a3 : Int32) (z : sg_M) : Option (Int32) := if (gM_isCart a1 z) = (0 : Int32) then (some (-1000000001 : Int32)) else (if (gM_isCell a2 z) = (0 : Int32) then (some (-1000000001 : Int32)) else (if (gM_in a3.toInt64 (0 : Int64) (2 : Int64)) = (0 : Int32) then (some (-1000000002 : Int32)) else (gM_loads_L n a1 a2 a3 (0 : Int32) (-1 : Int32) (-1 : Int32) (1 : Int32) z)))
def gM_needOf (n : Nat) (a1 : Int32) (a2 : Int32) (z : sg_M) : Option (Int32) := if sg_in ((80 : Int32) + a1) 106 = true then Option.bind (gM_weighs a1 (z.2 5 ((80 : Int32) + a1).toNatClampNeg) z) fun r1 => if r1 < (60 : Int32) then (Option.bind (gM_wet n z) fun r2 => Option.bind (gM_groundOf a1 a2 r2 z) fun r3 => some (gM_notBelow (((r3 + r1) - (60 : Int32)) + (1 : Int32)))) else (some (-1 : Int32)) else none
def gM_gravelTo_L : Nat → Int32 → Int32 → Int32 → Int32 → sg_M → Option (Int32)
  | 0, _, _, _, _, _ => none
  | n + 1, v1, v2, v3, v4, z => if v2 ≤ v4 then (some v3) else (Option.bind (gM_needOf n v1 v4 z) fun r1 => if (0 : Int32) ≤ r1 then (sg_let (v3 + r1) fun v3_2 => gM_gravelTo_L n v1 v2 v3_2 (v4 + (1 : Int32)) z) else (some (-1 : Int32)))
def gM_gravelTo (n : Nat) (a1 : Int32) (a2 : Int32) (z : sg_M) : Option (Int32) := if (gM_isCart a1 z) = (0 : Int32) then (some (-1000000001 : Int32)) else (if (gM_isCell a2 z) = (0 : Int32) then (some (-1000000001 : Int32)) else (gM_gravelTo_L n a1 a2 (0 : Int32) (0 : Int32) z))
def gM_isSet (a1 : Int32) (z : sg_M) : Int32 := gM_in a1.toInt64 (0 : Int64) (((sg_shl (1 : Int32) (z.1 2)) - (1 : Int32)).toInt64)
theorem gM_isSet_b {a1 : Int32} {z : sg_M} : sg_bool (gM_isSet a1 z) = true := by
  unfold gM_isSet
  repeat' split
  all_goals first | rfl | exact gM_in_b
def gM_gravelForAll_LL : Nat → Nat → Int32 → Int32 → Int32 → Int32 → Int32 → sg_M → Option (Int32)
  | 0, _, _, _, _, _, _, _ => none
  | n + 1, k, v1, v2, v3, v4, v5, z => if k = 15 then (if (z.1 0) ≤ v3 then (some v2) else (gM_gravelForAll_LL n 29 v1 v2 v3 (0 : Int32) (0 : Int32) z)) else (if k = 29 then (if (z.1 2) ≤ v5 then (sg_let (v2 + v4) fun v2_1 => gM_gravelForAll_LL n 15 v1 v2_1 (v3 + (1 : Int32)) (0 : Int32) (0 : Int32) z) else (Option.bind ((if (gM_has v1 v5) = (0 : Int32) then (some (0 : Int32)) else (Option.bind (gM_needOf n v5 v3 z) fun r2 => some r2)) : Option (Int32)) fun t3 => if (0 : Int32) ≤ t3 then (sg_let ((if t3 ≤ v4 then v4 else t3) : Int32) fun t4 => gM_gravelForAll_LL n 29 v1 v2 v3 t4 (v5 + (1 : Int32)) z) else (some (-1 : Int32)))) else none)
def gM_gravelForAll (n : Nat) (a1 : Int32) (z : sg_M) : Option (Int32) := if (gM_isSet a1 z) = (0 : Int32) then (some (-1000000001 : Int32)) else (gM_gravelForAll_LL n 15 a1 (0 : Int32) (0 : Int32) (0 : Int32) (0 : Int32) z)
def gM_bits_L : Nat → Int32 → Int32 → Int32 → sg_M → Option (Int32)
  | 0, _, _, _, _ => none
  | n + 1, v0, v1, v2, z => if (20 : Int32) ≤ v2 then (some v1) else (sg_let (v1 + ((sg_shr v0 v2) &&& (1 : Int32))) fun v1_1 => gM_bits_L n v0 v1_1 (v2 + (1 : Int32)) z)
def gM_bits (n : Nat) (a0 : Int32) (z : sg_M) : Option (Int32) := gM_bits_L n a0 (0 : Int32) (0 : Int32) z
def gM_foundedBy_LL : Nat → Nat → Int32 → Int32 → Int32 → Int32 → Int32 → Int32 → Int32 → sg_M → Option (Int32)
  | 0, _, _, _, _, _, _, _, _, _ => none
  | n + 1, k, v1, v2, v4, v5, v6, v7, v8, z => if k = 18 then (if v2 ≤ v8 then (gM_foundedBy_LL n 40 v1 v2 v4 v5 v6 v7 (0 : Int32) z) else (sg_let (v7 * (10 : Int32)) fun v7_2 => gM_foundedBy_LL n 18 v1 v2 v4 v5 v6 v7_2 (v8 + (1 : Int32)) z)) else (if k = 40 then (if v2 ≤ v8 then (some v6) else (if v7 = 0 then none else sg_let ((sg_rem (v1 / v7) (10 : Int32)) - (1 : Int32)) fun v9_3 => sg_let (v7 / (10 : Int32)) fun v7_4 => if v9_3 < (0 : Int32) then (some (-1 : Int32)) else (if (gM_has v4 v9_3) = (0 : Int32) then (some (-1 : Int32)) else (sg_let (v4 &&& ((sg_shl (1 : Int32) v9_3) ^^^ (-1 : Int32))) fun v4_5 => if sg_in (((5 : Int32) * v9_3) + v8) 40 = true then sg_let (z.2 13 (((5 : Int32) * v9_3) + v8).toNatClampNeg) fun v10_6 => sg_let ((if v10_6 < (0 : Int32) then (0 : Int32) else (if (gM_has v5 v10_6) = (0 : Int32) then (1 : Int32) else (0 : Int32))) : Int32) fun t7 => sg_let (v6 + t7) fun v6_8 => sg_let ((if v10_6 < (0 : Int32) then (0 : Int32) else (sg_shl (1 : Int32) v10_6)) : Int32) fun t9 => sg_let (v5 ||| t9) fun v5_10 => gM_foundedBy_LL n 40 v1 v2 v4_5 v5_10 v6_8 v7_4 (v8 + (1 : Int32)) z else none)))) else none)
def gM_foundedBy (n : Nat) (a1 : Int32) (a2 : Int32) (a3 : Int32) (z : sg_M) : Option (Int32) := Option.bind (gM_towns n z) fun r1 => gM_foundedBy_LL n 18 a1 a2 a3 r1 (0 : Int32) (1 : Int32) (1 : Int32) z
def gM_order_LL : Nat → Nat → Int32 → Int32 → Int32 → Int32 → Int32 → Int32 → Int32 → sg_M → Option (Int32 × sg_M)
  | 0, _, _, _, _, _, _, _, _, _ => none
  | n + 1, k, v1, v2, v3, v4, v5, v6, v7, z => if k = 49 then (if (z.1 2) ≤ v4 then (gM_order_LL n 109 v1 v2 v3 (1 : Int32) (0 : Int32) (0 : Int32) (0 : Int32) z) else (gM_order_LL n 61 v1 v2 v3 v4 (0 : Int32) (0 : Int32) (0 : Int32) z)) else (if k = 61 then (if (5 : Int32) ≤ v5 then (gM_order_LL n 49 v1 v2 v3 (v4 + (1 : Int32)) (0 : Int32) (0 : Int32) (0 : Int32) z) else (Option.bind (gM_wetBehind n v5 z) fun r4 => Option.bind (gM_stopOf n v4 r4 z) fun r5 => if sg_in (((5 : Int32) * v4) + v5) 40 = true then sg_let (sg_w z 13 (((5 : Int32) * v4) + v5) r5) fun z6 => gM_order_LL n 61 v1 v2 v3 v4 (v5 + (1 : Int32)) (0 : Int32) (0 : Int32) z6 else none)) else (if k = 109 then (if v3 ≤ v5 then (gM_order_LL n 137 v1 v2 v3 v4 (0 : Int32) (-1 : Int32) (0 : Int32) z) else (sg_let (v4 * (10 : Int32)) fun v4_3 => gM_order_LL n 109 v1 v2 v3 v4_3 (v5 + (1 : Int32)) (0 : Int32) (0 : Int32) z)) else (if k = 137 then (if v4 ≤ v7 then (if v2 = (0 : Int32) then (some (v6, z)) else (some (v5, z))) else (Option.bind (gM_foundedBy n v7 v3 v1 z) fun r7 => sg_let ((if r7 ≤ v6 then v5 else v7) : Int32) fun t8 => sg_let ((if r7 ≤ v6 then v6 else r7) : Int32) fun t9 => gM_order_LL n 137 v1 v2 v3 v4 t8 t9 (v7 + (1 : Int32)) z)) else none)))
def gM_order (n : Nat) (a1 : Int32) (a2 : Int32) (z : sg_M) : Option (Int32 × sg_M) := if (gM_isSet a1 z) = (0 : Int32) then (some ((-1000000001 : Int32), z)) else (if (gM_in a2.toInt64 (0 : Int64) (1 : Int64)) = (0 : Int32) then (some ((-1000000002 : Int32), z)) else (Option.bind (gM_bits n a1 z) fun r1 => if (5 : Int32) < r1 then (some ((-1000000003 : Int32), z)) else (Option.bind (gM_stuckOnes n z) fun r2 => if (a1 &&& r2) = (0 : Int32) then (gM_order_LL n 49 a1 a2 r1 (0 : Int32) (0 : Int32) (0 : Int32) (0 : Int32) z) else (some ((-1000000003 : Int32), z)))))
def gM_place_LL : Nat → Nat → Int32 → Int32 → Int32 → Int32 → Int32 → Int32 → sg_M → Option (Int32)
  | 0, _, _, _, _, _, _, _, _ => none
  | n + 1, k, v1, v2, v3, v4, v5, v6, z => if k = 31 then (if (z.1 0) ≤ v4 then (if v2 < (0 : Int32) then (some v2) else (if v1 = (0 : Int32) then (some v2) else (some v3))) else (gM_place_LL n 46 v1 v2 v3 v4 (0 : Int32) (0 : Int32) z)) else (if k = 46 then (if (z.1 0) ≤ v6 then (Option.bind (gM_isTown v4 z) fun r1 => sg_let ((if r1 = (0 : Int32) then (if v3 ≤ v5 then (0 : Int32) else (1 : Int32)) else (0 : Int32)) : Int32) fun t2 => sg_let ((if t2 = (0 : Int32) then v2 else v4) : Int32) fun t3 => sg_let ((if t2 = (0 : Int32) then v3 else v5) : Int32) fun t4 => gM_place_LL n 31 v1 t3 t4 (v4 + (1 : Int32)) (0 : Int32) (0 : Int32) z) else (Option.bind (gM_towns n z) fun r5 => Option.bind (gM_distanceTo n v6 (r5 ||| (sg_shl (1 : Int32) v4)) z) fun r6 => sg_let (v5 + r6) fun v5_7 => gM_place_LL n 46 v1 v2 v3 v4 v5_7 (v6 + (1 : Int32)) z)) else none)
def gM_place (n : Nat) (a1 : Int32) (z : sg_M) : Option (Int32) := if (gM_in a1.toInt64 (0 : Int64) (1 : Int64)) = (0 : Int32) then (some (-1000000002 : Int32)) else (if (z.1 0) = (0 : Int32) then (some (-1000000003 : Int32)) else (gM_place_LL n 31 a1 (-1 : Int32) (1000000 : Int32) (0 : Int32) (0 : Int32) (0 : Int32) z))
def gM_said_L : Nat → Int32 → Int32 → Int32 → sg_M → Option (Int32)
  | 0, _, _, _, _ => none
  | n + 1, v1, v2, v3, z => if (z.1 0) ≤ v3 then (some v2) else (if sg_in ((20 : Int32) + v3) 106 = true then sg_let ((if (z.2 5 ((20 : Int32) + v3).toNatClampNeg) = v1 then (1 : Int32) else (0 : Int32)) : Int32) fun t1 => sg_let (v2 + t1) fun v2_2 => gM_said_L n v1 v2_2 (v3 + (1 : Int32)) z else none)
def gM_said (n : Nat) (a1 : Int32) (z : sg_M) : Option (Int32) := if (gM_in a1.toInt64 (0 : Int64) (9 : Int64)) = (0 : Int32) then (some (-1000000002 : Int32)) else (gM_said_L n a1 (0 : Int32) (0 : Int32) z)
def gM_dry_L : Nat → Int32 → Int32 → Int64 → Int32 → sg_M → Option (Int32)
  | 0, _, _, _, _, _ => none
  | n + 1, v1, v2, v3, v5, z => if v1 ≤ v5 then (some v3.toInt32) else (sg_let ((v3 * v2.toInt64) / (100 : Int64)) fun v3_1 => gM_dry_L n v1 v2 v3_1 (v5 + (1 : Int32)) z)
def gM_dry (n : Nat) (a1 : Int32) (a2 : Int32) (z : sg_M) : Option (Int32) := if (gM_in a1.toInt64 (0 : Int64) (60 : Int64)) = (0 : Int32) then (some (-1000000002 : Int32)) else (if (gM_in a2.toInt64 (0 : Int64) (100 : Int64)) = (0 : Int32) then (some (-1000000002 : Int32)) else (gM_dry_L n a1 a2 (1000000000 : Int64) (0 : Int32) z))
def gM_hear (a1 : Int32) (a2 : Int32) (z : sg_M) : Option (Int32 × sg_M) := if (gM_isCart a1 z) = (0 : Int32) then (some ((-1000000001 : Int32), z)) else (if a2 = (-1 : Int32) then (if (z.1 13) = (6 : Int32) then (some ((-1000000004 : Int32), z)) else (if sg_in (z.1 13) 6 = true then sg_let (sg_w z 14 (z.1 13) a1) fun z1 => if sg_in (z1.1 13) 6 = true then sg_let (sg_w z1 15 (z1.1 13) a2) fun z2 => sg_let (sg_s z2 13 ((z2.1 13) + (1 : Int32))) fun z3 => some (z3.1 13, z3) else none else none)) else (if (gM_isCell a2 z) = (0 : Int32) then (some ((-1000000001 : Int32), z)) else (if (z.1 13) = (6 : Int32) then (some ((-1000000004 : Int32), z)) else (if sg_in (z.1 13) 6 = true then sg_let (sg_w z 14 (z.1 13) a1) fun z4 => if sg_in (z4.1 13) 6 = true then sg_let (sg_w z4 15 (z4.1 13) a2) fun z5 => sg_let (sg_s z5 13 ((z5.1 13) + (1 : Int32))) fun z6 => some (z6.1 13, z6) else none else none))))
def gM_couldBe_L : Nat → Int32 → Int32 → Int32 → sg_M → Option (Int32)
  | 0, _, _, _, _ => none
  | n + 1, v1, v2, v3, z => if (z.1 13) ≤ v3 then (if sg_bool v2 = true then some v2 else none) else (if v2 = (0 : Int32) then (if sg_bool v2 = true then some v2 else none) else (if sg_in v3 6 = true then Option.bind (gM_stopOf n (z.2 14 v3.toNatClampNeg) v1 z) fun r1 => if sg_in v3 6 = true then sg_let ((if r1 = (z.2 15 v3.toNatClampNeg) then (1 : Int32) else (0 : Int32)) : Int32) fun t2 => gM_couldBe_L n v1 t2 (v3 + (1 : Int32)) z else none else none))
def gM_couldBe (n : Nat) (a1 : Int32) (z : sg_M) : Option (Int32) := gM_couldBe_L n a1 (1 : Int32) (0 : Int32) z
def gM_rains_L : Nat → Int32 → Int32 → Int32 → Int32 → Int32 → sg_M → Option (Int32)
  | 0, _, _, _, _, _, _ => none
  | n + 1, v1, v2, v3, v4, v5, z => if (60 : Int32) < v5 then (if v1 = (0 : Int32) then (some v2) else (if v1 = (1 : Int32) then (some v3) else (some v4))) else (Option.bind (gM_couldBe n v5 z) fun r1 => Option.bind ((if r1 = (0 : Int32) then (some (v2, v3, v4)) else (sg_let ((if v2 = (0 : Int32) then v5 else v3) : Int32) fun t2 => some (v2 + (1 : Int32), t2, v5))) : Option (Int32 × Int32 × Int32)) fun t3 => gM_rains_L n v1 t3.1 t3.2.1 t3.2.2 (v5 + (1 : Int32)) z)
def gM_rains (n : Nat) (a1 : Int32) (z : sg_M) : Option (Int32) := if (gM_in a1.toInt64 (0 : Int64) (2 : Int64)) = (0 : Int32) then (some (-1000000002 : Int32)) else (gM_rains_L n a1 (0 : Int32) (-1 : Int32) (-1 : Int32) (0 : Int32) z)
def gM_greatestPart_LL : Nat → Nat → Int32 → Int32 → Int32 → sg_M → Option (Int32 × sg_M)
  | 0, _, _, _, _, _ => none
  | n + 1, k, v1, v2, v3, z => if k = 4 then (if (21 : Int32) ≤ v3 then (gM_greatestPart_LL n 25 v1 v2 (0 : Int32) z) else (if sg_in v3 21 = true then sg_let (sg_w z 16 v3 (0 : Int32)) fun z1 => gM_greatestPart_LL n 4 v1 v2 (v3 + (1 : Int32)) z1 else none)) else (if k = 25 then (if (60 : Int32) < v3 then (some (v2, z)) else (Option.bind (gM_couldBe n v3 z) fun r2 => Option.bind ((if r2 = (0 : Int32) then (some (v2, z)) else (Option.bind (gM_stopOf n v1 v3 z) fun r3 => sg_let (r3 + (1 : Int32)) fun v4_4 => if sg_in v4_4 21 = true then if sg_in v4_4 21 = true then sg_let (sg_w z 16 v4_4 ((z.2 16 v4_4.toNatClampNeg) + (1 : Int32))) fun z5 => if sg_in v4_4 21 = true then Option.bind ((if (z5.2 16 v4_4.toNatClampNeg) ≤ v2 then (some v2) else (if sg_in v4_4 21 = true then some (z5.2 16 v4_4.toNatClampNeg) else none)) : Option (Int32)) fun t6 => some (t6, z5) else none else none else none)) : Option (Int32 × sg_M)) fun t7 => gM_greatestPart_LL n 25 v1 t7.1 (v3 + (1 : Int32)) t7.2)) else none)
def gM_greatestPart (n : Nat) (a1 : Int32) (z : sg_M) : Option (Int32 × sg_M) := gM_greatestPart_LL n 4 a1 (0 : Int32) (0 : Int32) z
def gM_send_L : Nat → Int32 → Int32 → Int32 → sg_M → Option (Int32 × sg_M)
  | 0, _, _, _, _ => none
  | n + 1, v1, v2, v3, z => if (z.1 2) ≤ v3 then (some (v1, z)) else (Option.bind (gM_greatestPart n v3 z) fun r2 => sg_let ((if v2 ≤ r2.1 then v1 else v3) : Int32) fun t3 => sg_let ((if v2 ≤ r2.1 then v2 else r2.1) : Int32) fun t4 => gM_send_L n t3 t4 (v3 + (1 : Int32)) r2.2)
def gM_send (n : Nat) (z : sg_M) : Option (Int32 × sg_M) := Option.bind (gM_rains n (0 : Int32) z) fun r1 => gM_send_L n (-1 : Int32) r1 (0 : Int32) z
def gM_write (a1 : Int32) (a2 : Int32) (z : sg_M) : Option (Int32 × sg_M) := if (gM_isCell a1 z) = (0 : Int32) then (some ((-1000000001 : Int32), z)) else (if (gM_in a2.toInt64 (-1 : Int64) (9999 : Int64)) = (0 : Int32) then (some ((-1000000002 : Int32), z)) else (if (z.1 14) = (15 : Int32) then (some ((-1000000004 : Int32), z)) else (if sg_in (z.1 14) 15 = true then sg_let (sg_w z 17 (z.1 14) a1) fun z1 => if sg_in (z1.1 14) 15 = true then sg_let (sg_w z1 18 (z1.1 14) a2) fun z2 => sg_let (sg_s z2 14 ((z2.1 14) + (1 : Int32))) fun z3 => some (z3.1 14, z3) else none else none)))
def gM_tear (z : sg_M) : Option (Int32 × sg_M) := sg_let ((z.1 13) + (z.1 14)) fun v1_1 => sg_let (sg_s z 13 (0 : Int32)) fun z2 => sg_let (sg_s z2 14 (0 : Int32)) fun z3 => some (v1_1, z3)
def gM_judge_L : Nat → Int32 → sg_M → Option (Int32)
  | 0, _, _ => none
  | n + 1, v1, z => if (z.1 14) ≤ v1 then (some (-1 : Int32)) else (if sg_in v1 15 = true then Option.bind (gM_cell (z.2 17 v1.toNatClampNeg) (4 : Int32) z) fun r1 => if sg_in v1 15 = true then if r1 = (z.2 18 v1.toNatClampNeg) then (gM_judge_L n (v1 + (1 : Int32)) z) else (some v1) else none else none)
def gM_judge (n : Nat) (z : sg_M) : Option (Int32) := gM_judge_L n (0 : Int32) z
def gM_seed (a1 : Int32) (z : sg_M) : Option (Int32 × sg_M) := if (0 : Int32) ≤ a1 then (sg_let (z.1 3) fun v2_1 => sg_let (sg_s z 3 a1) fun z2 => some (v2_1, z2)) else (some ((-1000000002 : Int32), z))
def gM_keep_L : Nat → Int32 → Int32 → sg_M → Option (Int32 × sg_M)
  | 0, _, _, _ => none
  | n + 1, v1, v2, z => if (106 : Int32) ≤ v2 then (if sg_in (((107 : Int32) * v1) + (106 : Int32)) 214 = true then sg_let (sg_w z 19 (((107 : Int32) * v1) + (106 : Int32)) (z.1 3)) fun z1 => if sg_in v1 2 = true then sg_let (sg_w z1 20 v1 (vp_nar .boolean (1 : Int32))) fun z2 => sg_let (sg_s z2 12 (0 : Int32)) fun z3 => some ((1 : Int32), z3) else none else none) else (if sg_in v2 106 = true then if sg_in (((107 : Int32) * v1) + v2) 214 = true then sg_let (sg_w z 19 (((107 : Int32) * v1) + v2) (z.2 5 v2.toNatClampNeg)) fun z4 => gM_keep_L n v1 (v2 + (1 : Int32)) z4 else none else none)
def gM_keep (n : Nat) (a1 : Int32) (z : sg_M) : Option (Int32 × sg_M) := if (gM_in a1.toInt64 (0 : Int64) (1 : Int64)) = (0 : Int32) then (some ((-1000000001 : Int32), z)) else (gM_keep_L n a1 (0 : Int32) z)
def gM_goBack_L : Nat → Int32 → Int32 → sg_M → Option (Int32 × sg_M)
  | 0, _, _, _ => none
  | n + 1, v1, v2, z => if (106 : Int32) ≤ v2 then (if sg_in (((107 : Int32) * v1) + (106 : Int32)) 214 = true then sg_let (sg_s z 3 (z.2 19 (((107 : Int32) * v1) + (106 : Int32)).toNatClampNeg)) fun z1 => sg_let (sg_s z1 12 (0 : Int32)) fun z2 => some ((1 : Int32), z2) else none) else (if sg_in (((107 : Int32) * v1) + v2) 214 = true then if sg_in v2 106 = true then sg_let (sg_w z 5 v2 (z.2 19 (((107 : Int32) * v1) + v2).toNatClampNeg)) fun z3 => gM_goBack_L n v1 (v2 + (1 : Int32)) z3 else none else none)
def gM_goBack (n : Nat) (a1 : Int32) (z : sg_M) : Option (Int32 × sg_M) := if (gM_in a1.toInt64 (0 : Int64) (1 : Int64)) = (0 : Int32) then (some ((-1000000001 : Int32), z)) else (if sg_in a1 2 = true then if (z.2 20 a1.toNatClampNeg) = (0 : Int32) then (some ((-1000000003 : Int32), z)) else (gM_goBack_L n a1 (0 : Int32) z) else none)
end
