section
/-- a private method of a class that the tables say can be made, by its rows of tables_1 -/
def lw_okq (q : MethodName × Nat) : Prop := (q.1.cls ≠ "java/lang/invoke/MethodHandle" ∧ q.1.cls ≠ "java/lang/invoke/VarHandle") ∧ Cond.instantiable q.1.cls q.2 ∈ tables_1 ∧ Cond.privateMethod q.1 ∈ tables_1 ∧ Cond.instanceMethod q.1 ∈ tables_1
theorem lw_p0 : lw_okq (⟨"StuckTowns$Reader", "nextLetter", "()I"⟩, 7) := ⟨⟨by decide +kernel, by decide +kernel⟩, List.mem_of_getElem? (i := 27) (by decide +kernel), List.mem_of_getElem? (i := 410) (by decide +kernel), List.mem_of_getElem? (i := 411) (by decide +kernel)⟩
theorem lw_p1 : lw_okq (⟨"StuckTowns$Reader", "readClause", "()V"⟩, 7) := ⟨⟨by decide +kernel, by decide +kernel⟩, List.mem_of_getElem? (i := 27) (by decide +kernel), List.mem_of_getElem? (i := 414) (by decide +kernel), List.mem_of_getElem? (i := 415) (by decide +kernel)⟩
theorem lw_p2 : lw_okq (⟨"StuckTowns$Reader", "fail", "(II)V"⟩, 7) := ⟨⟨by decide +kernel, by decide +kernel⟩, List.mem_of_getElem? (i := 27) (by decide +kernel), List.mem_of_getElem? (i := 418) (by decide +kernel), List.mem_of_getElem? (i := 419) (by decide +kernel)⟩
theorem lw_p3 : lw_okq (⟨"StuckTowns$Reader", "isOneTooMany", "(I)Z"⟩, 7) := ⟨⟨by decide +kernel, by decide +kernel⟩, List.mem_of_getElem? (i := 27) (by decide +kernel), List.mem_of_getElem? (i := 422) (by decide +kernel), List.mem_of_getElem? (i := 423) (by decide +kernel)⟩
theorem lw_p4 : lw_okq (⟨"StuckTowns$Reader", "readRest", "(I)V"⟩, 7) := ⟨⟨by decide +kernel, by decide +kernel⟩, List.mem_of_getElem? (i := 27) (by decide +kernel), List.mem_of_getElem? (i := 426) (by decide +kernel), List.mem_of_getElem? (i := 427) (by decide +kernel)⟩
theorem lw_p5 : lw_okq (⟨"StuckTowns$Reader", "readRow", "([IIII)I"⟩, 7) := ⟨⟨by decide +kernel, by decide +kernel⟩, List.mem_of_getElem? (i := 27) (by decide +kernel), List.mem_of_getElem? (i := 430) (by decide +kernel), List.mem_of_getElem? (i := 431) (by decide +kernel)⟩
theorem lw_p6 : lw_okq (⟨"StuckTowns$Reader", "readNumber", "(II)I"⟩, 7) := ⟨⟨by decide +kernel, by decide +kernel⟩, List.mem_of_getElem? (i := 27) (by decide +kernel), List.mem_of_getElem? (i := 434) (by decide +kernel), List.mem_of_getElem? (i := 435) (by decide +kernel)⟩
theorem lw_p7 : lw_okq (⟨"StuckTowns$Reader", "isFigure", "(I)Z"⟩, 7) := ⟨⟨by decide +kernel, by decide +kernel⟩, List.mem_of_getElem? (i := 27) (by decide +kernel), List.mem_of_getElem? (i := 438) (by decide +kernel), List.mem_of_getElem? (i := 439) (by decide +kernel)⟩
theorem lw_p8 : lw_okq (⟨"StuckTowns$Reader", "readCart", "()V"⟩, 7) := ⟨⟨by decide +kernel, by decide +kernel⟩, List.mem_of_getElem? (i := 27) (by decide +kernel), List.mem_of_getElem? (i := 442) (by decide +kernel), List.mem_of_getElem? (i := 443) (by decide +kernel)⟩
theorem lw_p9 : lw_okq (⟨"StuckTowns$Survey", "distanceWith", "(II)I"⟩, 2) := ⟨⟨by decide +kernel, by decide +kernel⟩, List.mem_of_getElem? (i := 186) (by decide +kernel), List.mem_of_getElem? (i := 522) (by decide +kernel), List.mem_of_getElem? (i := 523) (by decide +kernel)⟩
theorem lw_p10 : lw_okq (⟨"StuckTowns$Kingdom", "settle", "(II)V"⟩, 2) := ⟨⟨by decide +kernel, by decide +kernel⟩, List.mem_of_getElem? (i := 173) (by decide +kernel), List.mem_of_getElem? (i := 593) (by decide +kernel), List.mem_of_getElem? (i := 594) (by decide +kernel)⟩
theorem lw_p11 : lw_okq (⟨"StuckTowns", "refusalOfDays", "(I)I"⟩, 12) := ⟨⟨by decide +kernel, by decide +kernel⟩, List.mem_of_getElem? (i := 19) (by decide +kernel), List.mem_of_getElem? (i := 613) (by decide +kernel), List.mem_of_getElem? (i := 614) (by decide +kernel)⟩
theorem lw_p12 : lw_okq (⟨"StuckTowns", "doByDraw", "()V"⟩, 12) := ⟨⟨by decide +kernel, by decide +kernel⟩, List.mem_of_getElem? (i := 19) (by decide +kernel), List.mem_of_getElem? (i := 650) (by decide +kernel), List.mem_of_getElem? (i := 651) (by decide +kernel)⟩
theorem lw_p13 : lw_okq (⟨"StuckTowns", "drawOf", "(I)I"⟩, 12) := ⟨⟨by decide +kernel, by decide +kernel⟩, List.mem_of_getElem? (i := 19) (by decide +kernel), List.mem_of_getElem? (i := 654) (by decide +kernel), List.mem_of_getElem? (i := 655) (by decide +kernel)⟩
theorem lw_p14 : lw_okq (⟨"StuckTowns$Trials", "greatestNeedAt", "(II)I"⟩, 5) := ⟨⟨by decide +kernel, by decide +kernel⟩, List.mem_of_getElem? (i := 199) (by decide +kernel), List.mem_of_getElem? (i := 718) (by decide +kernel), List.mem_of_getElem? (i := 719) (by decide +kernel)⟩
theorem lw_p15 : lw_okq (⟨"StuckTowns$Trials", "needAt", "(II)I"⟩, 5) := ⟨⟨by decide +kernel, by decide +kernel⟩, List.mem_of_getElem? (i := 199) (by decide +kernel), List.mem_of_getElem? (i := 722) (by decide +kernel), List.mem_of_getElem? (i := 723) (by decide +kernel)⟩
def lw_privs_1 : List (MethodName × Nat) := [(⟨"StuckTowns$Reader", "nextLetter", "()I"⟩, 7), (⟨"StuckTowns$Reader", "readClause", "()V"⟩, 7), (⟨"StuckTowns$Reader", "fail", "(II)V"⟩, 7), (⟨"StuckTowns$Reader", "isOneTooMany", "(I)Z"⟩, 7), (⟨"StuckTowns$Reader", "readRest", "(I)V"⟩, 7), (⟨"StuckTowns$Reader", "readRow", "([IIII)I"⟩, 7), (⟨"StuckTowns$Reader", "readNumber", "(II)I"⟩, 7), (⟨"StuckTowns$Reader", "isFigure", "(I)Z"⟩, 7), (⟨"StuckTowns$Reader", "readCart", "()V"⟩, 7), (⟨"StuckTowns$Survey", "distanceWith", "(II)I"⟩, 2), (⟨"StuckTowns$Kingdom", "settle", "(II)V"⟩, 2), (⟨"StuckTowns", "refusalOfDays", "(I)I"⟩, 12), (⟨"StuckTowns", "doByDraw", "()V"⟩, 12), (⟨"StuckTowns", "drawOf", "(I)I"⟩, 12), (⟨"StuckTowns$Trials", "greatestNeedAt", "(II)I"⟩, 5), (⟨"StuckTowns$Trials", "needAt", "(II)I"⟩, 5)]
theorem lw_r1 : ∀ q ∈ lw_privs_1, lw_okq q := List.forall_mem_cons.mpr ⟨lw_p0, List.forall_mem_cons.mpr ⟨lw_p1, List.forall_mem_cons.mpr ⟨lw_p2, List.forall_mem_cons.mpr ⟨lw_p3, List.forall_mem_cons.mpr ⟨lw_p4, List.forall_mem_cons.mpr ⟨lw_p5, List.forall_mem_cons.mpr ⟨lw_p6, List.forall_mem_cons.mpr ⟨lw_p7, List.forall_mem_cons.mpr ⟨lw_p8, List.forall_mem_cons.mpr ⟨lw_p9, List.forall_mem_cons.mpr ⟨lw_p10, List.forall_mem_cons.mpr ⟨lw_p11, List.forall_mem_cons.mpr ⟨lw_p12, List.forall_mem_cons.mpr ⟨lw_p13, List.forall_mem_cons.mpr ⟨lw_p14, List.forall_mem_cons.mpr ⟨lw_p15, fun _ h => absurd h List.not_mem_nil⟩⟩⟩⟩⟩⟩⟩⟩⟩⟩⟩⟩⟩⟩⟩⟩
theorem lw_p16 : lw_okq (⟨"StuckTowns$Orders", "sendNext", "(IIIII)V"⟩, 5) := ⟨⟨by decide +kernel, by decide +kernel⟩, List.mem_of_getElem? (i := 237) (by decide +kernel), List.mem_of_getElem? (i := 752) (by decide +kernel), List.mem_of_getElem? (i := 753) (by decide +kernel)⟩
theorem lw_p17 : lw_okq (⟨"StuckTowns$Guesses", "isAsHeard", "(I)Z"⟩, 7) := ⟨⟨by decide +kernel, by decide +kernel⟩, List.mem_of_getElem? (i := 286) (by decide +kernel), List.mem_of_getElem? (i := 805) (by decide +kernel), List.mem_of_getElem? (i := 806) (by decide +kernel)⟩
theorem lw_p18 : lw_okq (⟨"StuckTowns$Guesses", "greatestPart", "(I)I"⟩, 7) := ⟨⟨by decide +kernel, by decide +kernel⟩, List.mem_of_getElem? (i := 286) (by decide +kernel), List.mem_of_getElem? (i := 822) (by decide +kernel), List.mem_of_getElem? (i := 823) (by decide +kernel)⟩
theorem lw_p19 : lw_okq (⟨"StuckTownsModel", "here", "()I"⟩, 36) := ⟨⟨by decide +kernel, by decide +kernel⟩, List.mem_of_getElem? (i := 874) (by decide +kernel), List.mem_of_getElem? (i := 1003) (by decide +kernel), List.mem_of_getElem? (i := 1004) (by decide +kernel)⟩
theorem lw_p20 : lw_okq (⟨"StuckTownsModel", "takeClause", "()I"⟩, 36) := ⟨⟨by decide +kernel, by decide +kernel⟩, List.mem_of_getElem? (i := 874) (by decide +kernel), List.mem_of_getElem? (i := 1007) (by decide +kernel), List.mem_of_getElem? (i := 1008) (by decide +kernel)⟩
theorem lw_p21 : lw_okq (⟨"StuckTownsModel", "fails", "(II)I"⟩, 36) := ⟨⟨by decide +kernel, by decide +kernel⟩, List.mem_of_getElem? (i := 874) (by decide +kernel), List.mem_of_getElem? (i := 1011) (by decide +kernel), List.mem_of_getElem? (i := 1012) (by decide +kernel)⟩
theorem lw_p22 : lw_okq (⟨"StuckTownsModel", "takeRoad", "()I"⟩, 36) := ⟨⟨by decide +kernel, by decide +kernel⟩, List.mem_of_getElem? (i := 874) (by decide +kernel), List.mem_of_getElem? (i := 1015) (by decide +kernel), List.mem_of_getElem? (i := 1016) (by decide +kernel)⟩
theorem lw_p23 : lw_okq (⟨"StuckTownsModel", "into", "([IIII)I"⟩, 36) := ⟨⟨by decide +kernel, by decide +kernel⟩, List.mem_of_getElem? (i := 874) (by decide +kernel), List.mem_of_getElem? (i := 1019) (by decide +kernel), List.mem_of_getElem? (i := 1020) (by decide +kernel)⟩
theorem lw_p24 : lw_okq (⟨"StuckTownsModel", "takeNumber", "(II)I"⟩, 36) := ⟨⟨by decide +kernel, by decide +kernel⟩, List.mem_of_getElem? (i := 874) (by decide +kernel), List.mem_of_getElem? (i := 1023) (by decide +kernel), List.mem_of_getElem? (i := 1024) (by decide +kernel)⟩
theorem lw_p25 : lw_okq (⟨"StuckTownsModel", "takeWeather", "()I"⟩, 36) := ⟨⟨by decide +kernel, by decide +kernel⟩, List.mem_of_getElem? (i := 874) (by decide +kernel), List.mem_of_getElem? (i := 1029) (by decide +kernel), List.mem_of_getElem? (i := 1030) (by decide +kernel)⟩
theorem lw_p26 : lw_okq (⟨"StuckTownsModel", "takeCart", "()I"⟩, 36) := ⟨⟨by decide +kernel, by decide +kernel⟩, List.mem_of_getElem? (i := 874) (by decide +kernel), List.mem_of_getElem? (i := 1033) (by decide +kernel), List.mem_of_getElem? (i := 1034) (by decide +kernel)⟩
theorem lw_p27 : lw_okq (⟨"StuckTownsModel", "takeRead", "()V"⟩, 36) := ⟨⟨by decide +kernel, by decide +kernel⟩, List.mem_of_getElem? (i := 874) (by decide +kernel), List.mem_of_getElem? (i := 1037) (by decide +kernel), List.mem_of_getElem? (i := 1038) (by decide +kernel)⟩
theorem lw_p28 : lw_okq (⟨"StuckTownsModel", "wet", "()I"⟩, 36) := ⟨⟨by decide +kernel, by decide +kernel⟩, List.mem_of_getElem? (i := 874) (by decide +kernel), List.mem_of_getElem? (i := 1052) (by decide +kernel), List.mem_of_getElem? (i := 1053) (by decide +kernel)⟩
theorem lw_p29 : lw_okq (⟨"StuckTownsModel", "wetBehind", "(I)I"⟩, 36) := ⟨⟨by decide +kernel, by decide +kernel⟩, List.mem_of_getElem? (i := 874) (by decide +kernel), List.mem_of_getElem? (i := 1056) (by decide +kernel), List.mem_of_getElem? (i := 1057) (by decide +kernel)⟩
theorem lw_p30 : lw_okq (⟨"StuckTownsModel", "weatherOf", "(I)I"⟩, 36) := ⟨⟨by decide +kernel, by decide +kernel⟩, List.mem_of_getElem? (i := 874) (by decide +kernel), List.mem_of_getElem? (i := 1060) (by decide +kernel), List.mem_of_getElem? (i := 1061) (by decide +kernel)⟩
theorem lw_p31 : lw_okq (⟨"StuckTownsModel", "towns", "()I"⟩, 36) := ⟨⟨by decide +kernel, by decide +kernel⟩, List.mem_of_getElem? (i := 874) (by decide +kernel), List.mem_of_getElem? (i := 1064) (by decide +kernel), List.mem_of_getElem? (i := 1065) (by decide +kernel)⟩
def lw_privs_2 : List (MethodName × Nat) := [(⟨"StuckTowns$Orders", "sendNext", "(IIIII)V"⟩, 5), (⟨"StuckTowns$Guesses", "isAsHeard", "(I)Z"⟩, 7), (⟨"StuckTowns$Guesses", "greatestPart", "(I)I"⟩, 7), (⟨"StuckTownsModel", "here", "()I"⟩, 36), (⟨"StuckTownsModel", "takeClause", "()I"⟩, 36), (⟨"StuckTownsModel", "fails", "(II)I"⟩, 36), (⟨"StuckTownsModel", "takeRoad", "()I"⟩, 36), (⟨"StuckTownsModel", "into", "([IIII)I"⟩, 36), (⟨"StuckTownsModel", "takeNumber", "(II)I"⟩, 36), (⟨"StuckTownsModel", "takeWeather", "()I"⟩, 36), (⟨"StuckTownsModel", "takeCart", "()I"⟩, 36), (⟨"StuckTownsModel", "takeRead", "()V"⟩, 36), (⟨"StuckTownsModel", "wet", "()I"⟩, 36), (⟨"StuckTownsModel", "wetBehind", "(I)I"⟩, 36), (⟨"StuckTownsModel", "weatherOf", "(I)I"⟩, 36), (⟨"StuckTownsModel", "towns", "()I"⟩, 36)]
theorem lw_r2 : ∀ q ∈ lw_privs_2, lw_okq q := List.forall_mem_cons.mpr ⟨lw_p16, List.forall_mem_cons.mpr ⟨lw_p17, List.forall_mem_cons.mpr ⟨lw_p18, List.forall_mem_cons.mpr ⟨lw_p19, List.forall_mem_cons.mpr ⟨lw_p20, List.forall_mem_cons.mpr ⟨lw_p21, List.forall_mem_cons.mpr ⟨lw_p22, List.forall_mem_cons.mpr ⟨lw_p23, List.forall_mem_cons.mpr ⟨lw_p24, List.forall_mem_cons.mpr ⟨lw_p25, List.forall_mem_cons.mpr ⟨lw_p26, List.forall_mem_cons.mpr ⟨lw_p27, List.forall_mem_cons.mpr ⟨lw_p28, List.forall_mem_cons.mpr ⟨lw_p29, List.forall_mem_cons.mpr ⟨lw_p30, List.forall_mem_cons.mpr ⟨lw_p31, fun _ h => absurd h List.not_mem_nil⟩⟩⟩⟩⟩⟩⟩⟩⟩⟩⟩⟩⟩⟩⟩⟩
theorem lw_p32 : lw_okq (⟨"StuckTownsModel", "isTown", "(I)Z"⟩, 36) := ⟨⟨by decide +kernel, by decide +kernel⟩, List.mem_of_getElem? (i := 874) (by decide +kernel), List.mem_of_getElem? (i := 1068) (by decide +kernel), List.mem_of_getElem? (i := 1069) (by decide +kernel)⟩
theorem lw_p33 : lw_okq (⟨"StuckTownsModel", "stuckOnes", "()I"⟩, 36) := ⟨⟨by decide +kernel, by decide +kernel⟩, List.mem_of_getElem? (i := 874) (by decide +kernel), List.mem_of_getElem? (i := 1072) (by decide +kernel), List.mem_of_getElem? (i := 1073) (by decide +kernel)⟩
theorem lw_p34 : lw_okq (⟨"StuckTownsModel", "stopper", "()I"⟩, 36) := ⟨⟨by decide +kernel, by decide +kernel⟩, List.mem_of_getElem? (i := 874) (by decide +kernel), List.mem_of_getElem? (i := 1076) (by decide +kernel), List.mem_of_getElem? (i := 1077) (by decide +kernel)⟩
theorem lw_p35 : lw_okq (⟨"StuckTownsModel", "stopOf", "(II)I"⟩, 36) := ⟨⟨by decide +kernel, by decide +kernel⟩, List.mem_of_getElem? (i := 874) (by decide +kernel), List.mem_of_getElem? (i := 1080) (by decide +kernel), List.mem_of_getElem? (i := 1081) (by decide +kernel)⟩
theorem lw_p36 : lw_okq (⟨"StuckTownsModel", "stopBy", "(III)I"⟩, 36) := ⟨⟨by decide +kernel, by decide +kernel⟩, List.mem_of_getElem? (i := 874) (by decide +kernel), List.mem_of_getElem? (i := 1084) (by decide +kernel), List.mem_of_getElem? (i := 1085) (by decide +kernel)⟩
theorem lw_p37 : lw_okq (⟨"StuckTownsModel", "groundOf", "(III)I"⟩, 36) := ⟨⟨by decide +kernel, by decide +kernel⟩, List.mem_of_getElem? (i := 874) (by decide +kernel), List.mem_of_getElem? (i := 1088) (by decide +kernel), List.mem_of_getElem? (i := 1089) (by decide +kernel)⟩
theorem lw_p38 : lw_okq (⟨"StuckTownsModel", "weighs", "(II)I"⟩, 36) := ⟨⟨by decide +kernel, by decide +kernel⟩, List.mem_of_getElem? (i := 874) (by decide +kernel), List.mem_of_getElem? (i := 1095) (by decide +kernel), List.mem_of_getElem? (i := 1096) (by decide +kernel)⟩
theorem lw_p39 : lw_okq (⟨"StuckTownsModel", "farOf", "()I"⟩, 36) := ⟨⟨by decide +kernel, by decide +kernel⟩, List.mem_of_getElem? (i := 874) (by decide +kernel), List.mem_of_getElem? (i := 1099) (by decide +kernel), List.mem_of_getElem? (i := 1100) (by decide +kernel)⟩
theorem lw_p40 : lw_okq (⟨"StuckTownsModel", "distanceTo", "(II)I"⟩, 36) := ⟨⟨by decide +kernel, by decide +kernel⟩, List.mem_of_getElem? (i := 874) (by decide +kernel), List.mem_of_getElem? (i := 1103) (by decide +kernel), List.mem_of_getElem? (i := 1104) (by decide +kernel)⟩
theorem lw_p41 : lw_okq (⟨"StuckTownsModel", "longest", "()I"⟩, 36) := ⟨⟨by decide +kernel, by decide +kernel⟩, List.mem_of_getElem? (i := 874) (by decide +kernel), List.mem_of_getElem? (i := 1111) (by decide +kernel), List.mem_of_getElem? (i := 1112) (by decide +kernel)⟩
theorem lw_p42 : lw_okq (⟨"StuckTownsModel", "biggest", "()I"⟩, 36) := ⟨⟨by decide +kernel, by decide +kernel⟩, List.mem_of_getElem? (i := 874) (by decide +kernel), List.mem_of_getElem? (i := 1115) (by decide +kernel), List.mem_of_getElem? (i := 1116) (by decide +kernel)⟩
theorem lw_p43 : lw_okq (⟨"StuckTownsModel", "allFolk", "()I"⟩, 36) := ⟨⟨by decide +kernel, by decide +kernel⟩, List.mem_of_getElem? (i := 874) (by decide +kernel), List.mem_of_getElem? (i := 1119) (by decide +kernel), List.mem_of_getElem? (i := 1120) (by decide +kernel)⟩
theorem lw_p44 : lw_okq (⟨"StuckTownsModel", "isCell", "(I)Z"⟩, 36) := ⟨⟨by decide +kernel, by decide +kernel⟩, List.mem_of_getElem? (i := 874) (by decide +kernel), List.mem_of_getElem? (i := 1127) (by decide +kernel), List.mem_of_getElem? (i := 1128) (by decide +kernel)⟩
theorem lw_p45 : lw_okq (⟨"StuckTownsModel", "isCart", "(I)Z"⟩, 36) := ⟨⟨by decide +kernel, by decide +kernel⟩, List.mem_of_getElem? (i := 874) (by decide +kernel), List.mem_of_getElem? (i := 1136) (by decide +kernel), List.mem_of_getElem? (i := 1137) (by decide +kernel)⟩
theorem lw_p46 : lw_okq (⟨"StuckTownsModel", "mayorOf", "(I)I"⟩, 36) := ⟨⟨by decide +kernel, by decide +kernel⟩, List.mem_of_getElem? (i := 874) (by decide +kernel), List.mem_of_getElem? (i := 1140) (by decide +kernel), List.mem_of_getElem? (i := 1141) (by decide +kernel)⟩
theorem lw_p47 : lw_okq (⟨"StuckTownsModel", "remember", "()V"⟩, 36) := ⟨⟨by decide +kernel, by decide +kernel⟩, List.mem_of_getElem? (i := 874) (by decide +kernel), List.mem_of_getElem? (i := 1153) (by decide +kernel), List.mem_of_getElem? (i := 1154) (by decide +kernel)⟩
def lw_privs_3 : List (MethodName × Nat) := [(⟨"StuckTownsModel", "isTown", "(I)Z"⟩, 36), (⟨"StuckTownsModel", "stuckOnes", "()I"⟩, 36), (⟨"StuckTownsModel", "stopper", "()I"⟩, 36), (⟨"StuckTownsModel", "stopOf", "(II)I"⟩, 36), (⟨"StuckTownsModel", "stopBy", "(III)I"⟩, 36), (⟨"StuckTownsModel", "groundOf", "(III)I"⟩, 36), (⟨"StuckTownsModel", "weighs", "(II)I"⟩, 36), (⟨"StuckTownsModel", "farOf", "()I"⟩, 36), (⟨"StuckTownsModel", "distanceTo", "(II)I"⟩, 36), (⟨"StuckTownsModel", "longest", "()I"⟩, 36), (⟨"StuckTownsModel", "biggest", "()I"⟩, 36), (⟨"StuckTownsModel", "allFolk", "()I"⟩, 36), (⟨"StuckTownsModel", "isCell", "(I)Z"⟩, 36), (⟨"StuckTownsModel", "isCart", "(I)Z"⟩, 36), (⟨"StuckTownsModel", "mayorOf", "(I)I"⟩, 36), (⟨"StuckTownsModel", "remember", "()V"⟩, 36)]
theorem lw_r3 : ∀ q ∈ lw_privs_3, lw_okq q := List.forall_mem_cons.mpr ⟨lw_p32, List.forall_mem_cons.mpr ⟨lw_p33, List.forall_mem_cons.mpr ⟨lw_p34, List.forall_mem_cons.mpr ⟨lw_p35, List.forall_mem_cons.mpr ⟨lw_p36, List.forall_mem_cons.mpr ⟨lw_p37, List.forall_mem_cons.mpr ⟨lw_p38, List.forall_mem_cons.mpr ⟨lw_p39, List.forall_mem_cons.mpr ⟨lw_p40, List.forall_mem_cons.mpr ⟨lw_p41, List.forall_mem_cons.mpr ⟨lw_p42, List.forall_mem_cons.mpr ⟨lw_p43, List.forall_mem_cons.mpr ⟨lw_p44, List.forall_mem_cons.mpr ⟨lw_p45, List.forall_mem_cons.mpr ⟨lw_p46, List.forall_mem_cons.mpr ⟨lw_p47, fun _ h => absurd h List.not_mem_nil⟩⟩⟩⟩⟩⟩⟩⟩⟩⟩⟩⟩⟩⟩⟩⟩
theorem lw_p48 : lw_okq (⟨"StuckTownsModel", "driveNow", "(I)I"⟩, 36) := ⟨⟨by decide +kernel, by decide +kernel⟩, List.mem_of_getElem? (i := 874) (by decide +kernel), List.mem_of_getElem? (i := 1157) (by decide +kernel), List.mem_of_getElem? (i := 1158) (by decide +kernel)⟩
theorem lw_p49 : lw_okq (⟨"StuckTownsModel", "pullNow", "(I)I"⟩, 36) := ⟨⟨by decide +kernel, by decide +kernel⟩, List.mem_of_getElem? (i := 874) (by decide +kernel), List.mem_of_getElem? (i := 1165) (by decide +kernel), List.mem_of_getElem? (i := 1166) (by decide +kernel)⟩
theorem lw_p50 : lw_okq (⟨"StuckTownsModel", "daysRefused", "(I)I"⟩, 36) := ⟨⟨by decide +kernel, by decide +kernel⟩, List.mem_of_getElem? (i := 874) (by decide +kernel), List.mem_of_getElem? (i := 1173) (by decide +kernel), List.mem_of_getElem? (i := 1174) (by decide +kernel)⟩
theorem lw_p51 : lw_okq (⟨"StuckTownsModel", "pass", "()V"⟩, 36) := ⟨⟨by decide +kernel, by decide +kernel⟩, List.mem_of_getElem? (i := 874) (by decide +kernel), List.mem_of_getElem? (i := 1178) (by decide +kernel), List.mem_of_getElem? (i := 1179) (by decide +kernel)⟩
theorem lw_p52 : lw_okq (⟨"StuckTownsModel", "layNow", "(II)V"⟩, 36) := ⟨⟨by decide +kernel, by decide +kernel⟩, List.mem_of_getElem? (i := 874) (by decide +kernel), List.mem_of_getElem? (i := 1187) (by decide +kernel), List.mem_of_getElem? (i := 1188) (by decide +kernel)⟩
theorem lw_p53 : lw_okq (⟨"StuckTownsModel", "chance", "()V"⟩, 36) := ⟨⟨by decide +kernel, by decide +kernel⟩, List.mem_of_getElem? (i := 874) (by decide +kernel), List.mem_of_getElem? (i := 1207) (by decide +kernel), List.mem_of_getElem? (i := 1208) (by decide +kernel)⟩
theorem lw_p54 : lw_okq (⟨"StuckTownsModel", "draw", "(I)I"⟩, 36) := ⟨⟨by decide +kernel, by decide +kernel⟩, List.mem_of_getElem? (i := 874) (by decide +kernel), List.mem_of_getElem? (i := 1211) (by decide +kernel), List.mem_of_getElem? (i := 1212) (by decide +kernel)⟩
theorem lw_p55 : lw_okq (⟨"StuckTownsModel", "needOf", "(II)I"⟩, 36) := ⟨⟨by decide +kernel, by decide +kernel⟩, List.mem_of_getElem? (i := 874) (by decide +kernel), List.mem_of_getElem? (i := 1241) (by decide +kernel), List.mem_of_getElem? (i := 1242) (by decide +kernel)⟩
theorem lw_p56 : lw_okq (⟨"StuckTownsModel", "isSet", "(I)Z"⟩, 36) := ⟨⟨by decide +kernel, by decide +kernel⟩, List.mem_of_getElem? (i := 874) (by decide +kernel), List.mem_of_getElem? (i := 1249) (by decide +kernel), List.mem_of_getElem? (i := 1250) (by decide +kernel)⟩
theorem lw_p57 : lw_okq (⟨"StuckTownsModel", "foundedBy", "(III)I"⟩, 36) := ⟨⟨by decide +kernel, by decide +kernel⟩, List.mem_of_getElem? (i := 874) (by decide +kernel), List.mem_of_getElem? (i := 1260) (by decide +kernel), List.mem_of_getElem? (i := 1261) (by decide +kernel)⟩
theorem lw_p58 : lw_okq (⟨"StuckTownsModel", "couldBe", "(I)Z"⟩, 36) := ⟨⟨by decide +kernel, by decide +kernel⟩, List.mem_of_getElem? (i := 874) (by decide +kernel), List.mem_of_getElem? (i := 1286) (by decide +kernel), List.mem_of_getElem? (i := 1287) (by decide +kernel)⟩
theorem lw_p59 : lw_okq (⟨"StuckTownsModel", "greatestPart", "(I)I"⟩, 36) := ⟨⟨by decide +kernel, by decide +kernel⟩, List.mem_of_getElem? (i := 874) (by decide +kernel), List.mem_of_getElem? (i := 1295) (by decide +kernel), List.mem_of_getElem? (i := 1296) (by decide +kernel)⟩
def lw_privs_4 : List (MethodName × Nat) := [(⟨"StuckTownsModel", "driveNow", "(I)I"⟩, 36), (⟨"StuckTownsModel", "pullNow", "(I)I"⟩, 36), (⟨"StuckTownsModel", "daysRefused", "(I)I"⟩, 36), (⟨"StuckTownsModel", "pass", "()V"⟩, 36), (⟨"StuckTownsModel", "layNow", "(II)V"⟩, 36), (⟨"StuckTownsModel", "chance", "()V"⟩, 36), (⟨"StuckTownsModel", "draw", "(I)I"⟩, 36), (⟨"StuckTownsModel", "needOf", "(II)I"⟩, 36), (⟨"StuckTownsModel", "isSet", "(I)Z"⟩, 36), (⟨"StuckTownsModel", "foundedBy", "(III)I"⟩, 36), (⟨"StuckTownsModel", "couldBe", "(I)Z"⟩, 36), (⟨"StuckTownsModel", "greatestPart", "(I)I"⟩, 36)]
theorem lw_r4 : ∀ q ∈ lw_privs_4, lw_okq q := List.forall_mem_cons.mpr ⟨lw_p48, List.forall_mem_cons.mpr ⟨lw_p49, List.forall_mem_cons.mpr ⟨lw_p50, List.forall_mem_cons.mpr ⟨lw_p51, List.forall_mem_cons.mpr ⟨lw_p52, List.forall_mem_cons.mpr ⟨lw_p53, List.forall_mem_cons.mpr ⟨lw_p54, List.forall_mem_cons.mpr ⟨lw_p55, List.forall_mem_cons.mpr ⟨lw_p56, List.forall_mem_cons.mpr ⟨lw_p57, List.forall_mem_cons.mpr ⟨lw_p58, List.forall_mem_cons.mpr ⟨lw_p59, fun _ h => absurd h List.not_mem_nil⟩⟩⟩⟩⟩⟩⟩⟩⟩⟩⟩⟩
def lw_privs : List (MethodName × Nat) := lw_privs_1 ++ (lw_privs_2 ++ (lw_privs_3 ++ (lw_privs_4)))
def lw_tbl : List Cond := k2_sels lw_privs ++ tables_1
theorem lw_privs_ok : ∀ q ∈ lw_privs, lw_okq q := by
  show ∀ q ∈ lw_privs_1 ++ (lw_privs_2 ++ (lw_privs_3 ++ (lw_privs_4))), lw_okq q
  exact List.forall_mem_append.mpr ⟨lw_r1, List.forall_mem_append.mpr ⟨lw_r2, List.forall_mem_append.mpr ⟨lw_r3, lw_r4⟩⟩⟩
end
section
def RX0 : String := "StuckTowns$Entries"
def TX0 : u_T := fun k => match k with
  | 0 => ("StuckTowns$Entries", "count", "I", false)
  | 1 => ("StuckTowns$Entries", "first", "[I", true)
  | _ => ("StuckTowns$Entries", "second", "[I", true)
def tyX0 : Nat → FieldType := fun k => match k with
  | 0 => .int
  | 1 => .array .int
  | _ => .array .int
theorem nmX0 : ∀ a, a < 3 → ∀ b, b < 3 → a ≠ b → (TX0 a).2.1 ≠ (TX0 b).2.1 := by decide +kernel
theorem tyX0_ok : ∀ k, k < 3 → parseFieldDescriptor (TX0 k).2.2.1 = some (tyX0 k) := by decide +kernel
abbrev cX0_init : ByteArray := prog_2_method_1_code
def yX0_init : MethodName := ⟨RX0, "<init>", "(I)V"⟩
abbrev cX0_isFull : ByteArray := prog_2_method_2_code
def yX0_isFull : MethodName := ⟨RX0, "isFull", "()Z"⟩
abbrev cX0_append : ByteArray := prog_2_method_3_code
def yX0_append : MethodName := ⟨RX0, "append", "(II)V"⟩
def RX1 : String := "StuckTowns$Guesses"
def TX1 : u_T := fun k => match k with
  | 0 => ("StuckTowns$Guesses", "map", "LStuckTowns$Road;", true)
  | 1 => ("StuckTowns$Guesses", "now", "LStuckTowns$State;", true)
  | 2 => ("StuckTowns$Guesses", "kingdom", "LStuckTowns$Kingdom;", true)
  | 3 => ("StuckTowns$Guesses", "heard", "LStuckTowns$Entries;", true)
  | 4 => ("StuckTowns$Guesses", "fits", "[Z", true)
  | 5 => ("StuckTowns$Guesses", "alike", "[I", true)
  | _ => ("StuckTowns$Guesses", "span", "LStuckTowns$Span;", true)
def tyX1 : Nat → FieldType := fun k => match k with
  | 0 => .object "StuckTowns$Road"
  | 1 => .object "StuckTowns$State"
  | 2 => .object "StuckTowns$Kingdom"
  | 3 => .object "StuckTowns$Entries"
  | 4 => .array .boolean
  | 5 => .array .int
  | _ => .object "StuckTowns$Span"
theorem nmX1 : ∀ a, a < 7 → ∀ b, b < 7 → a ≠ b → (TX1 a).2.1 ≠ (TX1 b).2.1 := by decide +kernel
theorem tyX1_ok : ∀ k, k < 7 → parseFieldDescriptor (TX1 k).2.2.1 = some (tyX1 k) := by decide +kernel
abbrev cX1_init : ByteArray := prog_3_method_1_code
def yX1_init : MethodName := ⟨RX1, "<init>", "(LStuckTowns$Road;LStuckTowns$State;LStuckTowns$Kingdom;LStuckTowns$Entries;)V"⟩
abbrev cX1_isAsHeard : ByteArray := prog_3_method_2_code
def yX1_isAsHeard : MethodName := ⟨RX1, "isAsHeard", "(I)Z"⟩
abbrev cX1_fittingRains : ByteArray := prog_3_method_3_code
def yX1_fittingRains : MethodName := ⟨RX1, "fittingRains", "()LStuckTowns$Span;"⟩
abbrev cX1_bestToSend : ByteArray := prog_3_method_4_code
def yX1_bestToSend : MethodName := ⟨RX1, "bestToSend", "()I"⟩
abbrev cX1_greatestPart : ByteArray := prog_3_method_5_code
def yX1_greatestPart : MethodName := ⟨RX1, "greatestPart", "(I)I"⟩
def RX2 : String := "StuckTowns$Kingdom"
def TX2 : u_T := fun k => match k with
  | 0 => ("StuckTowns$Kingdom", "map", "LStuckTowns$Road;", true)
  | _ => ("StuckTowns$Kingdom", "now", "LStuckTowns$State;", true)
def tyX2 : Nat → FieldType := fun k => match k with
  | 0 => .object "StuckTowns$Road"
  | _ => .object "StuckTowns$State"
theorem nmX2 : ∀ a, a < 2 → ∀ b, b < 2 → a ≠ b → (TX2 a).2.1 ≠ (TX2 b).2.1 := by decide +kernel
theorem tyX2_ok : ∀ k, k < 2 → parseFieldDescriptor (TX2 k).2.2.1 = some (tyX2 k) := by decide +kernel
abbrev cX2_init : ByteArray := prog_4_method_1_code
def yX2_init : MethodName := ⟨RX2, "<init>", "(LStuckTowns$Road;LStuckTowns$State;)V"⟩
abbrev cX2_wetBehind : ByteArray := prog_4_method_2_code
def yX2_wetBehind : MethodName := ⟨RX2, "wetBehind", "(I)I"⟩
abbrev cX2_groundFor : ByteArray := prog_4_method_3_code
def yX2_groundFor : MethodName := ⟨RX2, "groundFor", "(III)I"⟩
abbrev cX2_weightOf : ByteArray := prog_4_method_4_code
def yX2_weightOf : MethodName := ⟨RX2, "weightOf", "(II)I"⟩
abbrev cX2_sinkOf : ByteArray := prog_4_method_5_code
def yX2_sinkOf : MethodName := ⟨RX2, "sinkOf", "(IIII)I"⟩
abbrev cX2_stopOf : ByteArray := prog_4_method_6_code
def yX2_stopOf : MethodName := ⟨RX2, "stopOf", "(III)I"⟩
abbrev cX2_stopBehind : ByteArray := prog_4_method_7_code
def yX2_stopBehind : MethodName := ⟨RX2, "stopBehind", "(II)I"⟩
abbrev cX2_driveOut : ByteArray := prog_4_method_8_code
def yX2_driveOut : MethodName := ⟨RX2, "driveOut", "(I)I"⟩
abbrev cX2_settle : ByteArray := prog_4_method_9_code
def yX2_settle : MethodName := ⟨RX2, "settle", "(II)V"⟩
abbrev cX2_pullOut : ByteArray := prog_4_method_10_code
def yX2_pullOut : MethodName := ⟨RX2, "pullOut", "(I)I"⟩
abbrev cX2_passDay : ByteArray := prog_4_method_11_code
def yX2_passDay : MethodName := ⟨RX2, "passDay", "()V"⟩
abbrev cX2_layGravel : ByteArray := prog_4_method_12_code
def yX2_layGravel : MethodName := ⟨RX2, "layGravel", "(II)V"⟩
def RX3 : String := "StuckTowns$Memory"
def TX3 : u_T := fun k => match k with
  | 0 => ("StuckTowns$Memory", "undoable", "I", false)
  | 1 => ("StuckTowns$Memory", "next", "I", false)
  | 2 => ("StuckTowns$Memory", "row", "[I", true)
  | 3 => ("StuckTowns$Memory", "kept", "[Z", true)
  | _ => ("StuckTowns$Memory", "seeds", "[I", true)
def tyX3 : Nat → FieldType := fun k => match k with
  | 0 => .int
  | 1 => .int
  | 2 => .array .int
  | 3 => .array .boolean
  | _ => .array .int
theorem nmX3 : ∀ a, a < 5 → ∀ b, b < 5 → a ≠ b → (TX3 a).2.1 ≠ (TX3 b).2.1 := by decide +kernel
theorem tyX3_ok : ∀ k, k < 5 → parseFieldDescriptor (TX3 k).2.2.1 = some (tyX3 k) := by decide +kernel
abbrev cX3_init : ByteArray := prog_5_method_1_code
def yX3_init : MethodName := ⟨RX3, "<init>", "()V"⟩
abbrev cX3_forgetAll : ByteArray := prog_5_method_2_code
def yX3_forgetAll : MethodName := ⟨RX3, "forgetAll", "()V"⟩
abbrev cX3_remember : ByteArray := prog_5_method_3_code
def yX3_remember : MethodName := ⟨RX3, "remember", "(LStuckTowns$State;)V"⟩
abbrev cX3_takeBack : ByteArray := prog_5_method_4_code
def yX3_takeBack : MethodName := ⟨RX3, "takeBack", "(LStuckTowns$State;)V"⟩
abbrev cX3_hasRoomFor : ByteArray := prog_5_method_5_code
def yX3_hasRoomFor : MethodName := ⟨RX3, "hasRoomFor", "(I)Z"⟩
abbrev cX3_hasKept : ByteArray := prog_5_method_6_code
def yX3_hasKept : MethodName := ⟨RX3, "hasKept", "(I)Z"⟩
abbrev cX3_keepImage : ByteArray := prog_5_method_7_code
def yX3_keepImage : MethodName := ⟨RX3, "keepImage", "(ILStuckTowns$State;I)V"⟩
abbrev cX3_fetchImage : ByteArray := prog_5_method_8_code
def yX3_fetchImage : MethodName := ⟨RX3, "fetchImage", "(ILStuckTowns$State;)V"⟩
abbrev cX3_seedOfImage : ByteArray := prog_5_method_9_code
def yX3_seedOfImage : MethodName := ⟨RX3, "seedOfImage", "(I)I"⟩
def RX4 : String := "StuckTowns$Orders"
def TX4 : u_T := fun k => match k with
  | 0 => ("StuckTowns$Orders", "bestCount", "I", false)
  | 1 => ("StuckTowns$Orders", "bestFigures", "I", false)
  | 2 => ("StuckTowns$Orders", "map", "LStuckTowns$Road;", true)
  | 3 => ("StuckTowns$Orders", "kingdom", "LStuckTowns$Kingdom;", true)
  | _ => ("StuckTowns$Orders", "stopOn", "[I", true)
def tyX4 : Nat → FieldType := fun k => match k with
  | 0 => .int
  | 1 => .int
  | 2 => .object "StuckTowns$Road"
  | 3 => .object "StuckTowns$Kingdom"
  | _ => .array .int
theorem nmX4 : ∀ a, a < 5 → ∀ b, b < 5 → a ≠ b → (TX4 a).2.1 ≠ (TX4 b).2.1 := by decide +kernel
theorem tyX4_ok : ∀ k, k < 5 → parseFieldDescriptor (TX4 k).2.2.1 = some (tyX4 k) := by decide +kernel
abbrev cX4_init : ByteArray := prog_6_method_1_code
def yX4_init : MethodName := ⟨RX4, "<init>", "(LStuckTowns$Road;LStuckTowns$Kingdom;)V"⟩
abbrev cX4_look : ByteArray := prog_6_method_2_code
def yX4_look : MethodName := ⟨RX4, "look", "(II)V"⟩
abbrev cX4_sendNext : ByteArray := prog_6_method_3_code
def yX4_sendNext : MethodName := ⟨RX4, "sendNext", "(IIIII)V"⟩
def RX5 : String := "StuckTowns$Reader"
def TX5 : u_T := fun k => match k with
  | 0 => ("StuckTowns$Reader", "draft", "LStuckTowns$Road;", true)
  | 1 => ("StuckTowns$Reader", "length", "I", false)
  | 2 => ("StuckTowns$Reader", "faultPlace", "I", false)
  | 3 => ("StuckTowns$Reader", "letters", "[I", true)
  | 4 => ("StuckTowns$Reader", "faultKind", "I", false)
  | 5 => ("StuckTowns$Reader", "at", "I", false)
  | _ => ("StuckTowns$Reader", "weatherTold", "Z", false)
def tyX5 : Nat → FieldType := fun k => match k with
  | 0 => .object "StuckTowns$Road"
  | 1 => .int
  | 2 => .int
  | 3 => .array .int
  | 4 => .int
  | 5 => .int
  | _ => .boolean
theorem nmX5 : ∀ a, a < 7 → ∀ b, b < 7 → a ≠ b → (TX5 a).2.1 ≠ (TX5 b).2.1 := by decide +kernel
theorem tyX5_ok : ∀ k, k < 7 → parseFieldDescriptor (TX5 k).2.2.1 = some (tyX5 k) := by decide +kernel
abbrev cX5_init : ByteArray := prog_7_method_1_code
def yX5_init : MethodName := ⟨RX5, "<init>", "()V"⟩
abbrev cX5_append : ByteArray := prog_7_method_2_code
def yX5_append : MethodName := ⟨RX5, "append", "(I)V"⟩
abbrev cX5_readText : ByteArray := prog_7_method_3_code
def yX5_readText : MethodName := ⟨RX5, "readText", "()I"⟩
abbrev cX5_readClause : ByteArray := prog_7_method_4_code
def yX5_readClause : MethodName := ⟨RX5, "readClause", "()V"⟩
abbrev cX5_isOneTooMany : ByteArray := prog_7_method_5_code
def yX5_isOneTooMany : MethodName := ⟨RX5, "isOneTooMany", "(I)Z"⟩
abbrev cX5_readRest : ByteArray := prog_7_method_6_code
def yX5_readRest : MethodName := ⟨RX5, "readRest", "(I)V"⟩
abbrev cX5_readRow : ByteArray := prog_7_method_7_code
def yX5_readRow : MethodName := ⟨RX5, "readRow", "([IIII)I"⟩
abbrev cX5_readCart : ByteArray := prog_7_method_8_code
def yX5_readCart : MethodName := ⟨RX5, "readCart", "()V"⟩
abbrev cX5_readNumber : ByteArray := prog_7_method_9_code
def yX5_readNumber : MethodName := ⟨RX5, "readNumber", "(II)I"⟩
abbrev cX5_isFigure : ByteArray := prog_7_method_10_code
def yX5_isFigure : MethodName := ⟨RX5, "isFigure", "(I)Z"⟩
abbrev cX5_nextLetter : ByteArray := prog_7_method_11_code
def yX5_nextLetter : MethodName := ⟨RX5, "nextLetter", "()I"⟩
abbrev cX5_fail : ByteArray := prog_7_method_12_code
def yX5_fail : MethodName := ⟨RX5, "fail", "(II)V"⟩
def RX6 : String := "StuckTowns$Road"
def TX6 : u_T := fun k => match k with
  | 0 => ("StuckTowns$Road", "cells", "I", false)
  | 1 => ("StuckTowns$Road", "rains", "I", false)
  | 2 => ("StuckTowns$Road", "carts", "I", false)
  | 3 => ("StuckTowns$Road", "soft", "[I", true)
  | 4 => ("StuckTowns$Road", "weather", "[I", true)
  | 5 => ("StuckTowns$Road", "wheels", "[I", true)
  | 6 => ("StuckTowns$Road", "toldLoad", "[I", true)
  | _ => ("StuckTowns$Road", "says", "[I", true)
def tyX6 : Nat → FieldType := fun k => match k with
  | 0 => .int
  | 1 => .int
  | 2 => .int
  | 3 => .array .int
  | 4 => .array .int
  | 5 => .array .int
  | 6 => .array .int
  | _ => .array .int
theorem nmX6 : ∀ a, a < 8 → ∀ b, b < 8 → a ≠ b → (TX6 a).2.1 ≠ (TX6 b).2.1 := by decide +kernel
theorem tyX6_ok : ∀ k, k < 8 → parseFieldDescriptor (TX6 k).2.2.1 = some (tyX6 k) := by decide +kernel
abbrev cX6_init : ByteArray := prog_8_method_1_code
def yX6_init : MethodName := ⟨RX6, "<init>", "()V"⟩
abbrev cX6_clear : ByteArray := prog_8_method_2_code
def yX6_clear : MethodName := ⟨RX6, "clear", "()V"⟩
abbrev cX6_become : ByteArray := prog_8_method_3_code
def yX6_become : MethodName := ⟨RX6, "become", "(LStuckTowns$Road;)V"⟩
abbrev cX6_hasCell : ByteArray := prog_8_method_4_code
def yX6_hasCell : MethodName := ⟨RX6, "hasCell", "(I)Z"⟩
abbrev cX6_hasCart : ByteArray := prog_8_method_5_code
def yX6_hasCart : MethodName := ⟨RX6, "hasCart", "(I)Z"⟩
abbrev cX6_hasCarts : ByteArray := prog_8_method_6_code
def yX6_hasCarts : MethodName := ⟨RX6, "hasCarts", "(I)Z"⟩
abbrev cX6_weatherOn : ByteArray := prog_8_method_7_code
def yX6_weatherOn : MethodName := ⟨RX6, "weatherOn", "(I)I"⟩
def RX7 : String := "StuckTowns$Span"
def TX7 : u_T := fun k => match k with
  | 0 => ("StuckTowns$Span", "count", "I", false)
  | 1 => ("StuckTowns$Span", "least", "I", false)
  | _ => ("StuckTowns$Span", "greatest", "I", false)
def tyX7 : Nat → FieldType := fun k => match k with
  | 0 => .int
  | 1 => .int
  | _ => .int
theorem nmX7 : ∀ a, a < 3 → ∀ b, b < 3 → a ≠ b → (TX7 a).2.1 ≠ (TX7 b).2.1 := by decide +kernel
theorem tyX7_ok : ∀ k, k < 3 → parseFieldDescriptor (TX7 k).2.2.1 = some (tyX7 k) := by decide +kernel
abbrev cX7_init : ByteArray := prog_9_method_1_code
def yX7_init : MethodName := ⟨RX7, "<init>", "()V"⟩
abbrev cX7_clear : ByteArray := prog_9_method_2_code
def yX7_clear : MethodName := ⟨RX7, "clear", "()V"⟩
abbrev cX7_put : ByteArray := prog_9_method_3_code
def yX7_put : MethodName := ⟨RX7, "put", "(I)V"⟩
abbrev cX7_answer : ByteArray := prog_9_method_4_code
def yX7_answer : MethodName := ⟨RX7, "answer", "(I)I"⟩
def RX8 : String := "StuckTowns$State"
def TX8 : u_T := fun k => match k with
  | 0 => ("StuckTowns$State", "days", "I", false)
  | 1 => ("StuckTowns$State", "stormLeft", "I", false)
  | 2 => ("StuckTowns$State", "gravel", "[I", true)
  | 3 => ("StuckTowns$State", "townName", "[I", true)
  | 4 => ("StuckTowns$State", "mayor", "[I", true)
  | 5 => ("StuckTowns$State", "folk", "[I", true)
  | 6 => ("StuckTowns$State", "loadOf", "[I", true)
  | 7 => ("StuckTowns$State", "stuckAt", "[I", true)
  | _ => ("StuckTowns$State", "timesStuck", "[I", true)
def tyX8 : Nat → FieldType := fun k => match k with
  | 0 => .int
  | 1 => .int
  | 2 => .array .int
  | 3 => .array .int
  | 4 => .array .int
  | 5 => .array .int
  | 6 => .array .int
  | 7 => .array .int
  | _ => .array .int
theorem nmX8 : ∀ a, a < 9 → ∀ b, b < 9 → a ≠ b → (TX8 a).2.1 ≠ (TX8 b).2.1 := by decide +kernel
theorem tyX8_ok : ∀ k, k < 9 → parseFieldDescriptor (TX8 k).2.2.1 = some (tyX8 k) := by decide +kernel
abbrev cX8_init : ByteArray := prog_10_method_1_code
def yX8_init : MethodName := ⟨RX8, "<init>", "()V"⟩
abbrev cX8_begin : ByteArray := prog_10_method_2_code
def yX8_begin : MethodName := ⟨RX8, "begin", "(LStuckTowns$Road;)V"⟩
abbrev cX8_copyTo : ByteArray := prog_10_method_3_code
def yX8_copyTo : MethodName := ⟨RX8, "copyTo", "([II)V"⟩
abbrev cX8_copyFrom : ByteArray := prog_10_method_4_code
def yX8_copyFrom : MethodName := ⟨RX8, "copyFrom", "([II)V"⟩
abbrev cX8_hasTown : ByteArray := prog_10_method_5_code
def yX8_hasTown : MethodName := ⟨RX8, "hasTown", "(I)Z"⟩
abbrev cX8_isStuck : ByteArray := prog_10_method_6_code
def yX8_isStuck : MethodName := ⟨RX8, "isStuck", "(I)Z"⟩
abbrev cX8_folkAt : ByteArray := prog_10_method_7_code
def yX8_folkAt : MethodName := ⟨RX8, "folkAt", "(I)I"⟩
abbrev cX8_clearTown : ByteArray := prog_10_method_8_code
def yX8_clearTown : MethodName := ⟨RX8, "clearTown", "(I)V"⟩
def RX9 : String := "StuckTowns$Survey"
def TX9 : u_T := fun k => match k with
  | 0 => ("StuckTowns$Survey", "map", "LStuckTowns$Road;", true)
  | _ => ("StuckTowns$Survey", "now", "LStuckTowns$State;", true)
def tyX9 : Nat → FieldType := fun k => match k with
  | 0 => .object "StuckTowns$Road"
  | _ => .object "StuckTowns$State"
theorem nmX9 : ∀ a, a < 2 → ∀ b, b < 2 → a ≠ b → (TX9 a).2.1 ≠ (TX9 b).2.1 := by decide +kernel
theorem tyX9_ok : ∀ k, k < 2 → parseFieldDescriptor (TX9 k).2.2.1 = some (tyX9 k) := by decide +kernel
abbrev cX9_init : ByteArray := prog_11_method_1_code
def yX9_init : MethodName := ⟨RX9, "<init>", "(LStuckTowns$Road;LStuckTowns$State;)V"⟩
abbrev cX9_townSet : ByteArray := prog_11_method_2_code
def yX9_townSet : MethodName := ⟨RX9, "townSet", "()I"⟩
abbrev cX9_stuckSet : ByteArray := prog_11_method_3_code
def yX9_stuckSet : MethodName := ⟨RX9, "stuckSet", "()I"⟩
abbrev cX9_mayorOf : ByteArray := prog_11_method_4_code
def yX9_mayorOf : MethodName := ⟨RX9, "mayorOf", "(I)I"⟩
abbrev cX9_distanceWith : ByteArray := prog_11_method_5_code
def yX9_distanceWith : MethodName := ⟨RX9, "distanceWith", "(II)I"⟩
abbrev cX9_distancesWith : ByteArray := prog_11_method_6_code
def yX9_distancesWith : MethodName := ⟨RX9, "distancesWith", "(I)I"⟩
abbrev cX9_bestPlace : ByteArray := prog_11_method_7_code
def yX9_bestPlace : MethodName := ⟨RX9, "bestPlace", "()I"⟩
abbrev cX9_farthest : ByteArray := prog_11_method_8_code
def yX9_farthest : MethodName := ⟨RX9, "farthest", "()I"⟩
abbrev cX9_longestWay : ByteArray := prog_11_method_9_code
def yX9_longestWay : MethodName := ⟨RX9, "longestWay", "()I"⟩
abbrev cX9_biggest : ByteArray := prog_11_method_10_code
def yX9_biggest : MethodName := ⟨RX9, "biggest", "()I"⟩
abbrev cX9_folkOfAll : ByteArray := prog_11_method_11_code
def yX9_folkOfAll : MethodName := ⟨RX9, "folkOfAll", "()I"⟩
abbrev cX9_townsNamed : ByteArray := prog_11_method_12_code
def yX9_townsNamed : MethodName := ⟨RX9, "townsNamed", "(I)I"⟩
def RX10 : String := "StuckTowns$Trials"
def TX10 : u_T := fun k => match k with
  | 0 => ("StuckTowns$Trials", "map", "LStuckTowns$Road;", true)
  | 1 => ("StuckTowns$Trials", "now", "LStuckTowns$State;", true)
  | 2 => ("StuckTowns$Trials", "kingdom", "LStuckTowns$Kingdom;", true)
  | 3 => ("StuckTowns$Trials", "stopped", "[I", true)
  | _ => ("StuckTowns$Trials", "span", "LStuckTowns$Span;", true)
def tyX10 : Nat → FieldType := fun k => match k with
  | 0 => .object "StuckTowns$Road"
  | 1 => .object "StuckTowns$State"
  | 2 => .object "StuckTowns$Kingdom"
  | 3 => .array .int
  | _ => .object "StuckTowns$Span"
theorem nmX10 : ∀ a, a < 5 → ∀ b, b < 5 → a ≠ b → (TX10 a).2.1 ≠ (TX10 b).2.1 := by decide +kernel
theorem tyX10_ok : ∀ k, k < 5 → parseFieldDescriptor (TX10 k).2.2.1 = some (tyX10 k) := by decide +kernel
abbrev cX10_init : ByteArray := prog_12_method_1_code
def yX10_init : MethodName := ⟨RX10, "<init>", "(LStuckTowns$Road;LStuckTowns$State;LStuckTowns$Kingdom;)V"⟩
abbrev cX10_stopper : ByteArray := prog_12_method_2_code
def yX10_stopper : MethodName := ⟨RX10, "stopper", "()I"⟩
abbrev cX10_soonestAt : ByteArray := prog_12_method_3_code
def yX10_soonestAt : MethodName := ⟨RX10, "soonestAt", "(II)I"⟩
abbrev cX10_loadsFor : ByteArray := prog_12_method_4_code
def yX10_loadsFor : MethodName := ⟨RX10, "loadsFor", "(II)LStuckTowns$Span;"⟩
abbrev cX10_needAt : ByteArray := prog_12_method_5_code
def yX10_needAt : MethodName := ⟨RX10, "needAt", "(II)I"⟩
abbrev cX10_greatestNeedAt : ByteArray := prog_12_method_6_code
def yX10_greatestNeedAt : MethodName := ⟨RX10, "greatestNeedAt", "(II)I"⟩
abbrev cX10_gravelAhead : ByteArray := prog_12_method_7_code
def yX10_gravelAhead : MethodName := ⟨RX10, "gravelAhead", "(II)I"⟩
def RX11 : String := "StuckTowns"
def TX11 : u_T := fun k => match k with
  | 0 => ("StuckTowns", "reader", "LStuckTowns$Reader;", true)
  | 1 => ("StuckTowns", "map", "LStuckTowns$Road;", true)
  | 2 => ("StuckTowns", "now", "LStuckTowns$State;", true)
  | 3 => ("StuckTowns", "kingdom", "LStuckTowns$Kingdom;", true)
  | 4 => ("StuckTowns", "survey", "LStuckTowns$Survey;", true)
  | 5 => ("StuckTowns", "trials", "LStuckTowns$Trials;", true)
  | 6 => ("StuckTowns", "orders", "LStuckTowns$Orders;", true)
  | 7 => ("StuckTowns", "heard", "LStuckTowns$Entries;", true)
  | 8 => ("StuckTowns", "book", "LStuckTowns$Entries;", true)
  | 9 => ("StuckTowns", "guesses", "LStuckTowns$Guesses;", true)
  | 10 => ("StuckTowns", "memory", "LStuckTowns$Memory;", true)
  | _ => ("StuckTowns", "theSeed", "I", false)
def tyX11 : Nat → FieldType := fun k => match k with
  | 0 => .object "StuckTowns$Reader"
  | 1 => .object "StuckTowns$Road"
  | 2 => .object "StuckTowns$State"
  | 3 => .object "StuckTowns$Kingdom"
  | 4 => .object "StuckTowns$Survey"
  | 5 => .object "StuckTowns$Trials"
  | 6 => .object "StuckTowns$Orders"
  | 7 => .object "StuckTowns$Entries"
  | 8 => .object "StuckTowns$Entries"
  | 9 => .object "StuckTowns$Guesses"
  | 10 => .object "StuckTowns$Memory"
  | _ => .int
theorem nmX11 : ∀ a, a < 12 → ∀ b, b < 12 → a ≠ b → (TX11 a).2.1 ≠ (TX11 b).2.1 := by decide +kernel
theorem tyX11_ok : ∀ k, k < 12 → parseFieldDescriptor (TX11 k).2.2.1 = some (tyX11 k) := by decide +kernel
abbrev cX11_init : ByteArray := prog_1_method_1_code
def yX11_init : MethodName := ⟨RX11, "<init>", "()V"⟩
abbrev cX11_feed : ByteArray := prog_1_method_2_code
def yX11_feed : MethodName := ⟨RX11, "feed", "(I)I"⟩
abbrev cX11_road : ByteArray := prog_1_method_3_code
def yX11_road : MethodName := ⟨RX11, "road", "()I"⟩
abbrev cX11_fault : ByteArray := prog_1_method_4_code
def yX11_fault : MethodName := ⟨RX11, "fault", "()I"⟩
abbrev cX11_told : ByteArray := prog_1_method_5_code
def yX11_told : MethodName := ⟨RX11, "told", "(I)I"⟩
abbrev cX11_cell : ByteArray := prog_1_method_6_code
def yX11_cell : MethodName := ⟨RX11, "cell", "(II)I"⟩
abbrev cX11_cart : ByteArray := prog_1_method_7_code
def yX11_cart : MethodName := ⟨RX11, "cart", "(II)I"⟩
abbrev cX11_sink : ByteArray := prog_1_method_8_code
def yX11_sink : MethodName := ⟨RX11, "sink", "(II)I"⟩
abbrev cX11_drive : ByteArray := prog_1_method_9_code
def yX11_drive : MethodName := ⟨RX11, "drive", "(I)I"⟩
abbrev cX11_pull : ByteArray := prog_1_method_10_code
def yX11_pull : MethodName := ⟨RX11, "pull", "(I)I"⟩
abbrev cX11_day : ByteArray := prog_1_method_11_code
def yX11_day : MethodName := ⟨RX11, "day", "(I)I"⟩
abbrev cX11_lay : ByteArray := prog_1_method_12_code
def yX11_lay : MethodName := ⟨RX11, "lay", "(II)I"⟩
abbrev cX11_load : ByteArray := prog_1_method_13_code
def yX11_load : MethodName := ⟨RX11, "load", "(II)I"⟩
abbrev cX11_storm : ByteArray := prog_1_method_14_code
def yX11_storm : MethodName := ⟨RX11, "storm", "(I)I"⟩
abbrev cX11_raze : ByteArray := prog_1_method_15_code
def yX11_raze : MethodName := ⟨RX11, "raze", "(I)I"⟩
abbrev cX11_drift : ByteArray := prog_1_method_16_code
def yX11_drift : MethodName := ⟨RX11, "drift", "(I)I"⟩
abbrev cX11_undo : ByteArray := prog_1_method_17_code
def yX11_undo : MethodName := ⟨RX11, "undo", "()I"⟩
abbrev cX11_stops : ByteArray := prog_1_method_18_code
def yX11_stops : MethodName := ⟨RX11, "stops", "(II)I"⟩
abbrev cX11_soonest : ByteArray := prog_1_method_19_code
def yX11_soonest : MethodName := ⟨RX11, "soonest", "(II)I"⟩
abbrev cX11_loads : ByteArray := prog_1_method_20_code
def yX11_loads : MethodName := ⟨RX11, "loads", "(III)I"⟩
abbrev cX11_gravelTo : ByteArray := prog_1_method_21_code
def yX11_gravelTo : MethodName := ⟨RX11, "gravelTo", "(II)I"⟩
abbrev cX11_gravelForAll : ByteArray := prog_1_method_22_code
def yX11_gravelForAll : MethodName := ⟨RX11, "gravelForAll", "(I)I"⟩
abbrev cX11_order : ByteArray := prog_1_method_23_code
def yX11_order : MethodName := ⟨RX11, "order", "(II)I"⟩
abbrev cX11_place : ByteArray := prog_1_method_24_code
def yX11_place : MethodName := ⟨RX11, "place", "(I)I"⟩
abbrev cX11_said : ByteArray := prog_1_method_25_code
def yX11_said : MethodName := ⟨RX11, "said", "(I)I"⟩
abbrev cX11_dry : ByteArray := prog_1_method_26_code
def yX11_dry : MethodName := ⟨RX11, "dry", "(II)I"⟩
abbrev cX11_hear : ByteArray := prog_1_method_27_code
def yX11_hear : MethodName := ⟨RX11, "hear", "(II)I"⟩
abbrev cX11_rains : ByteArray := prog_1_method_28_code
def yX11_rains : MethodName := ⟨RX11, "rains", "(I)I"⟩
abbrev cX11_send : ByteArray := prog_1_method_29_code
def yX11_send : MethodName := ⟨RX11, "send", "()I"⟩
abbrev cX11_write : ByteArray := prog_1_method_30_code
def yX11_write : MethodName := ⟨RX11, "write", "(II)I"⟩
abbrev cX11_tear : ByteArray := prog_1_method_31_code
def yX11_tear : MethodName := ⟨RX11, "tear", "()I"⟩
abbrev cX11_judge : ByteArray := prog_1_method_32_code
def yX11_judge : MethodName := ⟨RX11, "judge", "()I"⟩
abbrev cX11_seed : ByteArray := prog_1_method_33_code
def yX11_seed : MethodName := ⟨RX11, "seed", "(I)I"⟩
abbrev cX11_keep : ByteArray := prog_1_method_34_code
def yX11_keep : MethodName := ⟨RX11, "keep", "(I)I"⟩
abbrev cX11_goBack : ByteArray := prog_1_method_35_code
def yX11_goBack : MethodName := ⟨RX11, "goBack", "(I)I"⟩
abbrev cX11_refusalOfDays : ByteArray := prog_1_method_36_code
def yX11_refusalOfDays : MethodName := ⟨RX11, "refusalOfDays", "(I)I"⟩
abbrev cX11_doByDraw : ByteArray := prog_1_method_37_code
def yX11_doByDraw : MethodName := ⟨RX11, "doByDraw", "()V"⟩
abbrev cX11_drawOf : ByteArray := prog_1_method_38_code
def yX11_drawOf : MethodName := ⟨RX11, "drawOf", "(I)I"⟩
def RX12 : String := "StuckTownsModel"
def TX12 : u_T := fun k => match k with
  | 0 => ("StuckTownsModel", "cells", "I", false)
  | 1 => ("StuckTownsModel", "soft", "[I", true)
  | 2 => ("StuckTownsModel", "weathers", "I", false)
  | 3 => ("StuckTownsModel", "weather", "[I", true)
  | 4 => ("StuckTownsModel", "carts", "I", false)
  | 5 => ("StuckTownsModel", "wheels", "[I", true)
  | 6 => ("StuckTownsModel", "loadTold", "[I", true)
  | 7 => ("StuckTownsModel", "says", "[I", true)
  | 8 => ("StuckTownsModel", "now", "[I", true)
  | 9 => ("StuckTownsModel", "seed", "I", false)
  | 10 => ("StuckTownsModel", "text", "[I", true)
  | 11 => ("StuckTownsModel", "texted", "I", false)
  | 12 => ("StuckTownsModel", "faultPlace", "I", false)
  | 13 => ("StuckTownsModel", "at0", "I", false)
  | 14 => ("StuckTownsModel", "number", "I", false)
  | 15 => ("StuckTownsModel", "numberAt", "I", false)
  | 16 => ("StuckTownsModel", "readCells", "I", false)
  | 17 => ("StuckTownsModel", "readSoft", "[I", true)
  | 18 => ("StuckTownsModel", "readWeathers", "I", false)
  | 19 => ("StuckTownsModel", "readWeather", "[I", true)
  | 20 => ("StuckTownsModel", "readCarts", "I", false)
  | 21 => ("StuckTownsModel", "readWheels", "[I", true)
  | 22 => ("StuckTownsModel", "readLoad", "[I", true)
  | 23 => ("StuckTownsModel", "readSays", "[I", true)
  | 24 => ("StuckTownsModel", "undos", "I", false)
  | 25 => ("StuckTownsModel", "past", "[I", true)
  | 26 => ("StuckTownsModel", "stopOn", "[I", true)
  | 27 => ("StuckTownsModel", "heard", "I", false)
  | 28 => ("StuckTownsModel", "heardOf", "[I", true)
  | 29 => ("StuckTownsModel", "heardAt", "[I", true)
  | 30 => ("StuckTownsModel", "counts", "[I", true)
  | 31 => ("StuckTownsModel", "booked", "I", false)
  | 32 => ("StuckTownsModel", "bookOf", "[I", true)
  | 33 => ("StuckTownsModel", "bookIs", "[I", true)
  | 34 => ("StuckTownsModel", "images", "[I", true)
  | _ => ("StuckTownsModel", "isKept", "[Z", true)
def tyX12 : Nat → FieldType := fun k => match k with
  | 0 => .int
  | 1 => .array .int
  | 2 => .int
  | 3 => .array .int
  | 4 => .int
  | 5 => .array .int
  | 6 => .array .int
  | 7 => .array .int
  | 8 => .array .int
  | 9 => .int
  | 10 => .array .int
  | 11 => .int
  | 12 => .int
  | 13 => .int
  | 14 => .int
  | 15 => .int
  | 16 => .int
  | 17 => .array .int
  | 18 => .int
  | 19 => .array .int
  | 20 => .int
  | 21 => .array .int
  | 22 => .array .int
  | 23 => .array .int
  | 24 => .int
  | 25 => .array .int
  | 26 => .array .int
  | 27 => .int
  | 28 => .array .int
  | 29 => .array .int
  | 30 => .array .int
  | 31 => .int
  | 32 => .array .int
  | 33 => .array .int
  | 34 => .array .int
  | _ => .array .boolean
theorem nmX12 : ∀ a, a < 36 → ∀ b, b < 36 → a ≠ b → (TX12 a).2.1 ≠ (TX12 b).2.1 := by decide +kernel
theorem tyX12_ok : ∀ k, k < 36 → parseFieldDescriptor (TX12 k).2.2.1 = some (tyX12 k) := by decide +kernel
abbrev cX12_init : ByteArray := prog_14_method_1_code
def yX12_init : MethodName := ⟨RX12, "<init>", "()V"⟩
abbrev cX12_in : ByteArray := prog_14_method_3_code
def yX12_in : MethodName := ⟨RX12, "in", "(JJJ)Z"⟩
abbrev cX12_has : ByteArray := prog_14_method_4_code
def yX12_has : MethodName := ⟨RX12, "has", "(II)Z"⟩
abbrev cX12_bits : ByteArray := prog_14_method_5_code
def yX12_bits : MethodName := ⟨RX12, "bits", "(I)I"⟩
abbrev cX12_isCell : ByteArray := prog_14_method_6_code
def yX12_isCell : MethodName := ⟨RX12, "isCell", "(I)Z"⟩
abbrev cX12_isCart : ByteArray := prog_14_method_7_code
def yX12_isCart : MethodName := ⟨RX12, "isCart", "(I)Z"⟩
abbrev cX12_feed : ByteArray := prog_14_method_8_code
def yX12_feed : MethodName := ⟨RX12, "feed", "(I)I"⟩
abbrev cX12_here : ByteArray := prog_14_method_9_code
def yX12_here : MethodName := ⟨RX12, "here", "()I"⟩
abbrev cX12_fails : ByteArray := prog_14_method_10_code
def yX12_fails : MethodName := ⟨RX12, "fails", "(II)I"⟩
abbrev cX12_takeNumber : ByteArray := prog_14_method_11_code
def yX12_takeNumber : MethodName := ⟨RX12, "takeNumber", "(II)I"⟩
abbrev cX12_into : ByteArray := prog_14_method_12_code
def yX12_into : MethodName := ⟨RX12, "into", "([IIII)I"⟩
abbrev cX12_takeRoad : ByteArray := prog_14_method_13_code
def yX12_takeRoad : MethodName := ⟨RX12, "takeRoad", "()I"⟩
abbrev cX12_takeWeather : ByteArray := prog_14_method_14_code
def yX12_takeWeather : MethodName := ⟨RX12, "takeWeather", "()I"⟩
abbrev cX12_takeCart : ByteArray := prog_14_method_15_code
def yX12_takeCart : MethodName := ⟨RX12, "takeCart", "()I"⟩
abbrev cX12_takeClause : ByteArray := prog_14_method_16_code
def yX12_takeClause : MethodName := ⟨RX12, "takeClause", "()I"⟩
abbrev cX12_copyRow : ByteArray := prog_14_method_17_code
def yX12_copyRow : MethodName := ⟨RX12, "copyRow", "([I[II)V"⟩
abbrev cX12_takeRead : ByteArray := prog_14_method_18_code
def yX12_takeRead : MethodName := ⟨RX12, "takeRead", "()V"⟩
abbrev cX12_road : ByteArray := prog_14_method_19_code
def yX12_road : MethodName := ⟨RX12, "road", "()I"⟩
abbrev cX12_fault : ByteArray := prog_14_method_20_code
def yX12_fault : MethodName := ⟨RX12, "fault", "()I"⟩
abbrev cX12_weatherOf : ByteArray := prog_14_method_21_code
def yX12_weatherOf : MethodName := ⟨RX12, "weatherOf", "(I)I"⟩
abbrev cX12_wetBehind : ByteArray := prog_14_method_22_code
def yX12_wetBehind : MethodName := ⟨RX12, "wetBehind", "(I)I"⟩
abbrev cX12_wet : ByteArray := prog_14_method_23_code
def yX12_wet : MethodName := ⟨RX12, "wet", "()I"⟩
abbrev cX12_notBelow : ByteArray := prog_14_method_24_code
def yX12_notBelow : MethodName := ⟨RX12, "notBelow", "(I)I"⟩
abbrev cX12_groundOf : ByteArray := prog_14_method_25_code
def yX12_groundOf : MethodName := ⟨RX12, "groundOf", "(III)I"⟩
abbrev cX12_weighs : ByteArray := prog_14_method_26_code
def yX12_weighs : MethodName := ⟨RX12, "weighs", "(II)I"⟩
abbrev cX12_stopBy : ByteArray := prog_14_method_27_code
def yX12_stopBy : MethodName := ⟨RX12, "stopBy", "(III)I"⟩
abbrev cX12_stopOf : ByteArray := prog_14_method_28_code
def yX12_stopOf : MethodName := ⟨RX12, "stopOf", "(II)I"⟩
abbrev cX12_isTown : ByteArray := prog_14_method_29_code
def yX12_isTown : MethodName := ⟨RX12, "isTown", "(I)Z"⟩
abbrev cX12_towns : ByteArray := prog_14_method_30_code
def yX12_towns : MethodName := ⟨RX12, "towns", "()I"⟩
abbrev cX12_stuckOnes : ByteArray := prog_14_method_31_code
def yX12_stuckOnes : MethodName := ⟨RX12, "stuckOnes", "()I"⟩
abbrev cX12_stopper : ByteArray := prog_14_method_32_code
def yX12_stopper : MethodName := ⟨RX12, "stopper", "()I"⟩
abbrev cX12_distanceTo : ByteArray := prog_14_method_33_code
def yX12_distanceTo : MethodName := ⟨RX12, "distanceTo", "(II)I"⟩
abbrev cX12_farOf : ByteArray := prog_14_method_34_code
def yX12_farOf : MethodName := ⟨RX12, "farOf", "()I"⟩
abbrev cX12_longest : ByteArray := prog_14_method_35_code
def yX12_longest : MethodName := ⟨RX12, "longest", "()I"⟩
abbrev cX12_biggest : ByteArray := prog_14_method_36_code
def yX12_biggest : MethodName := ⟨RX12, "biggest", "()I"⟩
abbrev cX12_allFolk : ByteArray := prog_14_method_37_code
def yX12_allFolk : MethodName := ⟨RX12, "allFolk", "()I"⟩
abbrev cX12_told : ByteArray := prog_14_method_38_code
def yX12_told : MethodName := ⟨RX12, "told", "(I)I"⟩
abbrev cX12_cell : ByteArray := prog_14_method_39_code
def yX12_cell : MethodName := ⟨RX12, "cell", "(II)I"⟩
abbrev cX12_mayorOf : ByteArray := prog_14_method_40_code
def yX12_mayorOf : MethodName := ⟨RX12, "mayorOf", "(I)I"⟩
abbrev cX12_cart : ByteArray := prog_14_method_41_code
def yX12_cart : MethodName := ⟨RX12, "cart", "(II)I"⟩
abbrev cX12_sink : ByteArray := prog_14_method_42_code
def yX12_sink : MethodName := ⟨RX12, "sink", "(II)I"⟩
abbrev cX12_remember : ByteArray := prog_14_method_43_code
def yX12_remember : MethodName := ⟨RX12, "remember", "()V"⟩
abbrev cX12_driveNow : ByteArray := prog_14_method_44_code
def yX12_driveNow : MethodName := ⟨RX12, "driveNow", "(I)I"⟩
abbrev cX12_drive : ByteArray := prog_14_method_45_code
def yX12_drive : MethodName := ⟨RX12, "drive", "(I)I"⟩
abbrev cX12_pullNow : ByteArray := prog_14_method_46_code
def yX12_pullNow : MethodName := ⟨RX12, "pullNow", "(I)I"⟩
abbrev cX12_pull : ByteArray := prog_14_method_47_code
def yX12_pull : MethodName := ⟨RX12, "pull", "(I)I"⟩
abbrev cX12_pass : ByteArray := prog_14_method_48_code
def yX12_pass : MethodName := ⟨RX12, "pass", "()V"⟩
abbrev cX12_daysRefused : ByteArray := prog_14_method_49_code
def yX12_daysRefused : MethodName := ⟨RX12, "daysRefused", "(I)I"⟩
abbrev cX12_day : ByteArray := prog_14_method_50_code
def yX12_day : MethodName := ⟨RX12, "day", "(I)I"⟩
abbrev cX12_layNow : ByteArray := prog_14_method_51_code
def yX12_layNow : MethodName := ⟨RX12, "layNow", "(II)V"⟩
abbrev cX12_lay : ByteArray := prog_14_method_52_code
def yX12_lay : MethodName := ⟨RX12, "lay", "(II)I"⟩
abbrev cX12_load : ByteArray := prog_14_method_53_code
def yX12_load : MethodName := ⟨RX12, "load", "(II)I"⟩
abbrev cX12_storm : ByteArray := prog_14_method_54_code
def yX12_storm : MethodName := ⟨RX12, "storm", "(I)I"⟩
abbrev cX12_raze : ByteArray := prog_14_method_55_code
def yX12_raze : MethodName := ⟨RX12, "raze", "(I)I"⟩
abbrev cX12_draw : ByteArray := prog_14_method_56_code
def yX12_draw : MethodName := ⟨RX12, "draw", "(I)I"⟩
abbrev cX12_chance : ByteArray := prog_14_method_57_code
def yX12_chance : MethodName := ⟨RX12, "chance", "()V"⟩
abbrev cX12_drift : ByteArray := prog_14_method_58_code
def yX12_drift : MethodName := ⟨RX12, "drift", "(I)I"⟩
abbrev cX12_undo : ByteArray := prog_14_method_59_code
def yX12_undo : MethodName := ⟨RX12, "undo", "()I"⟩
abbrev cX12_stops : ByteArray := prog_14_method_60_code
def yX12_stops : MethodName := ⟨RX12, "stops", "(II)I"⟩
abbrev cX12_soonest : ByteArray := prog_14_method_61_code
def yX12_soonest : MethodName := ⟨RX12, "soonest", "(II)I"⟩
abbrev cX12_loads : ByteArray := prog_14_method_62_code
def yX12_loads : MethodName := ⟨RX12, "loads", "(III)I"⟩
abbrev cX12_needOf : ByteArray := prog_14_method_63_code
def yX12_needOf : MethodName := ⟨RX12, "needOf", "(II)I"⟩
abbrev cX12_gravelTo : ByteArray := prog_14_method_64_code
def yX12_gravelTo : MethodName := ⟨RX12, "gravelTo", "(II)I"⟩
abbrev cX12_isSet : ByteArray := prog_14_method_65_code
def yX12_isSet : MethodName := ⟨RX12, "isSet", "(I)Z"⟩
abbrev cX12_gravelForAll : ByteArray := prog_14_method_66_code
def yX12_gravelForAll : MethodName := ⟨RX12, "gravelForAll", "(I)I"⟩
abbrev cX12_foundedBy : ByteArray := prog_14_method_67_code
def yX12_foundedBy : MethodName := ⟨RX12, "foundedBy", "(III)I"⟩
abbrev cX12_order : ByteArray := prog_14_method_68_code
def yX12_order : MethodName := ⟨RX12, "order", "(II)I"⟩
abbrev cX12_place : ByteArray := prog_14_method_69_code
def yX12_place : MethodName := ⟨RX12, "place", "(I)I"⟩
abbrev cX12_said : ByteArray := prog_14_method_70_code
def yX12_said : MethodName := ⟨RX12, "said", "(I)I"⟩
abbrev cX12_dry : ByteArray := prog_14_method_71_code
def yX12_dry : MethodName := ⟨RX12, "dry", "(II)I"⟩
abbrev cX12_hear : ByteArray := prog_14_method_72_code
def yX12_hear : MethodName := ⟨RX12, "hear", "(II)I"⟩
abbrev cX12_couldBe : ByteArray := prog_14_method_73_code
def yX12_couldBe : MethodName := ⟨RX12, "couldBe", "(I)Z"⟩
abbrev cX12_rains : ByteArray := prog_14_method_74_code
def yX12_rains : MethodName := ⟨RX12, "rains", "(I)I"⟩
abbrev cX12_greatestPart : ByteArray := prog_14_method_75_code
def yX12_greatestPart : MethodName := ⟨RX12, "greatestPart", "(I)I"⟩
abbrev cX12_send : ByteArray := prog_14_method_76_code
def yX12_send : MethodName := ⟨RX12, "send", "()I"⟩
abbrev cX12_write : ByteArray := prog_14_method_77_code
def yX12_write : MethodName := ⟨RX12, "write", "(II)I"⟩
abbrev cX12_tear : ByteArray := prog_14_method_78_code
def yX12_tear : MethodName := ⟨RX12, "tear", "()I"⟩
abbrev cX12_judge : ByteArray := prog_14_method_79_code
def yX12_judge : MethodName := ⟨RX12, "judge", "()I"⟩
abbrev cX12_seed : ByteArray := prog_14_method_80_code
def yX12_seed : MethodName := ⟨RX12, "seed", "(I)I"⟩
abbrev cX12_keep : ByteArray := prog_14_method_81_code
def yX12_keep : MethodName := ⟨RX12, "keep", "(I)I"⟩
abbrev cX12_goBack : ByteArray := prog_14_method_82_code
def yX12_goBack : MethodName := ⟨RX12, "goBack", "(I)I"⟩
def RJ6 : String := "java/lang/Integer"
abbrev cJ6_bitCount_0f7a4 : ByteArray := prog_15_method_49_code
def yJ6_bitCount_0f7a4 : MethodName := ⟨RJ6, "bitCount", "(I)I"⟩
def RJ9 : String := "java/lang/Math"
abbrev cJ9_abs_0f7a4 : ByteArray := prog_16_method_59_code
def yJ9_abs_0f7a4 : MethodName := ⟨RJ9, "abs", "(I)I"⟩
abbrev cJ9_max_7cf53 : ByteArray := prog_16_method_65_code
def yJ9_max_7cf53 : MethodName := ⟨RJ9, "max", "(II)I"⟩
abbrev cJ9_min_7cf53 : ByteArray := prog_16_method_69_code
def yJ9_min_7cf53 : MethodName := ⟨RJ9, "min", "(II)I"⟩
def RJ10 : String := "java/lang/System"
def RJ7 : String := "java/util/Arrays"
abbrev cJ7_fill_53178 : ByteArray := prog_18_method_103_code
def yJ7_fill_53178 : MethodName := ⟨RJ7, "fill", "([II)V"⟩
def RL : String := "StuckTownsLaw"
abbrev cL_law : ByteArray := code
def yL_law : MethodName := ⟨RL, "law", "([I)Z"⟩
abbrev vwCl : List vw_C := [(RX0, TX0, 3), (RX1, TX1, 7), (RX2, TX2, 2), (RX3, TX3, 5), (RX4, TX4, 5), (RX5, TX5, 7), (RX6, TX6, 8), (RX7, TX7, 3), (RX8, TX8, 9), (RX9, TX9, 2), (RX10, TX10, 5), (RX11, TX11, 12), (RX12, TX12, 36)]
end
section
/-! a small logic over the kit's rows. Memory: sg_M, numbers of all int fields and all int (boolean) arrays. A world: E = (launch, tables, array classes, picture of a memory). -/
abbrev sg_M : Type := (Nat → Int32) × (Nat → Nat → Int32)
abbrev sg_E : Type := Launch × va_G × List (ClassId × FieldType) × (sg_M → va_W)
def sg_tbl : List Cond := lw_tbl.filter goodWord
theorem sg_mem {w : Cond} {i : Nat} (h : lw_tbl[i]? = some w) (g : goodWord w = true) : w ∈ sg_tbl := List.mem_filter.mpr ⟨List.mem_of_getElem? h, g⟩
def sg_ws (y : MethodName) (cc : ByteArray) (nL : Nat) (ret : Option FieldType) : List Cond := Cond.code y cc nL ret :: sg_tbl
def sg_rm (d : Nat) : Room := { frames := d, cells := 0, slots := 0, locals := 64 * d }
def sg_B (E : sg_E) (A : Nat → Prop) (z : sg_M) (t : State) : Prop := va_P E.2.1 vwCl (E.2.2.2 z) t.heap ∧ va_K E.2.1 vwCl E.2.2.1 t ∧ va_D A (E.2.2.2 z)
def sg_Q (Q : Option Value → sg_M → Prop) (B : sg_M → State → Prop) (A : Nat → Prop) : Array Value → State → Outcome → State → Prop := fun _ st oc t => (∃ (v : Option Value) (z : sg_M), oc = .returned v ∧ Q v z ∧ B z t) ∧ va_F A st t
def sg_is (v0 : Option Value) (z0 : sg_M) : Option Value → sg_M → Prop := fun v z => v = v0 ∧ z = z0
/-- a method's contract: from any state that holds the picture of z it returns, with Q -/
def sg_Met (E : sg_E) (y : MethodName) (cc : ByteArray) (nL : Nat) (ret : Option FieldType) (d : Nat) (av : List Value) (z : sg_M) (Q : Option Value → sg_M → Prop) : Prop :=
  ∀ sz : Nat, Met E.1 y (sg_ws y cc nL ret) (sg_rm d) (va_Pc av (fun U => U.heap.size = sz ∧ va_P E.2.1 vwCl (E.2.2.2 z) U.heap ∧ va_K E.2.1 vwCl E.2.2.1 U ∧ va_D (fun _ => True) (E.2.2.2 z))) (sg_Q Q (sg_B E (va_A (E.2.2.2 z) sz)) (va_A (E.2.2.2 z) sz)) 0 0 (va_A (E.2.2.2 z) sz)
def sg_C (E : sg_E) (y : MethodName) (cc : ByteArray) (nL : Nat) (ret : Option FieldType) (p : Program) (s : State) (m : MethodId) (args : Array Value) (meth : Method) (c : Code) (A : Nat → Prop) : Prop :=
  p.tables.exec = Jvm.exec ∧ c.code = cc ∧ s.vm.findClass y.cls = some m.cls ∧ (∀ w ∈ sg_tbl, w.before args s = true) ∧ va_K E.2.1 vwCl E.2.2.1 s ∧ c.maxLocals = nL ∧ meth.sig.returnType = ret ∧ meth.locks = false ∧ ∀ q : Nat, s.heap.size ≤ q → A q
/-- at pc, with these locals, this stack, the picture of z: the method goes on and returns, with Q -/
def sg_G (E : sg_E) (y : MethodName) (cc : ByteArray) (nL : Nat) (ret : Option FieldType) (d : Nat) (pc : Nat) (lv : List (Nat × Value)) (st : List Value) (z : sg_M) (Q : Option Value → sg_M → Prop) : Prop :=
  ∀ (p : Program) (e : Env) (s : State) (m : MethodId) (args : Array Value) (below : List Frame) (meth : Method) (c : Code) (A : Nat → Prop) (H : Heap) (locs : List Loc) (ls : Array Slot), sg_C E y cc nL ret p s m args meth c A → lv_has ls nL lv → va_P E.2.1 vwCl (E.2.2.2 z) H → va_D A (E.2.2.2 z) → va_S A s.heap H locs → W p E.1 e (sg_rm d) s m args below meth c H locs 0 0 (MQ below (sg_Q Q (sg_B E A) A) args s 0 0 A) (F0 m pc ls st)
theorem sg_good : sg_tbl.all goodWord = true := List.all_eq_true.mpr (fun _ h => (List.mem_filter.mp h).2)
theorem sg_goodIn {y y' : MethodName} {cc cc' : ByteArray} {nL nL' : Nat} {ret ret' : Option FieldType} (h : Cond.code y' cc' nL' ret' ∈ sg_tbl) : GoodIn (sg_ws y cc nL ret) (sg_ws y' cc' nL' ret') := by
  intro w hw
  rcases List.mem_cons.mp hw with rfl | hw
  · exact ⟨List.mem_cons_of_mem _ h, good_of_word (List.all_eq_true.mp sg_good _ h)⟩
  · exact ⟨List.mem_cons_of_mem _ hw, good_of_word (List.all_eq_true.mp sg_good _ hw)⟩
section SG
variable {E : sg_E} {y : MethodName} {cc : ByteArray} {nL : Nat} {ret : Option FieldType} {d pc pn : Nat} {lv : List (Nat × Value)} {st : List Value} {z : sg_M} {Q : Option Value → sg_M → Prop}
theorem sg_enter {av : List Value} (hy : plainName y.cls = true) (hlen : (lg_sl av).length ≤ nL) (k : sg_G E y cc nL ret d 0 (lv_args 0 av) [] z Q) : sg_Met E y cc nL ret d av z Q := by
  intro sz
  refine Met.ofW (cc := cc) (maxL := nL) (ret := ret) hy rfl ?_
  intro p e s m args below meth c s₁ B hml hv
  obtain ⟨rfl, hsz, hP, hK, hD0⟩ := hv
  have hts := atoms_spec (ws := sg_ws y cc nL ret) B.pre
  subst hsz
  rw [lg_entry_eq]
  exact k p e s m _ below meth c (va_A (E.2.2.2 z) s.heap.size) s.heap [] _ ⟨B.exec, B.bytes, findClass_of_methodNamed B.named, fun w hw => hts w (List.mem_cons_of_mem _ hw), hK, hml, B.returns, B.notSynchronized, fun q h => Or.inr h⟩ (lv_entry av hlen) hP hD0.self va_S.rf
theorem sg_mono {av : List Value} {Q2 : Option Value → sg_M → Prop} (h : sg_G E y cc nL ret d pc lv st z Q) (hq : ∀ v z, Q v z → Q2 v z) : sg_G E y cc nL ret d pc lv st z Q2 := by
  intro p e s m args below meth c A H locs ls hC hl hP hD hS T hT X
  obtain ⟨t, h1, o, h2, h3, ⟨⟨v, z2, h4, h5, h6⟩, h7⟩, h8⟩ := h p e s m args below meth c A H locs ls hC hl hP hD hS T hT X
  exact ⟨t, h1, o, h2, h3, ⟨⟨v, z2, h4, hq _ _ h5, h6⟩, h7⟩, h8⟩
theorem sg_sub (ks : List Nat) {lv' : List (Nat × Value)} (hl : lv_pick lv ks = lv') (k : sg_G E y cc nL ret d pc lv' st z Q) : sg_G E y cc nL ret d pc lv st z Q :=
  fun p e s m args below meth c A H locs ls hC hl0 hP hD hS => k p e s m args below meth c A H locs ls hC (lv_sub hl0 ks hl) hP hD hS
theorem sg_eqp {pc2 : Nat} (h : pc2 = pc) (k : sg_G E y cc nL ret d pc2 lv st z Q) : sg_G E y cc nL ret d pc lv st z Q := h ▸ k
theorem sg_iadd {x0 y0 : Int32} (hdg : decode cc pc = .ok (.iadd, 1)) (hn : pc + 1 = pn) (k : sg_G E y cc nL ret d pn lv (.int (x0 + y0) :: st) z Q) : sg_G E y cc nL ret d pc lv (.int y0 :: .int x0 :: st) z Q := by
  subst hn
  exact fun p e s m args below meth c A H locs ls hC hl hP hD hS => lv_iadd hC.1 hC.2.1 hdg (k p e s m args below meth c A H locs ls hC hl hP hD hS)
theorem sg_isub {x0 y0 : Int32} (hdg : decode cc pc = .ok (.isub, 1)) (hn : pc + 1 = pn) (k : sg_G E y cc nL ret d pn lv (.int (x0 - y0) :: st) z Q) : sg_G E y cc nL ret d pc lv (.int y0 :: .int x0 :: st) z Q := by
  subst hn
  exact fun p e s m args below meth c A H locs ls hC hl hP hD hS => lv_isub hC.1 hC.2.1 hdg (k p e s m args below meth c A H locs ls hC hl hP hD hS)
theorem sg_imul {x0 y0 : Int32} (hdg : decode cc pc = .ok (.imul, 1)) (hn : pc + 1 = pn) (k : sg_G E y cc nL ret d pn lv (.int (x0 * y0) :: st) z Q) : sg_G E y cc nL ret d pc lv (.int y0 :: .int x0 :: st) z Q := by
  subst hn
  exact fun p e s m args below meth c A H locs ls hC hl hP hD hS => lv_imul hC.1 hC.2.1 hdg (k p e s m args below meth c A H locs ls hC hl hP hD hS)
theorem sg_iand {x0 y0 : Int32} (hdg : decode cc pc = .ok (.iand, 1)) (hn : pc + 1 = pn) (k : sg_G E y cc nL ret d pn lv (.int (x0 &&& y0) :: st) z Q) : sg_G E y cc nL ret d pc lv (.int y0 :: .int x0 :: st) z Q := by
  subst hn
  exact fun p e s m args below meth c A H locs ls hC hl hP hD hS => lv_iand hC.1 hC.2.1 hdg (k p e s m args below meth c A H locs ls hC hl hP hD hS)
theorem sg_ior {x0 y0 : Int32} (hdg : decode cc pc = .ok (.ior, 1)) (hn : pc + 1 = pn) (k : sg_G E y cc nL ret d pn lv (.int (x0 ||| y0) :: st) z Q) : sg_G E y cc nL ret d pc lv (.int y0 :: .int x0 :: st) z Q := by
  subst hn
  exact fun p e s m args below meth c A H locs ls hC hl hP hD hS => lv_ior hC.1 hC.2.1 hdg (k p e s m args below meth c A H locs ls hC hl hP hD hS)
theorem sg_ixor {x0 y0 : Int32} (hdg : decode cc pc = .ok (.ixor, 1)) (hn : pc + 1 = pn) (k : sg_G E y cc nL ret d pn lv (.int (x0 ^^^ y0) :: st) z Q) : sg_G E y cc nL ret d pc lv (.int y0 :: .int x0 :: st) z Q := by
  subst hn
  exact fun p e s m args below meth c A H locs ls hC hl hP hD hS => lv_ixor hC.1 hC.2.1 hdg (k p e s m args below meth c A H locs ls hC hl hP hD hS)
theorem sg_ishl {x0 y0 : Int32} (hdg : decode cc pc = .ok (.ishl, 1)) (hn : pc + 1 = pn) (k : sg_G E y cc nL ret d pn lv (.int (x0 <<< (y0 &&& 31)) :: st) z Q) : sg_G E y cc nL ret d pc lv (.int y0 :: .int x0 :: st) z Q := by
  subst hn
  exact fun p e s m args below meth c A H locs ls hC hl hP hD hS => lv_ishl hC.1 hC.2.1 hdg (k p e s m args below meth c A H locs ls hC hl hP hD hS)
theorem sg_ishr {x0 y0 : Int32} (hdg : decode cc pc = .ok (.ishr, 1)) (hn : pc + 1 = pn) (k : sg_G E y cc nL ret d pn lv (.int (x0 >>> (y0 &&& 31)) :: st) z Q) : sg_G E y cc nL ret d pc lv (.int y0 :: .int x0 :: st) z Q := by
  subst hn
  exact fun p e s m args below meth c A H locs ls hC hl hP hD hS => lv_ishr hC.1 hC.2.1 hdg (k p e s m args below meth c A H locs ls hC hl hP hD hS)
theorem sg_iushr {x0 y0 : Int32} (hdg : decode cc pc = .ok (.iushr, 1)) (hn : pc + 1 = pn) (k : sg_G E y cc nL ret d pn lv (.int ((x0.toUInt32 >>> (y0.toUInt32 &&& Int32.toUInt32 31)).toInt32) :: st) z Q) : sg_G E y cc nL ret d pc lv (.int y0 :: .int x0 :: st) z Q := by
  subst hn
  exact fun p e s m args below meth c A H locs ls hC hl hP hD hS => lv_iushr hC.1 hC.2.1 hdg rfl (k p e s m args below meth c A H locs ls hC hl hP hD hS)
theorem sg_ineg {x0 : Int32} (hdg : decode cc pc = .ok (.ineg, 1)) (hn : pc + 1 = pn) (k : sg_G E y cc nL ret d pn lv (.int (-x0) :: st) z Q) : sg_G E y cc nL ret d pc lv (.int x0 :: st) z Q := by
  subst hn
  exact fun p e s m args below meth c A H locs ls hC hl hP hD hS => lv_ineg hC.1 hC.2.1 hdg (k p e s m args below meth c A H locs ls hC hl hP hD hS)
theorem sg_idiv {x0 y0 : Int32} (hdg : decode cc pc = .ok (.idiv, 1)) (hn : pc + 1 = pn) (hne : ¬ y0 = 0) (k : sg_G E y cc nL ret d pn lv (.int (x0 / y0) :: st) z Q) : sg_G E y cc nL ret d pc lv (.int y0 :: .int x0 :: st) z Q := by
  subst hn
  exact fun p e s m args below meth c A H locs ls hC hl hP hD hS => lv_idiv hC.1 hC.2.1 hdg hne (k p e s m args below meth c A H locs ls hC hl hP hD hS)
theorem sg_irem {x0 y0 : Int32} (hdg : decode cc pc = .ok (.irem, 1)) (hn : pc + 1 = pn) (hne : ¬ y0 = 0) (k : sg_G E y cc nL ret d pn lv (.int (x0 - x0 / y0 * y0) :: st) z Q) : sg_G E y cc nL ret d pc lv (.int y0 :: .int x0 :: st) z Q := by
  subst hn
  exact fun p e s m args below meth c A H locs ls hC hl hP hD hS => lv_irem hC.1 hC.2.1 hdg hne (k p e s m args below meth c A H locs ls hC hl hP hD hS)
theorem sg_ldiv {x0 y0 : Int64} (hdg : decode cc pc = .ok (.ldiv, 1)) (hn : pc + 1 = pn) (hne : ¬ y0 = 0) (k : sg_G E y cc nL ret d pn lv (.long (x0 / y0) :: st) z Q) : sg_G E y cc nL ret d pc lv (.long y0 :: .long x0 :: st) z Q := by
  subst hn
  exact fun p e s m args below meth c A H locs ls hC hl hP hD hS => lv_ldiv hC.1 hC.2.1 hdg hne (k p e s m args below meth c A H locs ls hC hl hP hD hS)
theorem sg_lrem {x0 y0 : Int64} (hdg : decode cc pc = .ok (.lrem, 1)) (hn : pc + 1 = pn) (hne : ¬ y0 = 0) (k : sg_G E y cc nL ret d pn lv (.long (x0 - x0 / y0 * y0) :: st) z Q) : sg_G E y cc nL ret d pc lv (.long y0 :: .long x0 :: st) z Q := by
  subst hn
  exact fun p e s m args below meth c A H locs ls hC hl hP hD hS => lv_lrem hC.1 hC.2.1 hdg hne (k p e s m args below meth c A H locs ls hC hl hP hD hS)
theorem sg_ladd {x0 y0 : Int64} (hdg : decode cc pc = .ok (.ladd, 1)) (hn : pc + 1 = pn) (k : sg_G E y cc nL ret d pn lv (.long (x0 + y0) :: st) z Q) : sg_G E y cc nL ret d pc lv (.long y0 :: .long x0 :: st) z Q := by
  subst hn
  exact fun p e s m args below meth c A H locs ls hC hl hP hD hS => lv_ladd hC.1 hC.2.1 hdg (k p e s m args below meth c A H locs ls hC hl hP hD hS)
theorem sg_lmul {x0 y0 : Int64} (hdg : decode cc pc = .ok (.lmul, 1)) (hn : pc + 1 = pn) (k : sg_G E y cc nL ret d pn lv (.long (x0 * y0) :: st) z Q) : sg_G E y cc nL ret d pc lv (.long y0 :: .long x0 :: st) z Q := by
  subst hn
  exact fun p e s m args below meth c A H locs ls hC hl hP hD hS => lv_lmul hC.1 hC.2.1 hdg (k p e s m args below meth c A H locs ls hC hl hP hD hS)
theorem sg_land {x0 y0 : Int64} (hdg : decode cc pc = .ok (.land, 1)) (hn : pc + 1 = pn) (k : sg_G E y cc nL ret d pn lv (.long (x0 &&& y0) :: st) z Q) : sg_G E y cc nL ret d pc lv (.long y0 :: .long x0 :: st) z Q := by
  subst hn
  exact fun p e s m args below meth c A H locs ls hC hl hP hD hS => lv_land hC.1 hC.2.1 hdg (k p e s m args below meth c A H locs ls hC hl hP hD hS)
theorem sg_lcmp {x0 y0 : Int64} (hdg : decode cc pc = .ok (.lcmp, 1)) (hn : pc + 1 = pn) (k : sg_G E y cc nL ret d pn lv (.int (lg_cmp x0 y0) :: st) z Q) : sg_G E y cc nL ret d pc lv (.long y0 :: .long x0 :: st) z Q := by
  subst hn
  exact fun p e s m args below meth c A H locs ls hC hl hP hD hS => W.lcmp hC.1 hC.2.1 hdg (k p e s m args below meth c A H locs ls hC hl hP hD hS)
theorem sg_i2l {x0 : Int32} (hdg : decode cc pc = .ok (.i2l, 1)) (hn : pc + 1 = pn) (k : sg_G E y cc nL ret d pn lv (.long x0.toInt64 :: st) z Q) : sg_G E y cc nL ret d pc lv (.int x0 :: st) z Q := by
  subst hn
  exact fun p e s m args below meth c A H locs ls hC hl hP hD hS => lv_i2l hC.1 hC.2.1 hdg rfl (k p e s m args below meth c A H locs ls hC hl hP hD hS)
theorem sg_l2i {x0 : Int64} (hdg : decode cc pc = .ok (.l2i, 1)) (hn : pc + 1 = pn) (k : sg_G E y cc nL ret d pn lv (.int x0.toInt32 :: st) z Q) : sg_G E y cc nL ret d pc lv (.long x0 :: st) z Q := by
  subst hn
  exact fun p e s m args below meth c A H locs ls hC hl hP hD hS => lv_l2i hC.1 hC.2.1 hdg rfl (k p e s m args below meth c A H locs ls hC hl hP hD hS)
theorem sg_iconst {n0 : Int} {v : Int32} (hdg : decode cc pc = .ok (.iconst n0, 1)) (hn : pc + 1 = pn) (hv : Int32.ofInt n0 = v) (k : sg_G E y cc nL ret d pn lv (.int v :: st) z Q) : sg_G E y cc nL ret d pc lv (st) z Q := by
  subst hn
  exact fun p e s m args below meth c A H locs ls hC hl hP hD hS => lv_iconst hC.1 hC.2.1 hdg hv (k p e s m args below meth c A H locs ls hC hl hP hD hS)
theorem sg_bipush {n0 : Int} {v : Int32} (hdg : decode cc pc = .ok (.bipush n0, 2)) (hn : pc + 2 = pn) (hv : (Int8.ofInt n0).toInt32 = v) (k : sg_G E y cc nL ret d pn lv (.int v :: st) z Q) : sg_G E y cc nL ret d pc lv (st) z Q := by
  subst hn
  exact fun p e s m args below meth c A H locs ls hC hl hP hD hS => lv_bipush hC.1 hC.2.1 hdg hv (k p e s m args below meth c A H locs ls hC hl hP hD hS)
theorem sg_sipush {n0 : Int} {v : Int32} (hdg : decode cc pc = .ok (.sipush n0, 3)) (hn : pc + 3 = pn) (hv : (Int16.ofInt n0).toInt32 = v) (k : sg_G E y cc nL ret d pn lv (.int v :: st) z Q) : sg_G E y cc nL ret d pc lv (st) z Q := by
  subst hn
  exact fun p e s m args below meth c A H locs ls hC hl hP hD hS => lv_sipush hC.1 hC.2.1 hdg hv (k p e s m args below meth c A H locs ls hC hl hP hD hS)
theorem sg_lconst {n0 : Fin 2} {v : Int64} (hdg : decode cc pc = .ok (.lconst n0, 1)) (hn : pc + 1 = pn) (hv : Int64.ofNat (n0 : Nat) = v) (k : sg_G E y cc nL ret d pn lv (.long v :: st) z Q) : sg_G E y cc nL ret d pc lv (st) z Q := by
  subst hn
  exact fun p e s m args below meth c A H locs ls hC hl hP hD hS => lv_lconst hC.1 hC.2.1 hdg hv (k p e s m args below meth c A H locs ls hC hl hP hD hS)
theorem sg_ldc {ix : Nat} {v : Int32} (hdg : decode cc pc = .ok (.ldc ix, 2)) (hn : pc + 2 = pn) (hw : Cond.constant y.cls ix v ∈ sg_tbl) (k : sg_G E y cc nL ret d pn lv (.int v :: st) z Q) : sg_G E y cc nL ret d pc lv (st) z Q := by
  subst hn
  exact fun p e s m args below meth c A H locs ls hC hl hP hD hS => lv_ldc hC.1 hC.2.1 hC.2.2.1 (hC.2.2.2.1 _ hw) hdg (k p e s m args below meth c A H locs ls hC hl hP hD hS)
theorem sg_ldcw {ix : Nat} {v : Int32} (hdg : decode cc pc = .ok (.ldc_w ix, 3)) (hn : pc + 3 = pn) (hw : Cond.constant y.cls ix v ∈ sg_tbl) (k : sg_G E y cc nL ret d pn lv (.int v :: st) z Q) : sg_G E y cc nL ret d pc lv (st) z Q := by
  subst hn
  exact fun p e s m args below meth c A H locs ls hC hl hP hD hS => lv_ldcw hC.1 hC.2.1 hC.2.2.1 (hC.2.2.2.1 _ hw) hdg (k p e s m args below meth c A H locs ls hC hl hP hD hS)
theorem sg_ldc2 {ix : Nat} {v : Int64} (hdg : decode cc pc = .ok (.ldc2_w ix, 3)) (hn : pc + 3 = pn) (hw : Cond.constantLong y.cls ix v ∈ sg_tbl) (k : sg_G E y cc nL ret d pn lv (.long v :: st) z Q) : sg_G E y cc nL ret d pc lv (st) z Q := by
  subst hn
  exact fun p e s m args below meth c A H locs ls hC hl hP hD hS => lv_ldc2 hC.1 hC.2.1 hC.2.2.1 (hC.2.2.2.1 _ hw) hdg (k p e s m args below meth c A H locs ls hC hl hP hD hS)
theorem sg_dup {va : Value} (hdg : decode cc pc = .ok (.dup, 1)) (hn : pc + 1 = pn) (hva : va.category = 1) (k : sg_G E y cc nL ret d pn lv (va :: va :: st) z Q) : sg_G E y cc nL ret d pc lv (va :: st) z Q := by
  subst hn
  exact fun p e s m args below meth c A H locs ls hC hl hP hD hS => lv_dup hC.1 hC.2.1 hdg hva (k p e s m args below meth c A H locs ls hC hl hP hD hS)
theorem sg_dup2 {va vb : Value} (hdg : decode cc pc = .ok (.dup2, 1)) (hn : pc + 1 = pn) (hva : va.category = 1) (hvb : vb.category = 1) (k : sg_G E y cc nL ret d pn lv (va :: vb :: va :: vb :: st) z Q) : sg_G E y cc nL ret d pc lv (va :: vb :: st) z Q := by
  subst hn
  exact fun p e s m args below meth c A H locs ls hC hl hP hD hS => lv_dup2_11 hC.1 hC.2.1 hdg hva hvb (k p e s m args below meth c A H locs ls hC hl hP hD hS)
theorem sg_pop {va : Value} (hdg : decode cc pc = .ok (.pop, 1)) (hn : pc + 1 = pn) (hva : va.category = 1) (k : sg_G E y cc nL ret d pn lv (st) z Q) : sg_G E y cc nL ret d pc lv (va :: st) z Q := by
  subst hn
  exact fun p e s m args below meth c A H locs ls hC hl hP hD hS => lv_pop hC.1 hC.2.1 hdg hva (k p e s m args below meth c A H locs ls hC hl hP hD hS)
theorem sg_iload_n {k1 : Fin 4} {i : Nat} {x0 : Int32} (hdg : decode cc pc = .ok (.iload_n k1, 1)) (hn : pc + 1 = pn) (hi : (k1 : Nat) = i) (k0 : Nat) (hk : lv[k0]? = some (i, .int x0)) (k : sg_G E y cc nL ret d pn lv (.int x0 :: st) z Q) : sg_G E y cc nL ret d pc lv (st) z Q := by
  subst hn
  exact fun p e s m args below meth c A H locs ls hC hl hP hD hS => lv_iload_n hC.1 hC.2.1 hdg hi (lv_at hl k0 hk) (k p e s m args below meth c A H locs ls hC hl hP hD hS)
theorem sg_iload {i : Nat} {x0 : Int32} (hdg : decode cc pc = .ok (.iload i, 2)) (hn : pc + 2 = pn) (k0 : Nat) (hk : lv[k0]? = some (i, .int x0)) (k : sg_G E y cc nL ret d pn lv (.int x0 :: st) z Q) : sg_G E y cc nL ret d pc lv (st) z Q := by
  subst hn
  exact fun p e s m args below meth c A H locs ls hC hl hP hD hS => lv_iload hC.1 hC.2.1 hdg (lv_at hl k0 hk) (k p e s m args below meth c A H locs ls hC hl hP hD hS)
theorem sg_aload_n {k1 : Fin 4} {i : Nat} {x0 : Nat} (hdg : decode cc pc = .ok (.aload_n k1, 1)) (hn : pc + 1 = pn) (hi : (k1 : Nat) = i) (k0 : Nat) (hk : lv[k0]? = some (i, .ref x0)) (k : sg_G E y cc nL ret d pn lv (.ref x0 :: st) z Q) : sg_G E y cc nL ret d pc lv (st) z Q := by
  subst hn
  exact fun p e s m args below meth c A H locs ls hC hl hP hD hS => lv_aload_n hC.1 hC.2.1 hdg hi (lv_at hl k0 hk) (k p e s m args below meth c A H locs ls hC hl hP hD hS)
theorem sg_aload {i : Nat} {x0 : Nat} (hdg : decode cc pc = .ok (.aload i, 2)) (hn : pc + 2 = pn) (k0 : Nat) (hk : lv[k0]? = some (i, .ref x0)) (k : sg_G E y cc nL ret d pn lv (.ref x0 :: st) z Q) : sg_G E y cc nL ret d pc lv (st) z Q := by
  subst hn
  exact fun p e s m args below meth c A H locs ls hC hl hP hD hS => lv_aload hC.1 hC.2.1 hdg (lv_at hl k0 hk) (k p e s m args below meth c A H locs ls hC hl hP hD hS)
theorem sg_lload_n {k1 : Fin 4} {i : Nat} {x0 : Int64} (hdg : decode cc pc = .ok (.lload_n k1, 1)) (hn : pc + 1 = pn) (hi : (k1 : Nat) = i) (k0 : Nat) (hk : lv[k0]? = some (i, .long x0)) (k : sg_G E y cc nL ret d pn lv (.long x0 :: st) z Q) : sg_G E y cc nL ret d pc lv (st) z Q := by
  subst hn
  exact fun p e s m args below meth c A H locs ls hC hl hP hD hS => lv_lload_n hC.1 hC.2.1 hdg hi (lv_at hl k0 hk) (k p e s m args below meth c A H locs ls hC hl hP hD hS)
theorem sg_lload {i : Nat} {x0 : Int64} (hdg : decode cc pc = .ok (.lload i, 2)) (hn : pc + 2 = pn) (k0 : Nat) (hk : lv[k0]? = some (i, .long x0)) (k : sg_G E y cc nL ret d pn lv (.long x0 :: st) z Q) : sg_G E y cc nL ret d pc lv (st) z Q := by
  subst hn
  exact fun p e s m args below meth c A H locs ls hC hl hP hD hS => lv_lload hC.1 hC.2.1 hdg (lv_at hl k0 hk) (k p e s m args below meth c A H locs ls hC hl hP hD hS)
theorem sg_istore_n {k1 : Fin 4} {i : Nat} {x0 : Int32} {lv' : List (Nat × Value)} (hdg : decode cc pc = .ok (.istore_n k1, 1)) (hn : pc + 1 = pn) (hi : (k1 : Nat) = i) (hb : i < nL) (ks : List Nat) (hl0 : lv_pick ((i, Value.int x0) :: lv.filter (fun q => !(q.1 == i) && !(q.1 + 1 == i && q.2.category == 2))) ks = lv') (k : sg_G E y cc nL ret d pn lv' st z Q) : sg_G E y cc nL ret d pc lv (Value.int x0 :: st) z Q := by
  subst hn
  exact fun p e s m args below meth c A H locs ls hC hl hP hD hS => lv_istore_n hC.1 hC.2.1 hdg hi hl hb rfl (fun ls2 hl2 => k p e s m args below meth c A H locs ls2 hC (lv_sub hl2 ks hl0) hP hD hS)
theorem sg_istore {i : Nat} {x0 : Int32} {lv' : List (Nat × Value)} (hdg : decode cc pc = .ok (.istore i, 2)) (hn : pc + 2 = pn) (hb : i < nL) (ks : List Nat) (hl0 : lv_pick ((i, Value.int x0) :: lv.filter (fun q => !(q.1 == i) && !(q.1 + 1 == i && q.2.category == 2))) ks = lv') (k : sg_G E y cc nL ret d pn lv' st z Q) : sg_G E y cc nL ret d pc lv (Value.int x0 :: st) z Q := by
  subst hn
  exact fun p e s m args below meth c A H locs ls hC hl hP hD hS => lv_istore hC.1 hC.2.1 hdg hl hb rfl (fun ls2 hl2 => k p e s m args below meth c A H locs ls2 hC (lv_sub hl2 ks hl0) hP hD hS)
theorem sg_astore_n {k1 : Fin 4} {i : Nat} {x0 : Nat} {lv' : List (Nat × Value)} (hdg : decode cc pc = .ok (.astore_n k1, 1)) (hn : pc + 1 = pn) (hi : (k1 : Nat) = i) (hb : i < nL) (ks : List Nat) (hl0 : lv_pick ((i, Value.ref x0) :: lv.filter (fun q => !(q.1 == i) && !(q.1 + 1 == i && q.2.category == 2))) ks = lv') (k : sg_G E y cc nL ret d pn lv' st z Q) : sg_G E y cc nL ret d pc lv (Value.ref x0 :: st) z Q := by
  subst hn
  exact fun p e s m args below meth c A H locs ls hC hl hP hD hS => lv_astore_n hC.1 hC.2.1 hdg hi hl hb rfl (fun ls2 hl2 => k p e s m args below meth c A H locs ls2 hC (lv_sub hl2 ks hl0) hP hD hS)
theorem sg_lstore_n {k1 : Fin 4} {i : Nat} {x0 : Int64} {lv' : List (Nat × Value)} (hdg : decode cc pc = .ok (.lstore_n k1, 1)) (hn : pc + 1 = pn) (hi : (k1 : Nat) = i) (hb : i + 1 < nL) (ks : List Nat) (hl0 : lv_pick ((i, Value.long x0) :: lv.filter (fun q => !(q.1 == i) && (!(q.1 == i + 1) && !(q.1 + 1 == i && q.2.category == 2)))) ks = lv') (k : sg_G E y cc nL ret d pn lv' st z Q) : sg_G E y cc nL ret d pc lv (Value.long x0 :: st) z Q := by
  subst hn
  exact fun p e s m args below meth c A H locs ls hC hl hP hD hS => lv_lstore_n hC.1 hC.2.1 hdg hi hl hb rfl (fun ls2 hl2 => k p e s m args below meth c A H locs ls2 hC (lv_sub hl2 ks hl0) hP hD hS)
theorem sg_iinc {i : Nat} {n0 : Int} {x0 v : Int32} {lv' : List (Nat × Value)} (hdg : decode cc pc = .ok (.iinc i n0, 3)) (hn : pc + 3 = pn) (k0 : Nat) (hk : lv[k0]? = some (i, .int x0)) (hv : x0 + Int32.ofInt n0 = v) (hb : i < nL) (ks : List Nat) (hl0 : lv_pick ((i, Value.int v) :: lv.filter (fun q => !(q.1 == i) && !(q.1 + 1 == i && q.2.category == 2))) ks = lv') (k : sg_G E y cc nL ret d pn lv' st z Q) : sg_G E y cc nL ret d pc lv st z Q := by
  subst hn
  exact fun p e s m args below meth c A H locs ls hC hl hP hD hS => lv_iinc hC.1 hC.2.1 hdg hl hk hv hb rfl (fun ls2 hl2 => k p e s m args below meth c A H locs ls2 hC (lv_sub hl2 ks hl0) hP hD hS)
theorem sg_icmp_eq {x0 y0 : Int32} {off : Int} {tgt : Nat} (hdg : decode cc pc = .ok (.if_icmp .eq off, 3)) (hn : pc + 3 = pn) (ht : (pc : Int) + off = (tgt : Int)) (kt : x0 = y0 → sg_G E y cc nL ret d tgt lv st z Q) (kf : ¬ x0 = y0 → sg_G E y cc nL ret d pn lv st z Q) : sg_G E y cc nL ret d pc lv (.int y0 :: .int x0 :: st) z Q := by
  subst hn
  exact fun p e s m args below meth c A H locs ls hC hl hP hD hS => lv_icmp_eq hC.1 hC.2.1 hdg ht (fun h => kt h p e s m args below meth c A H locs ls hC hl hP hD hS) (fun h => kf h p e s m args below meth c A H locs ls hC hl hP hD hS)
theorem sg_icmp_ne {x0 y0 : Int32} {off : Int} {tgt : Nat} (hdg : decode cc pc = .ok (.if_icmp .ne off, 3)) (hn : pc + 3 = pn) (ht : (pc : Int) + off = (tgt : Int)) (kt : ¬ x0 = y0 → sg_G E y cc nL ret d tgt lv st z Q) (kf : x0 = y0 → sg_G E y cc nL ret d pn lv st z Q) : sg_G E y cc nL ret d pc lv (.int y0 :: .int x0 :: st) z Q := by
  subst hn
  exact fun p e s m args below meth c A H locs ls hC hl hP hD hS => lv_icmp_ne hC.1 hC.2.1 hdg ht (fun h => kt h p e s m args below meth c A H locs ls hC hl hP hD hS) (fun h => kf h p e s m args below meth c A H locs ls hC hl hP hD hS)
theorem sg_icmp_lt {x0 y0 : Int32} {off : Int} {tgt : Nat} (hdg : decode cc pc = .ok (.if_icmp .lt off, 3)) (hn : pc + 3 = pn) (ht : (pc : Int) + off = (tgt : Int)) (kt : x0 < y0 → sg_G E y cc nL ret d tgt lv st z Q) (kf : ¬ x0 < y0 → sg_G E y cc nL ret d pn lv st z Q) : sg_G E y cc nL ret d pc lv (.int y0 :: .int x0 :: st) z Q := by
  subst hn
  exact fun p e s m args below meth c A H locs ls hC hl hP hD hS => lv_icmp_lt hC.1 hC.2.1 hdg ht (fun h => kt h p e s m args below meth c A H locs ls hC hl hP hD hS) (fun h => kf h p e s m args below meth c A H locs ls hC hl hP hD hS)
theorem sg_icmp_ge {x0 y0 : Int32} {off : Int} {tgt : Nat} (hdg : decode cc pc = .ok (.if_icmp .ge off, 3)) (hn : pc + 3 = pn) (ht : (pc : Int) + off = (tgt : Int)) (kt : y0 ≤ x0 → sg_G E y cc nL ret d tgt lv st z Q) (kf : ¬ y0 ≤ x0 → sg_G E y cc nL ret d pn lv st z Q) : sg_G E y cc nL ret d pc lv (.int y0 :: .int x0 :: st) z Q := by
  subst hn
  exact fun p e s m args below meth c A H locs ls hC hl hP hD hS => lv_icmp_ge hC.1 hC.2.1 hdg ht (fun h => kt h p e s m args below meth c A H locs ls hC hl hP hD hS) (fun h => kf h p e s m args below meth c A H locs ls hC hl hP hD hS)
theorem sg_icmp_gt {x0 y0 : Int32} {off : Int} {tgt : Nat} (hdg : decode cc pc = .ok (.if_icmp .gt off, 3)) (hn : pc + 3 = pn) (ht : (pc : Int) + off = (tgt : Int)) (kt : y0 < x0 → sg_G E y cc nL ret d tgt lv st z Q) (kf : ¬ y0 < x0 → sg_G E y cc nL ret d pn lv st z Q) : sg_G E y cc nL ret d pc lv (.int y0 :: .int x0 :: st) z Q := by
  subst hn
  exact fun p e s m args below meth c A H locs ls hC hl hP hD hS => lv_icmp_gt hC.1 hC.2.1 hdg ht (fun h => kt h p e s m args below meth c A H locs ls hC hl hP hD hS) (fun h => kf h p e s m args below meth c A H locs ls hC hl hP hD hS)
theorem sg_icmp_le {x0 y0 : Int32} {off : Int} {tgt : Nat} (hdg : decode cc pc = .ok (.if_icmp .le off, 3)) (hn : pc + 3 = pn) (ht : (pc : Int) + off = (tgt : Int)) (kt : x0 ≤ y0 → sg_G E y cc nL ret d tgt lv st z Q) (kf : ¬ x0 ≤ y0 → sg_G E y cc nL ret d pn lv st z Q) : sg_G E y cc nL ret d pc lv (.int y0 :: .int x0 :: st) z Q := by
  subst hn
  exact fun p e s m args below meth c A H locs ls hC hl hP hD hS => lv_icmp_le hC.1 hC.2.1 hdg ht (fun h => kt h p e s m args below meth c A H locs ls hC hl hP hD hS) (fun h => kf h p e s m args below meth c A H locs ls hC hl hP hD hS)
theorem sg_if_eq {x0 : Int32} {off : Int} {tgt : Nat} (hdg : decode cc pc = .ok (.ifCond .eq off, 3)) (hn : pc + 3 = pn) (ht : (pc : Int) + off = (tgt : Int)) (kt : x0 = 0 → sg_G E y cc nL ret d tgt lv st z Q) (kf : ¬ x0 = 0 → sg_G E y cc nL ret d pn lv st z Q) : sg_G E y cc nL ret d pc lv (.int x0 :: st) z Q := by
  subst hn
  exact fun p e s m args below meth c A H locs ls hC hl hP hD hS => lv_if_eq hC.1 hC.2.1 hdg ht (fun h => kt h p e s m args below meth c A H locs ls hC hl hP hD hS) (fun h => kf h p e s m args below meth c A H locs ls hC hl hP hD hS)
theorem sg_if_ne {x0 : Int32} {off : Int} {tgt : Nat} (hdg : decode cc pc = .ok (.ifCond .ne off, 3)) (hn : pc + 3 = pn) (ht : (pc : Int) + off = (tgt : Int)) (kt : ¬ x0 = 0 → sg_G E y cc nL ret d tgt lv st z Q) (kf : x0 = 0 → sg_G E y cc nL ret d pn lv st z Q) : sg_G E y cc nL ret d pc lv (.int x0 :: st) z Q := by
  subst hn
  exact fun p e s m args below meth c A H locs ls hC hl hP hD hS => lv_if_ne hC.1 hC.2.1 hdg ht (fun h => kt h p e s m args below meth c A H locs ls hC hl hP hD hS) (fun h => kf h p e s m args below meth c A H locs ls hC hl hP hD hS)
theorem sg_if_lt {x0 : Int32} {off : Int} {tgt : Nat} (hdg : decode cc pc = .ok (.ifCond .lt off, 3)) (hn : pc + 3 = pn) (ht : (pc : Int) + off = (tgt : Int)) (kt : x0 < 0 → sg_G E y cc nL ret d tgt lv st z Q) (kf : ¬ x0 < 0 → sg_G E y cc nL ret d pn lv st z Q) : sg_G E y cc nL ret d pc lv (.int x0 :: st) z Q := by
  subst hn
  exact fun p e s m args below meth c A H locs ls hC hl hP hD hS => lv_if_lt hC.1 hC.2.1 hdg ht (fun h => kt h p e s m args below meth c A H locs ls hC hl hP hD hS) (fun h => kf h p e s m args below meth c A H locs ls hC hl hP hD hS)
theorem sg_if_ge {x0 : Int32} {off : Int} {tgt : Nat} (hdg : decode cc pc = .ok (.ifCond .ge off, 3)) (hn : pc + 3 = pn) (ht : (pc : Int) + off = (tgt : Int)) (kt : 0 ≤ x0 → sg_G E y cc nL ret d tgt lv st z Q) (kf : ¬ 0 ≤ x0 → sg_G E y cc nL ret d pn lv st z Q) : sg_G E y cc nL ret d pc lv (.int x0 :: st) z Q := by
  subst hn
  exact fun p e s m args below meth c A H locs ls hC hl hP hD hS => lv_if_ge hC.1 hC.2.1 hdg ht (fun h => kt h p e s m args below meth c A H locs ls hC hl hP hD hS) (fun h => kf h p e s m args below meth c A H locs ls hC hl hP hD hS)
theorem sg_if_gt {x0 : Int32} {off : Int} {tgt : Nat} (hdg : decode cc pc = .ok (.ifCond .gt off, 3)) (hn : pc + 3 = pn) (ht : (pc : Int) + off = (tgt : Int)) (kt : 0 < x0 → sg_G E y cc nL ret d tgt lv st z Q) (kf : ¬ 0 < x0 → sg_G E y cc nL ret d pn lv st z Q) : sg_G E y cc nL ret d pc lv (.int x0 :: st) z Q := by
  subst hn
  exact fun p e s m args below meth c A H locs ls hC hl hP hD hS => lv_if_gt hC.1 hC.2.1 hdg ht (fun h => kt h p e s m args below meth c A H locs ls hC hl hP hD hS) (fun h => kf h p e s m args below meth c A H locs ls hC hl hP hD hS)
theorem sg_if_le {x0 : Int32} {off : Int} {tgt : Nat} (hdg : decode cc pc = .ok (.ifCond .le off, 3)) (hn : pc + 3 = pn) (ht : (pc : Int) + off = (tgt : Int)) (kt : x0 ≤ 0 → sg_G E y cc nL ret d tgt lv st z Q) (kf : ¬ x0 ≤ 0 → sg_G E y cc nL ret d pn lv st z Q) : sg_G E y cc nL ret d pc lv (.int x0 :: st) z Q := by
  subst hn
  exact fun p e s m args below meth c A H locs ls hC hl hP hD hS => lv_if_le hC.1 hC.2.1 hdg ht (fun h => kt h p e s m args below meth c A H locs ls hC hl hP hD hS) (fun h => kf h p e s m args below meth c A H locs ls hC hl hP hD hS)
theorem sg_goto {off : Int} {tgt : Nat} (hdg : decode cc pc = .ok (.goto off, 3)) (ht : (pc : Int) + off = (tgt : Int)) (k : sg_G E y cc nL ret d tgt lv st z Q) : sg_G E y cc nL ret d pc lv st z Q :=
  fun p e s m args below meth c A H locs ls hC hl hP hD hS => lv_goto hC.1 hC.2.1 hdg ht (k p e s m args below meth c A H locs ls hC hl hP hD hS)
theorem sg_tabIn {x0 : Int32} {dflt lo hi off : Int} {offs : Array Int} {len tgt : Nat} (hdg : decode cc pc = .ok (.tableswitch dflt lo hi offs, len)) (h1 : ¬ x0.toInt < lo) (h2 : ¬ hi < x0.toInt) (ho : offs[(x0.toInt - lo).toNat]? = some off) (ht : (pc : Int) + off = (tgt : Int)) (k : sg_G E y cc nL ret d tgt lv st z Q) : sg_G E y cc nL ret d pc lv (.int x0 :: st) z Q :=
  fun p e s m args below meth c A H locs ls hC hl hP hD hS => lv_tableIn hC.1 hC.2.1 hdg h1 h2 ho ht (k p e s m args below meth c A H locs ls hC hl hP hD hS)
theorem sg_tabOut {x0 : Int32} {dflt lo hi : Int} {offs : Array Int} {len tgt : Nat} (hdg : decode cc pc = .ok (.tableswitch dflt lo hi offs, len)) (h : x0.toInt < lo ∨ hi < x0.toInt) (ht : (pc : Int) + dflt = (tgt : Int)) (k : sg_G E y cc nL ret d tgt lv st z Q) : sg_G E y cc nL ret d pc lv (.int x0 :: st) z Q :=
  fun p e s m args below meth c A H locs ls hC hl hP hD hS => lv_tableOut hC.1 hC.2.1 hdg h ht (k p e s m args below meth c A H locs ls hC hl hP hD hS)
theorem sg_lookup {x0 : Int32} {dflt off : Int} {ps : Array (Int × Int)} {len tgt : Nat} (hdg : decode cc pc = .ok (.lookupswitch dflt ps, len)) (hp : (ps.toList.zip (ps.toList.drop 1)).all (fun (a, next) => a.1 < next.1) = true) (ho : Op.lookupswitch.offset ps.toList dflt x0.toInt = off) (ht : (pc : Int) + off = (tgt : Int)) (k : sg_G E y cc nL ret d tgt lv st z Q) : sg_G E y cc nL ret d pc lv (.int x0 :: st) z Q :=
  fun p e s m args below meth c A H locs ls hC hl hP hD hS => lv_lookup hC.1 hC.2.1 hdg hp ho ht (k p e s m args below meth c A H locs ls hC hl hP hD hS)
theorem sg_iret {v : Int32} (hdg : decode cc pc = .ok (.ireturn, 1)) (hr : ret = some .int) (hq : Q (some (.int v)) z) : sg_G E y cc nL ret d pc lv [.int v] z Q :=
  fun p e s m args below meth c A H locs ls hC hl hP hD hS => W.iret hC.1 hC.2.1 (hC.2.2.2.2.2.2.1.trans hr) (fun t ht hW => ⟨⟨_, z, rfl, hq, by rw [ht]; exact hP, va_K.moved hW.alike hC.2.2.2.2.1, hD⟩, hS.F ht⟩) hS.2.2 hdg (hlocks := hC.2.2.2.2.2.2.2.1)
theorem sg_zret {v : Int32} (hdg : decode cc pc = .ok (.ireturn, 1)) (hr : ret = some .boolean) (hb : narrow .boolean (.int v) = .int v) (hq : Q (some (.int v)) z) : sg_G E y cc nL ret d pc lv [.int v] z Q :=
  fun p e s m args below meth c A H locs ls hC hl hP hD hS => W.zret hC.1 hC.2.1 (hC.2.2.2.2.2.2.1.trans hr) hb (fun t ht hW => ⟨⟨_, z, rfl, hq, by rw [ht]; exact hP, va_K.moved hW.alike hC.2.2.2.2.1, hD⟩, hS.F ht⟩) hS.2.2 hdg (hlocks := hC.2.2.2.2.2.2.2.1)
theorem sg_vret (hdg : decode cc pc = .ok (.return_, 1)) (hr : ret = none) (hq : Q none z) : sg_G E y cc nL ret d pc lv [] z Q :=
  fun p e s m args below meth c A H locs ls hC hl hP hD hS => W.vret hC.1 hC.2.1 (hC.2.2.2.2.2.2.1.trans hr) (fun t ht hW => ⟨⟨_, z, rfl, hq, by rw [ht]; exact hP, va_K.moved hW.alike hC.2.2.2.2.1, hD⟩, hS.F ht⟩) hS.2.2 hdg (hlocks := hC.2.2.2.2.2.2.2.1)
theorem sg_aret {a : Nat} {C : String} (hdg : decode cc pc = .ok (.areturn, 1)) (hr : ret = some (.object C)) (hq : Q (some (.ref a)) z) : sg_G E y cc nL ret d pc lv [.ref a] z Q :=
  fun p e s m args below meth c A H locs ls hC hl hP hD hS => W.aret hC.1 hC.2.1 (hC.2.2.2.2.2.2.1.trans hr) (Or.inl ⟨_, rfl⟩) (Or.inr ⟨_, rfl⟩) (fun t ht hW => ⟨⟨_, z, rfl, hq, by rw [ht]; exact hP, va_K.moved hW.alike hC.2.2.2.2.1, hD⟩, hS.F ht⟩) hS.2.2 hdg (hlocks := hC.2.2.2.2.2.2.2.1)
theorem sg_get {a ci ix N : Nat} {C rf : String} {T : u_T} {fs : List Value} {v : Value} (q0 k0 : Nat) (hdg : decode cc pc = .ok (.getfield ix, 3)) (hn : pc + 3 = pn) (hin : ∀ w ∈ u_ws C T N, w ∈ sg_tbl) (he : (E.2.2.2 z)[q0]? = some (a, .inr (ci, fs))) (hc : vwCl[ci]? = some (C, T, N)) (hk : k0 < N) (hw : Cond.fieldLink y.cls ix rf (T k0).2.1 (T k0).2.2.1 ∈ sg_tbl) (hs : rf = (T k0).1) (hv : fs[k0]? = some v) (k : sg_G E y cc nL ret d pn lv (v :: st) z Q) : sg_G E y cc nL ret d pc lv (.ref a :: st) z Q := by
  subst hn
  exact fun p e s m args below meth c A H locs ls hC hl hP hD hS => va_get (D := E.2.1) hC.1 hC.2.1 hC.2.2.2.1 hin hC.2.2.1 hC.2.2.2.2.1 hP q0 he hc k0 hk (hC.2.2.2.1 _ hw) (fun _ h9 => by rw [hs]; exact h9) hv hdg (k p e s m args below meth c A H locs ls hC hl hP hD hS)
theorem sg_put {a ci ix N : Nat} {C rf : String} {T : u_T} {fs : List Value} {v : Value} {ty : FieldType} {z2 : sg_M} (q0 k0 : Nat) (hdg : decode cc pc = .ok (.putfield ix, 3)) (hn : pc + 3 = pn) (hin : ∀ w ∈ u_ws C T N, w ∈ sg_tbl) (ty0 : Nat → FieldType) (hty : ∀ k, k < N → parseFieldDescriptor (T k).2.2.1 = some (ty0 k)) (hnm : ∀ a, a < N → ∀ b, b < N → a ≠ b → (T a).2.1 ≠ (T b).2.1) (he : (E.2.2.2 z)[q0]? = some (a, .inr (ci, fs))) (hc : vwCl[ci]? = some (C, T, N)) (hk : k0 < N) (hw : Cond.fieldLink y.cls ix rf (T k0).2.1 (T k0).2.2.1 ∈ sg_tbl) (hs : rf = (T k0).1) (hfin : (T k0).2.2.2 = false) (hd0 : parseFieldDescriptor (T k0).2.2.1 = some ty) (hnr : narrow ty v = v) (hft : fits ty v = true) (hl1 : k0 < fs.length) (hz : (E.2.2.2 z).set q0 (a, .inr (ci, fs.set k0 v)) = E.2.2.2 z2) (k : sg_G E y cc nL ret d pn lv st z2 Q) : sg_G E y cc nL ret d pc lv (v :: .ref a :: st) z Q := by
  subst hn
  exact fun p e s m args below meth c A H locs ls hC hl hP hD hS => va_put (D := E.2.1) hC.1 hC.2.1 hC.2.2.2.1 hin ty0 hty hnm hC.2.2.1 hC.2.2.2.2.1 hP hD hS q0 he hc k0 hk (hC.2.2.2.1 _ hw) (fun _ h9 => by rw [hs]; exact h9) hfin hd0 hnr hft hl1 hdg (fun H1 l1 hP1 hD1 hS1 => k p e s m args below meth c A H1 l1 ls hC hl (by rw [← hz]; exact hP1) (by rw [← hz]; exact hD1) hS1)
theorem sg_iald {a n : Nat} {cA : ClassId} {f : Nat → Int32} {i : Int32} (q0 t0 : Nat) (hdg : decode cc pc = .ok (.iaload, 1)) (hn : pc + 1 = pn) (he : (E.2.2.2 z)[q0]? = some (a, .inl (cA, n, .inl f))) (ht : E.2.2.1[t0]? = some (cA, .int)) (hi : vp_in i n) (k : sg_G E y cc nL ret d pn lv (.int (f i.toNatClampNeg) :: st) z Q) : sg_G E y cc nL ret d pc lv (.int i :: .ref a :: st) z Q := by
  subst hn
  exact fun p e s m args below meth c A H locs ls hC hl hP hD hS => va_iald (D := E.2.1) hC.1 hC.2.1 hC.2.2.2.2.1 hP q0 t0 he ht hi hdg (k p e s m args below meth c A H locs ls hC hl hP hD hS)
theorem sg_zald {a n : Nat} {cA : ClassId} {f : Nat → Int32} {i : Int32} (q0 t0 : Nat) (hdg : decode cc pc = .ok (.baload, 1)) (hn : pc + 1 = pn) (he : (E.2.2.2 z)[q0]? = some (a, .inl (cA, n, .inl f))) (ht : E.2.2.1[t0]? = some (cA, .boolean)) (hi : vp_in i n) (k : sg_G E y cc nL ret d pn lv (.int (f i.toNatClampNeg) :: st) z Q) : sg_G E y cc nL ret d pc lv (.int i :: .ref a :: st) z Q := by
  subst hn
  exact fun p e s m args below meth c A H locs ls hC hl hP hD hS => va_zald (D := E.2.1) hC.1 hC.2.1 hC.2.2.2.2.1 hP q0 t0 he ht hi hdg (k p e s m args below meth c A H locs ls hC hl hP hD hS)
theorem sg_iast {a n : Nat} {cA : ClassId} {f : Nat → Int32} {i x0 : Int32} {z2 : sg_M} (q0 t0 : Nat) (hdg : decode cc pc = .ok (.iastore, 1)) (hn : pc + 1 = pn) (he : (E.2.2.2 z)[q0]? = some (a, .inl (cA, n, .inl f))) (ht : E.2.2.1[t0]? = some (cA, .int)) (hi : vp_in i n) (hz : (E.2.2.2 z).set q0 (a, .inl (cA, n, .inl (upd f i.toNatClampNeg x0))) = E.2.2.2 z2) (k : sg_G E y cc nL ret d pn lv st z2 Q) : sg_G E y cc nL ret d pc lv (.int x0 :: .int i :: .ref a :: st) z Q := by
  subst hn
  exact fun p e s m args below meth c A H locs ls hC hl hP hD hS => va_iast (D := E.2.1) hC.1 hC.2.1 hC.2.2.2.2.1 hP hD hS q0 t0 he ht hi hdg (fun H1 l1 hP1 hD1 hS1 => k p e s m args below meth c A H1 l1 ls hC hl (by rw [← hz]; exact hP1) (by rw [← hz]; exact hD1) hS1)
theorem sg_zast {a n : Nat} {cA : ClassId} {f : Nat → Int32} {i x0 : Int32} {z2 : sg_M} (q0 t0 : Nat) (hdg : decode cc pc = .ok (.bastore, 1)) (hn : pc + 1 = pn) (he : (E.2.2.2 z)[q0]? = some (a, .inl (cA, n, .inl f))) (ht : E.2.2.1[t0]? = some (cA, .boolean)) (hi : vp_in i n) (hz : (E.2.2.2 z).set q0 (a, .inl (cA, n, .inl (upd f i.toNatClampNeg (vp_nar .boolean x0)))) = E.2.2.2 z2) (k : sg_G E y cc nL ret d pn lv st z2 Q) : sg_G E y cc nL ret d pc lv (.int x0 :: .int i :: .ref a :: st) z Q := by
  subst hn
  exact fun p e s m args below meth c A H locs ls hC hl hP hD hS => va_zast (D := E.2.1) hC.1 hC.2.1 hC.2.2.2.2.1 hP hD hS q0 t0 he ht hi hdg (fun H1 l1 hP1 hD1 hS1 => k p e s m args below meth c A H1 l1 ls hC hl (by rw [← hz]; exact hP1) (by rw [← hz]; exact hD1) hS1)
theorem sg_alen {a n : Nat} {cA : ClassId} {f : Nat → Int32} {v : Int32} {ty : FieldType} (q0 t0 : Nat) (hdg : decode cc pc = .ok (.arraylength, 1)) (hn : pc + 1 = pn) (he : (E.2.2.2 z)[q0]? = some (a, .inl (cA, n, .inl f))) (ht : E.2.2.1[t0]? = some (cA, ty)) (hv : Int32.ofNat n = v) (k : sg_G E y cc nL ret d pn lv (.int v :: st) z Q) : sg_G E y cc nL ret d pc lv (.ref a :: st) z Q := by
  subst hn
  exact fun p e s m args below meth c A H locs ls hC hl hP hD hS => va_alen (D := E.2.1) hC.1 hC.2.1 hC.2.2.2.2.1 hP q0 t0 he ht hv hdg (k p e s m args below meth c A H locs ls hC hl hP hD hS)
theorem sg_fitI (x : Int32) : fits .int (.int x) = true := rfl
theorem sg_copy {a a0 n0 n1 ix : Nat} {c0 c1 : ClassId} {f g : Nat → Int32} {sp dp n : Int32} {z2 : sg_M} (q0 q1 t0 t1 : Nat) (hdg : decode cc pc = .ok (.invokestatic ix, 3)) (hn : pc + 3 = pn) (hw : Cond.methodLink y.cls ix arraycopyName ∈ sg_tbl) (hw2 : Cond.native arraycopyName ∈ sg_tbl ∧ Cond.static arraycopyName ∈ sg_tbl ∧ Cond.initialized "java/lang/System" ∈ sg_tbl) (he0 : (E.2.2.2 z)[q0]? = some (a0, .inl (c0, n0, .inl f))) (he1 : (E.2.2.2 z)[q1]? = some (a, .inl (c1, n1, .inl g))) (ht0 : E.2.2.1[t0]? = some (c0, .int)) (ht1 : E.2.2.1[t1]? = some (c1, .int)) (h1 : ¬ sp < 0) (h2 : ¬ dp < 0) (h3 : ¬ n < 0) (h4 : sp.toNatClampNeg + n.toNatClampNeg ≤ n0) (h5 : dp.toNatClampNeg + n.toNatClampNeg ≤ n1) (hd1 : 1 ≤ d) (hst : (st.map fun v => v.category).sum ≤ 8) (hz : (E.2.2.2 z).set q1 (a, .inl (c1, n1, .inl (va_cpy f g sp.toNatClampNeg dp.toNatClampNeg n.toNatClampNeg))) = E.2.2.2 z2) (k : sg_G E y cc nL ret d pn lv st z2 Q) : sg_G E y cc nL ret d pc lv (.int n :: .int dp :: .ref a :: .int sp :: .ref a0 :: st) z Q := by
  subst hn
  exact fun p e s m args below meth c A H locs ls hC hl hP hD hS => va_copyi (D := E.2.1) hC.1 hC.2.1 (hC.2.2.2.2.2.1.trans hl.1.symm) hC.2.2.1 (hC.2.2.2.1 _ hw) (hC.2.2.2.1 _ hw2.1) (hC.2.2.2.1 _ hw2.2.1) (hC.2.2.2.1 _ hw2.2.2) hC.2.2.2.2.1 hP hD hS q0 q1 t0 t1 he0 he1 ht0 ht1 rfl h1 h2 h3 h4 h5 (fun i _ => sg_fitI _) hd1 (by
    have e1 : nativeFrameWords "java/lang/System" "arraycopy" 5 + 11 ≤ 50 := by decide +kernel
    have e2 : (sg_rm d).locals = 64 * d := rfl
    omega) hdg (fun H1 l1 hP1 hD1 hS1 => k p e s m args below meth c A H1 l1 ls hC hl (by rw [← hz]; exact hP1) (by rw [← hz]; exact hD1) hS1)
end SG
/-- what the tables say of a call: the caller's class, the entry, the callee -/
def sg_kB (own : String) (ix : Nat) (y' : MethodName) (cc' : ByteArray) (nL' : Nat) (ret' : Option FieldType) (n : Nat) : Prop :=
  Cond.code y' cc' nL' ret' ∈ sg_tbl ∧ Cond.initialized y'.cls ∈ sg_tbl ∧ Cond.methodLink own ix y' ∈ sg_tbl ∧ (y'.cls ≠ "java/lang/invoke/MethodHandle" ∧ y'.cls ≠ "java/lang/invoke/VarHandle" ∧ (parseMethodDescriptor y'.desc).map (fun q => q.parameters.length) = some n) ∧ nL' ≤ 40
section SGC
variable {E : sg_E} {y : MethodName} {cc : ByteArray} {nL : Nat} {ret : Option FieldType} {d pc pn : Nat} {lv : List (Nat × Value)} {st : List Value} {z : sg_M} {Q : Option Value → sg_M → Prop}
variable {y' : MethodName} {cc' : ByteArray} {nL' n ix d' : Nat} {ret' : Option FieldType} {As rest : List Value} {v0 : Option Value} {z1 : sg_M}
theorem sg_blind {av : List Value} {sz : Nat} : FrameBlind (va_Pc av (fun U => U.heap.size = sz ∧ va_P E.2.1 vwCl (E.2.2.2 z) U.heap ∧ va_K E.2.1 vwCl E.2.2.1 U ∧ va_D (fun _ => True) (E.2.2.2 z))) :=
  fun a U g mk q => by obtain ⟨q0, q1, qP, qK, qD⟩ := q; exact ⟨q0, q1, qP, va_K.moved (u := U) (U := U.calling g mk a) (Vm.Alike.refl U.vm) qK, qD⟩
theorem sg_after {p : Program} {e : Env} {s : State} {m : MethodId} {args : Array Value} {below : List Frame} {meth : Method} {c : Code} {A : Nat → Prop} {H : Heap} {locs : List Loc} {ls : Array Slot} {a : Array Value} {st0 : List Value}
    (hr : va_Run p E.1 e (sg_rm d) s m args below meth c H locs 0 0 0 0 (F0 m pc ls st0) rest (sg_Q (sg_is v0 z1) (sg_B E (va_A (E.2.2.2 z) H.size)) (va_A (E.2.2.2 z) H.size) a) (va_A (E.2.2.2 z) H.size))
    (hC : sg_C E y cc nL ret p s m args meth c A) (hl : lv_has ls nL lv) (hP : va_P E.2.1 vwCl (E.2.2.2 z) H) (hD : va_D A (E.2.2.2 z)) (hS : va_S A s.heap H locs)
    (k : sg_G E y cc nL ret d (pc + 3) lv (v0.toList ++ rest) z1 Q) : W p E.1 e (sg_rm d) s m args below meth c H locs 0 0 (MQ below (sg_Q Q (sg_B E A) A) args s 0 0 A) (F0 m pc ls st0) := by
  intro T hT X
  obtain ⟨v, st₀, t, T', L, h0, X', hL, e1, e2, ⟨⟨v2, z2, hv, ⟨hq1, hq2⟩, hb1, hb2, hb3⟩, hz, hk⟩, st1⟩ := hr T hT X
  cases hv
  subst hq1; subst hq2
  rw [h0] at hz hk
  have hfree : ∀ q, va_A (E.2.2.2 z) H.size q → A q := by
    intro q hq
    rcases hq with ⟨k2, e3, h⟩ | h
    · exact hD.2 k2 _ h
    · exact hC.2.2.2.2.2.2.2.2 q (Nat.le_trans hS.1 h)
  obtain ⟨t2, a1, b1⟩ := k p e s m args below meth c A T'.heap (locs ++ L) ls hC hl (by rw [e1]; exact hb1) (hb3.weaken (fun k q _ h => hfree q.1 h))
    ⟨Nat.le_trans hS.1 (by rw [e1]; exact hz), fun q h1 h2 => by rw [e1, hk q (Nat.lt_of_lt_of_le h1 hS.1) (fun z9 => h2 (hfree q z9))]; exact hS.2.1 q h1 h2, fun q hq => by
      rcases List.mem_append.mp hq with h | h
      · exact hS.2.2 q h
      · exact hfree _ (hL q h)⟩ T' rfl X'
  exact ⟨t2, st1 t2 a1, b1⟩
theorem sg_callV {a ci : Nat} {fs : List Value} (q0 : Nat) (hdg : decode cc pc = .ok (.invokevirtual ix, 3)) (hn : pc + 3 = pn) (kw : sg_kB y.cls ix y' cc' nL' ret' n) (kv : Cond.instanceMethod y' ∈ sg_tbl ∧ Cond.selects y'.cls y' y' ∈ sg_tbl) (he : (E.2.2.2 z)[q0]? = some (a, .inr (ci, fs))) (hc : (vwCl[ci]?).map (fun q => q.1) = some y'.cls) (hd : d' + 1 ≤ d) (hM : sg_Met E y' cc' nL' ret' d' (.ref a :: As) z (sg_is v0 z1)) (hlen : As.length = n) (hst : st = As.reverse ++ .ref a :: rest) (hW : (rest.map fun v => v.category).sum ≤ 8)
    (k : sg_G E y cc nL ret d pn lv (v0.toList ++ rest) z1 Q) : sg_G E y cc nL ret d pc lv st z Q := by
  subst hn
  subst hst
  intro p e s m args below meth c A H locs ls hC hl hP hD hS
  obtain ⟨kc, ki, kl, kd, kn⟩ := kw
  have hts : ∀ w ∈ sg_ws y' cc' nL' ret', w.before args s = true := by
    intro w hw
    rcases List.mem_cons.mp hw with rfl | hw
    · exact hC.2.2.2.1 _ kc
    · exact hC.2.2.2.1 _ hw
  obtain ⟨q9, hq9, hq8⟩ : ∃ q : vw_C, vwCl[ci]? = some q ∧ q.1 = y'.cls := by
    cases hcc : vwCl[ci]? with
    | none => rw [hcc] at hc; cases hc
    | some q => rw [hcc] at hc; exact ⟨q, rfl, Option.some.inj hc⟩
  refine sg_after (pc := pc) (rest := rest) (va_runV (As := As) (rest := rest) (Ts := sg_ws y' cc' nL' ret') (nL := nL) ⟨hC.1, hC.2.1, hC.2.2.2.2.2.1, hC.2.2.1, hts⟩ (hM H.size) ⟨callB_of (Ts := sg_ws y' cc' nL' ret') n hts (sg_goodIn kc) rfl rfl rfl (hC.2.2.2.1 _ ki) (hC.2.2.2.1 _ kl) kd ⟨hd, ?_⟩, hC.2.2.2.1 _ kv.1, hC.2.2.2.1 _ kv.2⟩ ⟨sg_blind, ?_, fun U hU hW2 => ⟨rfl, by rw [hU], by rw [hU]; exact hP, va_K.moved hW2.alike hC.2.2.2.2.1, hD.weaken (fun _ _ _ _ => trivial)⟩⟩ rfl hlen hl.1 rfl (lv_room hW) hdg ⟨Nat.zero_le _, Nat.zero_le _⟩) hC hl hP hD hS k
  · show 8 + (nL' + 11) + 64 * d' ≤ 64 * d
    omega
  · have h := va_recv hC.2.2.2.2.1 hP (ci := ci) (q0 := q0) hq9 he
    rw [hq8] at h
    exact h
theorem sg_callS (hdg : decode cc pc = .ok (.invokestatic ix, 3)) (hn : pc + 3 = pn) (kw : sg_kB y.cls ix y' cc' nL' ret' n) (kv : Cond.static y' ∈ sg_tbl) (hd : d' + 1 ≤ d) (hM : sg_Met E y' cc' nL' ret' d' As z (sg_is v0 z1)) (hlen : As.length = n) (hst : st = As.reverse ++ rest) (hW : (rest.map fun v => v.category).sum ≤ 8)
    (k : sg_G E y cc nL ret d pn lv (v0.toList ++ rest) z1 Q) : sg_G E y cc nL ret d pc lv st z Q := by
  subst hn
  subst hst
  intro p e s m args below meth c A H locs ls hC hl hP hD hS
  obtain ⟨kc, ki, kl, kd, kn⟩ := kw
  have hts : ∀ w ∈ sg_ws y' cc' nL' ret', w.before args s = true := by
    intro w hw
    rcases List.mem_cons.mp hw with rfl | hw
    · exact hC.2.2.2.1 _ kc
    · exact hC.2.2.2.1 _ hw
  refine sg_after (pc := pc) (rest := rest) (va_runS (As := As) (rest := rest) (Ts := sg_ws y' cc' nL' ret') (nL := nL) ⟨hC.1, hC.2.1, hC.2.2.2.2.2.1, hC.2.2.1, hts⟩ (hM H.size) ⟨callB_of (Ts := sg_ws y' cc' nL' ret') n hts (sg_goodIn kc) rfl rfl rfl (hC.2.2.2.1 _ ki) (hC.2.2.2.1 _ kl) kd ⟨hd, ?_⟩, hC.2.2.2.1 _ kv⟩ ⟨sg_blind, fun U hU hW2 => ⟨rfl, by rw [hU], by rw [hU]; exact hP, va_K.moved hW2.alike hC.2.2.2.2.1, hD.weaken (fun _ _ _ _ => trivial)⟩⟩ rfl hlen hl.1 rfl (lv_room hW) hdg ⟨Nat.zero_le _, Nat.zero_le _⟩) hC hl hP hD hS k
  show 8 + (nL' + 11) + 64 * d' ≤ 64 * d
  omega
end SGC
/-! guards, binds -/
def sg_in (i : Int32) (n : Nat) : Bool := decide (¬ i < 0) && decide (i.toNatClampNeg < n)
theorem sg_in_vp {i : Int32} {n : Nat} (h : sg_in i n = true) : vp_in i n := by
  simp only [sg_in, Bool.and_eq_true, decide_eq_true_eq] at h
  intro q
  rcases q with q | q
  · exact h.1 q
  · omega
theorem sg_guard {α : Type} {b : Bool} {t : Option α} {r : α} (h : (if b = true then t else none) = some r) : b = true ∧ t = some r := by
  cases b
  · cases h
  · exact ⟨rfl, h⟩
theorem sg_bind {α β : Type} {a : Option α} {f : α → Option β} {r : β} (h : a.bind f = some r) : ∃ x, a = some x ∧ f x = some r := by
  cases a with
  | none => cases h
  | some x => exact ⟨x, rfl, h⟩
def sg_s (z : sg_M) (k : Nat) (x : Int32) : sg_M := (fun j => if j = k then x else z.1 j, z.2)
def sg_a (z : sg_M) (k : Nat) (f : Nat → Int32) : sg_M := (z.1, fun j => if j = k then f else z.2 j)
def sg_w (z : sg_M) (k : Nat) (i x : Int32) : sg_M := sg_a z k (upd (z.2 k) i.toNatClampNeg x)
def sg_cpin (sp dp n : Int32) (n0 n1 : Nat) : Bool := decide (¬ sp < 0) && decide (¬ dp < 0) && decide (¬ n < 0) && decide (sp.toNatClampNeg + n.toNatClampNeg ≤ n0) && decide (dp.toNatClampNeg + n.toNatClampNeg ≤ n1)
theorem sg_cp_of {sp dp n : Int32} {n0 n1 : Nat} (h : sg_cpin sp dp n n0 n1 = true) : ¬ sp < 0 ∧ ¬ dp < 0 ∧ ¬ n < 0 ∧ sp.toNatClampNeg + n.toNatClampNeg ≤ n0 ∧ dp.toNatClampNeg + n.toNatClampNeg ≤ n1 := by
  simpa [sg_cpin, and_assoc] using h
theorem sg_nb {c : Prop} [Decidable c] : narrow .boolean (.int (if c then 1 else 0)) = .int (if c then 1 else 0) := by split <;> rfl
theorem sg_nb' {c : Prop} [Decidable c] : narrow .boolean (.int (if c then 0 else 1)) = .int (if c then 0 else 1) := by split <;> rfl
def sg_bool (v : Int32) : Bool := decide (v = 0) || decide (v = 1)
theorem sg_bool_n {v : Int32} (h : sg_bool v = true) : narrow .boolean (.int v) = .int v := by
  simp only [sg_bool, Bool.or_eq_true, decide_eq_true_eq] at h
  rcases h with rfl | rfl <;> rfl
end
