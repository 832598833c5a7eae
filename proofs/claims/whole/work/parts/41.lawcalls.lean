theorem kbL_9 : sg_kB RL 9 yX11_init cX11_init 1 none 0 := ⟨sg_mem (i := 82) (by decide +kernel) (by decide +kernel), ci_X11, sg_mem (i := 80) (by decide +kernel) (by decide +kernel), by decide +kernel, by decide⟩
theorem kvL_9 : Cond.instanceMethod yX11_init ∈ sg_tbl := sg_mem (i := 81) (by decide +kernel) (by decide +kernel)
theorem kbL_12 : sg_kB RL 12 yX12_init cX12_init 1 none 0 := ⟨sg_mem (i := 937) (by decide +kernel) (by decide +kernel), ci_X12, sg_mem (i := 935) (by decide +kernel) (by decide +kernel), by decide +kernel, by decide⟩
theorem kvL_12 : Cond.instanceMethod yX12_init ∈ sg_tbl := sg_mem (i := 936) (by decide +kernel) (by decide +kernel)
theorem kbL_13 : sg_kB RL 13 yX11_feed cX11_feed 2 (some .int) 1 := ⟨sg_mem (i := 453) (by decide +kernel) (by decide +kernel), ci_X11, sg_mem (i := 450) (by decide +kernel) (by decide +kernel), by decide +kernel, by decide⟩
theorem kvL_13 : Cond.instanceMethod yX11_feed ∈ sg_tbl ∧ Cond.selects yX11_feed.cls yX11_feed yX11_feed ∈ sg_tbl := ⟨sg_mem (i := 451) (by decide +kernel) (by decide +kernel), sg_mem (i := 452) (by decide +kernel) (by decide +kernel)⟩
theorem kbL_17 : sg_kB RL 17 yX12_feed cX12_feed 2 (some .int) 1 := ⟨sg_mem (i := 1051) (by decide +kernel) (by decide +kernel), ci_X12, sg_mem (i := 1048) (by decide +kernel) (by decide +kernel), by decide +kernel, by decide⟩
theorem kvL_17 : Cond.instanceMethod yX12_feed ∈ sg_tbl ∧ Cond.selects yX12_feed.cls yX12_feed yX12_feed ∈ sg_tbl := ⟨sg_mem (i := 1049) (by decide +kernel) (by decide +kernel), sg_mem (i := 1050) (by decide +kernel) (by decide +kernel)⟩
theorem kbL_18 : sg_kB RL 18 yX11_road cX11_road 2 (some .int) 0 := ⟨sg_mem (i := 463) (by decide +kernel) (by decide +kernel), ci_X11, sg_mem (i := 460) (by decide +kernel) (by decide +kernel), by decide +kernel, by decide⟩
theorem kvL_18 : Cond.instanceMethod yX11_road ∈ sg_tbl ∧ Cond.selects yX11_road.cls yX11_road yX11_road ∈ sg_tbl := ⟨sg_mem (i := 461) (by decide +kernel) (by decide +kernel), sg_mem (i := 462) (by decide +kernel) (by decide +kernel)⟩
theorem kbL_22 : sg_kB RL 22 yX12_road cX12_road 2 (some .int) 0 := ⟨sg_mem (i := 1061) (by decide +kernel) (by decide +kernel), ci_X12, sg_mem (i := 1058) (by decide +kernel) (by decide +kernel), by decide +kernel, by decide⟩
theorem kvL_22 : Cond.instanceMethod yX12_road ∈ sg_tbl ∧ Cond.selects yX12_road.cls yX12_road yX12_road ∈ sg_tbl := ⟨sg_mem (i := 1059) (by decide +kernel) (by decide +kernel), sg_mem (i := 1060) (by decide +kernel) (by decide +kernel)⟩
theorem kbL_23 : sg_kB RL 23 yX11_fault cX11_fault 1 (some .int) 0 := ⟨sg_mem (i := 518) (by decide +kernel) (by decide +kernel), ci_X11, sg_mem (i := 515) (by decide +kernel) (by decide +kernel), by decide +kernel, by decide⟩
theorem kvL_23 : Cond.instanceMethod yX11_fault ∈ sg_tbl ∧ Cond.selects yX11_fault.cls yX11_fault yX11_fault ∈ sg_tbl := ⟨sg_mem (i := 516) (by decide +kernel) (by decide +kernel), sg_mem (i := 517) (by decide +kernel) (by decide +kernel)⟩
theorem kbL_26 : sg_kB RL 26 yX12_fault cX12_fault 1 (some .int) 0 := ⟨sg_mem (i := 1106) (by decide +kernel) (by decide +kernel), ci_X12, sg_mem (i := 1103) (by decide +kernel) (by decide +kernel), by decide +kernel, by decide⟩
theorem kvL_26 : Cond.instanceMethod yX12_fault ∈ sg_tbl ∧ Cond.selects yX12_fault.cls yX12_fault yX12_fault ∈ sg_tbl := ⟨sg_mem (i := 1104) (by decide +kernel) (by decide +kernel), sg_mem (i := 1105) (by decide +kernel) (by decide +kernel)⟩
theorem kbL_27 : sg_kB RL 27 yX11_told cX11_told 2 (some .int) 1 := ⟨sg_mem (i := 522) (by decide +kernel) (by decide +kernel), ci_X11, sg_mem (i := 519) (by decide +kernel) (by decide +kernel), by decide +kernel, by decide⟩
theorem kvL_27 : Cond.instanceMethod yX11_told ∈ sg_tbl ∧ Cond.selects yX11_told.cls yX11_told yX11_told ∈ sg_tbl := ⟨sg_mem (i := 520) (by decide +kernel) (by decide +kernel), sg_mem (i := 521) (by decide +kernel) (by decide +kernel)⟩
theorem kbL_30 : sg_kB RL 30 yX12_told cX12_told 2 (some .int) 1 := ⟨sg_mem (i := 1110) (by decide +kernel) (by decide +kernel), ci_X12, sg_mem (i := 1107) (by decide +kernel) (by decide +kernel), by decide +kernel, by decide⟩
theorem kvL_30 : Cond.instanceMethod yX12_told ∈ sg_tbl ∧ Cond.selects yX12_told.cls yX12_told yX12_told ∈ sg_tbl := ⟨sg_mem (i := 1108) (by decide +kernel) (by decide +kernel), sg_mem (i := 1109) (by decide +kernel) (by decide +kernel)⟩
theorem kbL_31 : sg_kB RL 31 yX11_cell cX11_cell 3 (some .int) 2 := ⟨sg_mem (i := 609) (by decide +kernel) (by decide +kernel), ci_X11, sg_mem (i := 606) (by decide +kernel) (by decide +kernel), by decide +kernel, by decide⟩
theorem kvL_31 : Cond.instanceMethod yX11_cell ∈ sg_tbl ∧ Cond.selects yX11_cell.cls yX11_cell yX11_cell ∈ sg_tbl := ⟨sg_mem (i := 607) (by decide +kernel) (by decide +kernel), sg_mem (i := 608) (by decide +kernel) (by decide +kernel)⟩
theorem kbL_35 : sg_kB RL 35 yX12_cell cX12_cell 3 (some .int) 2 := ⟨sg_mem (i := 1185) (by decide +kernel) (by decide +kernel), ci_X12, sg_mem (i := 1182) (by decide +kernel) (by decide +kernel), by decide +kernel, by decide⟩
theorem kvL_35 : Cond.instanceMethod yX12_cell ∈ sg_tbl ∧ Cond.selects yX12_cell.cls yX12_cell yX12_cell ∈ sg_tbl := ⟨sg_mem (i := 1183) (by decide +kernel) (by decide +kernel), sg_mem (i := 1184) (by decide +kernel) (by decide +kernel)⟩
theorem kbL_36 : sg_kB RL 36 yX11_cart cX11_cart 3 (some .int) 2 := ⟨sg_mem (i := 616) (by decide +kernel) (by decide +kernel), ci_X11, sg_mem (i := 613) (by decide +kernel) (by decide +kernel), by decide +kernel, by decide⟩
theorem kvL_36 : Cond.instanceMethod yX11_cart ∈ sg_tbl ∧ Cond.selects yX11_cart.cls yX11_cart yX11_cart ∈ sg_tbl := ⟨sg_mem (i := 614) (by decide +kernel) (by decide +kernel), sg_mem (i := 615) (by decide +kernel) (by decide +kernel)⟩
theorem kbL_39 : sg_kB RL 39 yX12_cart cX12_cart 3 (some .int) 2 := ⟨sg_mem (i := 1194) (by decide +kernel) (by decide +kernel), ci_X12, sg_mem (i := 1191) (by decide +kernel) (by decide +kernel), by decide +kernel, by decide⟩
theorem kvL_39 : Cond.instanceMethod yX12_cart ∈ sg_tbl ∧ Cond.selects yX12_cart.cls yX12_cart yX12_cart ∈ sg_tbl := ⟨sg_mem (i := 1192) (by decide +kernel) (by decide +kernel), sg_mem (i := 1193) (by decide +kernel) (by decide +kernel)⟩
theorem kbL_40 : sg_kB RL 40 yX11_sink cX11_sink 3 (some .int) 2 := ⟨sg_mem (i := 628) (by decide +kernel) (by decide +kernel), ci_X11, sg_mem (i := 625) (by decide +kernel) (by decide +kernel), by decide +kernel, by decide⟩
theorem kvL_40 : Cond.instanceMethod yX11_sink ∈ sg_tbl ∧ Cond.selects yX11_sink.cls yX11_sink yX11_sink ∈ sg_tbl := ⟨sg_mem (i := 626) (by decide +kernel) (by decide +kernel), sg_mem (i := 627) (by decide +kernel) (by decide +kernel)⟩
theorem kbL_43 : sg_kB RL 43 yX12_sink cX12_sink 3 (some .int) 2 := ⟨sg_mem (i := 1206) (by decide +kernel) (by decide +kernel), ci_X12, sg_mem (i := 1203) (by decide +kernel) (by decide +kernel), by decide +kernel, by decide⟩
theorem kvL_43 : Cond.instanceMethod yX12_sink ∈ sg_tbl ∧ Cond.selects yX12_sink.cls yX12_sink yX12_sink ∈ sg_tbl := ⟨sg_mem (i := 1204) (by decide +kernel) (by decide +kernel), sg_mem (i := 1205) (by decide +kernel) (by decide +kernel)⟩
theorem kbL_44 : sg_kB RL 44 yX11_drive cX11_drive 2 (some .int) 1 := ⟨sg_mem (i := 633) (by decide +kernel) (by decide +kernel), ci_X11, sg_mem (i := 630) (by decide +kernel) (by decide +kernel), by decide +kernel, by decide⟩
theorem kvL_44 : Cond.instanceMethod yX11_drive ∈ sg_tbl ∧ Cond.selects yX11_drive.cls yX11_drive yX11_drive ∈ sg_tbl := ⟨sg_mem (i := 631) (by decide +kernel) (by decide +kernel), sg_mem (i := 632) (by decide +kernel) (by decide +kernel)⟩
theorem kbL_47 : sg_kB RL 47 yX12_drive cX12_drive 2 (some .int) 1 := ⟨sg_mem (i := 1210) (by decide +kernel) (by decide +kernel), ci_X12, sg_mem (i := 1207) (by decide +kernel) (by decide +kernel), by decide +kernel, by decide⟩
theorem kvL_47 : Cond.instanceMethod yX12_drive ∈ sg_tbl ∧ Cond.selects yX12_drive.cls yX12_drive yX12_drive ∈ sg_tbl := ⟨sg_mem (i := 1208) (by decide +kernel) (by decide +kernel), sg_mem (i := 1209) (by decide +kernel) (by decide +kernel)⟩
theorem kbL_48 : sg_kB RL 48 yX11_pull cX11_pull 2 (some .int) 1 := ⟨sg_mem (i := 661) (by decide +kernel) (by decide +kernel), ci_X11, sg_mem (i := 658) (by decide +kernel) (by decide +kernel), by decide +kernel, by decide⟩
theorem kvL_48 : Cond.instanceMethod yX11_pull ∈ sg_tbl ∧ Cond.selects yX11_pull.cls yX11_pull yX11_pull ∈ sg_tbl := ⟨sg_mem (i := 659) (by decide +kernel) (by decide +kernel), sg_mem (i := 660) (by decide +kernel) (by decide +kernel)⟩
theorem kbL_51 : sg_kB RL 51 yX12_pull cX12_pull 2 (some .int) 1 := ⟨sg_mem (i := 1223) (by decide +kernel) (by decide +kernel), ci_X12, sg_mem (i := 1220) (by decide +kernel) (by decide +kernel), by decide +kernel, by decide⟩
theorem kvL_51 : Cond.instanceMethod yX12_pull ∈ sg_tbl ∧ Cond.selects yX12_pull.cls yX12_pull yX12_pull ∈ sg_tbl := ⟨sg_mem (i := 1221) (by decide +kernel) (by decide +kernel), sg_mem (i := 1222) (by decide +kernel) (by decide +kernel)⟩
theorem kbL_52 : sg_kB RL 52 yX11_day cX11_day 4 (some .int) 1 := ⟨sg_mem (i := 671) (by decide +kernel) (by decide +kernel), ci_X11, sg_mem (i := 668) (by decide +kernel) (by decide +kernel), by decide +kernel, by decide⟩
theorem kvL_52 : Cond.instanceMethod yX11_day ∈ sg_tbl ∧ Cond.selects yX11_day.cls yX11_day yX11_day ∈ sg_tbl := ⟨sg_mem (i := 669) (by decide +kernel) (by decide +kernel), sg_mem (i := 670) (by decide +kernel) (by decide +kernel)⟩
theorem kbL_55 : sg_kB RL 55 yX12_day cX12_day 4 (some .int) 1 := ⟨sg_mem (i := 1231) (by decide +kernel) (by decide +kernel), ci_X12, sg_mem (i := 1228) (by decide +kernel) (by decide +kernel), by decide +kernel, by decide⟩
theorem kvL_55 : Cond.instanceMethod yX12_day ∈ sg_tbl ∧ Cond.selects yX12_day.cls yX12_day yX12_day ∈ sg_tbl := ⟨sg_mem (i := 1229) (by decide +kernel) (by decide +kernel), sg_mem (i := 1230) (by decide +kernel) (by decide +kernel)⟩
theorem kbL_56 : sg_kB RL 56 yX11_lay cX11_lay 3 (some .int) 2 := ⟨sg_mem (i := 683) (by decide +kernel) (by decide +kernel), ci_X11, sg_mem (i := 680) (by decide +kernel) (by decide +kernel), by decide +kernel, by decide⟩
theorem kvL_56 : Cond.instanceMethod yX11_lay ∈ sg_tbl ∧ Cond.selects yX11_lay.cls yX11_lay yX11_lay ∈ sg_tbl := ⟨sg_mem (i := 681) (by decide +kernel) (by decide +kernel), sg_mem (i := 682) (by decide +kernel) (by decide +kernel)⟩
theorem kbL_59 : sg_kB RL 59 yX12_lay cX12_lay 3 (some .int) 2 := ⟨sg_mem (i := 1244) (by decide +kernel) (by decide +kernel), ci_X12, sg_mem (i := 1241) (by decide +kernel) (by decide +kernel), by decide +kernel, by decide⟩
theorem kvL_59 : Cond.instanceMethod yX12_lay ∈ sg_tbl ∧ Cond.selects yX12_lay.cls yX12_lay yX12_lay ∈ sg_tbl := ⟨sg_mem (i := 1242) (by decide +kernel) (by decide +kernel), sg_mem (i := 1243) (by decide +kernel) (by decide +kernel)⟩
theorem kbL_60 : sg_kB RL 60 yX11_load cX11_load 4 (some .int) 2 := ⟨sg_mem (i := 691) (by decide +kernel) (by decide +kernel), ci_X11, sg_mem (i := 688) (by decide +kernel) (by decide +kernel), by decide +kernel, by decide⟩
theorem kvL_60 : Cond.instanceMethod yX11_load ∈ sg_tbl ∧ Cond.selects yX11_load.cls yX11_load yX11_load ∈ sg_tbl := ⟨sg_mem (i := 689) (by decide +kernel) (by decide +kernel), sg_mem (i := 690) (by decide +kernel) (by decide +kernel)⟩
theorem kbL_63 : sg_kB RL 63 yX12_load cX12_load 4 (some .int) 2 := ⟨sg_mem (i := 1253) (by decide +kernel) (by decide +kernel), ci_X12, sg_mem (i := 1250) (by decide +kernel) (by decide +kernel), by decide +kernel, by decide⟩
theorem kvL_63 : Cond.instanceMethod yX12_load ∈ sg_tbl ∧ Cond.selects yX12_load.cls yX12_load yX12_load ∈ sg_tbl := ⟨sg_mem (i := 1251) (by decide +kernel) (by decide +kernel), sg_mem (i := 1252) (by decide +kernel) (by decide +kernel)⟩
theorem kbL_64 : sg_kB RL 64 yX11_storm cX11_storm 3 (some .int) 1 := ⟨sg_mem (i := 695) (by decide +kernel) (by decide +kernel), ci_X11, sg_mem (i := 692) (by decide +kernel) (by decide +kernel), by decide +kernel, by decide⟩
theorem kvL_64 : Cond.instanceMethod yX11_storm ∈ sg_tbl ∧ Cond.selects yX11_storm.cls yX11_storm yX11_storm ∈ sg_tbl := ⟨sg_mem (i := 693) (by decide +kernel) (by decide +kernel), sg_mem (i := 694) (by decide +kernel) (by decide +kernel)⟩
theorem kbL_67 : sg_kB RL 67 yX12_storm cX12_storm 3 (some .int) 1 := ⟨sg_mem (i := 1257) (by decide +kernel) (by decide +kernel), ci_X12, sg_mem (i := 1254) (by decide +kernel) (by decide +kernel), by decide +kernel, by decide⟩
theorem kvL_67 : Cond.instanceMethod yX12_storm ∈ sg_tbl ∧ Cond.selects yX12_storm.cls yX12_storm yX12_storm ∈ sg_tbl := ⟨sg_mem (i := 1255) (by decide +kernel) (by decide +kernel), sg_mem (i := 1256) (by decide +kernel) (by decide +kernel)⟩
theorem kbL_68 : sg_kB RL 68 yX11_raze cX11_raze 3 (some .int) 1 := ⟨sg_mem (i := 699) (by decide +kernel) (by decide +kernel), ci_X11, sg_mem (i := 696) (by decide +kernel) (by decide +kernel), by decide +kernel, by decide⟩
theorem kvL_68 : Cond.instanceMethod yX11_raze ∈ sg_tbl ∧ Cond.selects yX11_raze.cls yX11_raze yX11_raze ∈ sg_tbl := ⟨sg_mem (i := 697) (by decide +kernel) (by decide +kernel), sg_mem (i := 698) (by decide +kernel) (by decide +kernel)⟩
theorem kbL_71 : sg_kB RL 71 yX12_raze cX12_raze 3 (some .int) 1 := ⟨sg_mem (i := 1261) (by decide +kernel) (by decide +kernel), ci_X12, sg_mem (i := 1258) (by decide +kernel) (by decide +kernel), by decide +kernel, by decide⟩
theorem kvL_71 : Cond.instanceMethod yX12_raze ∈ sg_tbl ∧ Cond.selects yX12_raze.cls yX12_raze yX12_raze ∈ sg_tbl := ⟨sg_mem (i := 1259) (by decide +kernel) (by decide +kernel), sg_mem (i := 1260) (by decide +kernel) (by decide +kernel)⟩
theorem kbL_72 : sg_kB RL 72 yX11_drift cX11_drift 4 (some .int) 1 := ⟨sg_mem (i := 708) (by decide +kernel) (by decide +kernel), ci_X11, sg_mem (i := 705) (by decide +kernel) (by decide +kernel), by decide +kernel, by decide⟩
theorem kvL_72 : Cond.instanceMethod yX11_drift ∈ sg_tbl ∧ Cond.selects yX11_drift.cls yX11_drift yX11_drift ∈ sg_tbl := ⟨sg_mem (i := 706) (by decide +kernel) (by decide +kernel), sg_mem (i := 707) (by decide +kernel) (by decide +kernel)⟩
theorem kbL_75 : sg_kB RL 75 yX12_drift cX12_drift 4 (some .int) 1 := ⟨sg_mem (i := 1265) (by decide +kernel) (by decide +kernel), ci_X12, sg_mem (i := 1262) (by decide +kernel) (by decide +kernel), by decide +kernel, by decide⟩
theorem kvL_75 : Cond.instanceMethod yX12_drift ∈ sg_tbl ∧ Cond.selects yX12_drift.cls yX12_drift yX12_drift ∈ sg_tbl := ⟨sg_mem (i := 1263) (by decide +kernel) (by decide +kernel), sg_mem (i := 1264) (by decide +kernel) (by decide +kernel)⟩
theorem kbL_76 : sg_kB RL 76 yX11_undo cX11_undo 1 (some .int) 0 := ⟨sg_mem (i := 724) (by decide +kernel) (by decide +kernel), ci_X11, sg_mem (i := 721) (by decide +kernel) (by decide +kernel), by decide +kernel, by decide⟩
theorem kvL_76 : Cond.instanceMethod yX11_undo ∈ sg_tbl ∧ Cond.selects yX11_undo.cls yX11_undo yX11_undo ∈ sg_tbl := ⟨sg_mem (i := 722) (by decide +kernel) (by decide +kernel), sg_mem (i := 723) (by decide +kernel) (by decide +kernel)⟩
theorem kbL_79 : sg_kB RL 79 yX12_undo cX12_undo 2 (some .int) 0 := ⟨sg_mem (i := 1281) (by decide +kernel) (by decide +kernel), ci_X12, sg_mem (i := 1278) (by decide +kernel) (by decide +kernel), by decide +kernel, by decide⟩
theorem kvL_79 : Cond.instanceMethod yX12_undo ∈ sg_tbl ∧ Cond.selects yX12_undo.cls yX12_undo yX12_undo ∈ sg_tbl := ⟨sg_mem (i := 1279) (by decide +kernel) (by decide +kernel), sg_mem (i := 1280) (by decide +kernel) (by decide +kernel)⟩
theorem kbL_80 : sg_kB RL 80 yX11_stops cX11_stops 3 (some .int) 2 := ⟨sg_mem (i := 737) (by decide +kernel) (by decide +kernel), ci_X11, sg_mem (i := 734) (by decide +kernel) (by decide +kernel), by decide +kernel, by decide⟩
theorem kvL_80 : Cond.instanceMethod yX11_stops ∈ sg_tbl ∧ Cond.selects yX11_stops.cls yX11_stops yX11_stops ∈ sg_tbl := ⟨sg_mem (i := 735) (by decide +kernel) (by decide +kernel), sg_mem (i := 736) (by decide +kernel) (by decide +kernel)⟩
theorem kbL_83 : sg_kB RL 83 yX12_stops cX12_stops 3 (some .int) 2 := ⟨sg_mem (i := 1285) (by decide +kernel) (by decide +kernel), ci_X12, sg_mem (i := 1282) (by decide +kernel) (by decide +kernel), by decide +kernel, by decide⟩
theorem kvL_83 : Cond.instanceMethod yX12_stops ∈ sg_tbl ∧ Cond.selects yX12_stops.cls yX12_stops yX12_stops ∈ sg_tbl := ⟨sg_mem (i := 1283) (by decide +kernel) (by decide +kernel), sg_mem (i := 1284) (by decide +kernel) (by decide +kernel)⟩
theorem kbL_84 : sg_kB RL 84 yX11_soonest cX11_soonest 3 (some .int) 2 := ⟨sg_mem (i := 742) (by decide +kernel) (by decide +kernel), ci_X11, sg_mem (i := 739) (by decide +kernel) (by decide +kernel), by decide +kernel, by decide⟩
theorem kvL_84 : Cond.instanceMethod yX11_soonest ∈ sg_tbl ∧ Cond.selects yX11_soonest.cls yX11_soonest yX11_soonest ∈ sg_tbl := ⟨sg_mem (i := 740) (by decide +kernel) (by decide +kernel), sg_mem (i := 741) (by decide +kernel) (by decide +kernel)⟩
theorem kbL_87 : sg_kB RL 87 yX12_soonest cX12_soonest 4 (some .int) 2 := ⟨sg_mem (i := 1290) (by decide +kernel) (by decide +kernel), ci_X12, sg_mem (i := 1287) (by decide +kernel) (by decide +kernel), by decide +kernel, by decide⟩
theorem kvL_87 : Cond.instanceMethod yX12_soonest ∈ sg_tbl ∧ Cond.selects yX12_soonest.cls yX12_soonest yX12_soonest ∈ sg_tbl := ⟨sg_mem (i := 1288) (by decide +kernel) (by decide +kernel), sg_mem (i := 1289) (by decide +kernel) (by decide +kernel)⟩
theorem kbL_88 : sg_kB RL 88 yX11_loads cX11_loads 4 (some .int) 3 := ⟨sg_mem (i := 750) (by decide +kernel) (by decide +kernel), ci_X11, sg_mem (i := 747) (by decide +kernel) (by decide +kernel), by decide +kernel, by decide⟩
theorem kvL_88 : Cond.instanceMethod yX11_loads ∈ sg_tbl ∧ Cond.selects yX11_loads.cls yX11_loads yX11_loads ∈ sg_tbl := ⟨sg_mem (i := 748) (by decide +kernel) (by decide +kernel), sg_mem (i := 749) (by decide +kernel) (by decide +kernel)⟩
theorem kbL_92 : sg_kB RL 92 yX12_loads cX12_loads 8 (some .int) 3 := ⟨sg_mem (i := 1294) (by decide +kernel) (by decide +kernel), ci_X12, sg_mem (i := 1291) (by decide +kernel) (by decide +kernel), by decide +kernel, by decide⟩
theorem kvL_92 : Cond.instanceMethod yX12_loads ∈ sg_tbl ∧ Cond.selects yX12_loads.cls yX12_loads yX12_loads ∈ sg_tbl := ⟨sg_mem (i := 1292) (by decide +kernel) (by decide +kernel), sg_mem (i := 1293) (by decide +kernel) (by decide +kernel)⟩
theorem kbL_93 : sg_kB RL 93 yX11_gravelTo cX11_gravelTo 3 (some .int) 2 := ⟨sg_mem (i := 772) (by decide +kernel) (by decide +kernel), ci_X11, sg_mem (i := 769) (by decide +kernel) (by decide +kernel), by decide +kernel, by decide⟩
theorem kvL_93 : Cond.instanceMethod yX11_gravelTo ∈ sg_tbl ∧ Cond.selects yX11_gravelTo.cls yX11_gravelTo yX11_gravelTo ∈ sg_tbl := ⟨sg_mem (i := 770) (by decide +kernel) (by decide +kernel), sg_mem (i := 771) (by decide +kernel) (by decide +kernel)⟩
theorem kbL_96 : sg_kB RL 96 yX12_gravelTo cX12_gravelTo 6 (some .int) 2 := ⟨sg_mem (i := 1299) (by decide +kernel) (by decide +kernel), ci_X12, sg_mem (i := 1296) (by decide +kernel) (by decide +kernel), by decide +kernel, by decide⟩
theorem kvL_96 : Cond.instanceMethod yX12_gravelTo ∈ sg_tbl ∧ Cond.selects yX12_gravelTo.cls yX12_gravelTo yX12_gravelTo ∈ sg_tbl := ⟨sg_mem (i := 1297) (by decide +kernel) (by decide +kernel), sg_mem (i := 1298) (by decide +kernel) (by decide +kernel)⟩
theorem kbL_97 : sg_kB RL 97 yX11_gravelForAll cX11_gravelForAll 2 (some .int) 1 := ⟨sg_mem (i := 791) (by decide +kernel) (by decide +kernel), ci_X11, sg_mem (i := 788) (by decide +kernel) (by decide +kernel), by decide +kernel, by decide⟩
theorem kvL_97 : Cond.instanceMethod yX11_gravelForAll ∈ sg_tbl ∧ Cond.selects yX11_gravelForAll.cls yX11_gravelForAll yX11_gravelForAll ∈ sg_tbl := ⟨sg_mem (i := 789) (by decide +kernel) (by decide +kernel), sg_mem (i := 790) (by decide +kernel) (by decide +kernel)⟩
theorem kbL_100 : sg_kB RL 100 yX12_gravelForAll cX12_gravelForAll 7 (some .int) 1 := ⟨sg_mem (i := 1307) (by decide +kernel) (by decide +kernel), ci_X12, sg_mem (i := 1304) (by decide +kernel) (by decide +kernel), by decide +kernel, by decide⟩
theorem kvL_100 : Cond.instanceMethod yX12_gravelForAll ∈ sg_tbl ∧ Cond.selects yX12_gravelForAll.cls yX12_gravelForAll yX12_gravelForAll ∈ sg_tbl := ⟨sg_mem (i := 1305) (by decide +kernel) (by decide +kernel), sg_mem (i := 1306) (by decide +kernel) (by decide +kernel)⟩
theorem kbL_101 : sg_kB RL 101 yX11_order cX11_order 3 (some .int) 2 := ⟨sg_mem (i := 799) (by decide +kernel) (by decide +kernel), ci_X11, sg_mem (i := 796) (by decide +kernel) (by decide +kernel), by decide +kernel, by decide⟩
theorem kvL_101 : Cond.instanceMethod yX11_order ∈ sg_tbl ∧ Cond.selects yX11_order.cls yX11_order yX11_order ∈ sg_tbl := ⟨sg_mem (i := 797) (by decide +kernel) (by decide +kernel), sg_mem (i := 798) (by decide +kernel) (by decide +kernel)⟩
theorem kbL_104 : sg_kB RL 104 yX12_order cX12_order 9 (some .int) 2 := ⟨sg_mem (i := 1315) (by decide +kernel) (by decide +kernel), ci_X12, sg_mem (i := 1312) (by decide +kernel) (by decide +kernel), by decide +kernel, by decide⟩
theorem kvL_104 : Cond.instanceMethod yX12_order ∈ sg_tbl ∧ Cond.selects yX12_order.cls yX12_order yX12_order ∈ sg_tbl := ⟨sg_mem (i := 1313) (by decide +kernel) (by decide +kernel), sg_mem (i := 1314) (by decide +kernel) (by decide +kernel)⟩
theorem kbL_105 : sg_kB RL 105 yX11_place cX11_place 3 (some .int) 1 := ⟨sg_mem (i := 818) (by decide +kernel) (by decide +kernel), ci_X11, sg_mem (i := 815) (by decide +kernel) (by decide +kernel), by decide +kernel, by decide⟩
theorem kvL_105 : Cond.instanceMethod yX11_place ∈ sg_tbl ∧ Cond.selects yX11_place.cls yX11_place yX11_place ∈ sg_tbl := ⟨sg_mem (i := 816) (by decide +kernel) (by decide +kernel), sg_mem (i := 817) (by decide +kernel) (by decide +kernel)⟩
theorem kbL_108 : sg_kB RL 108 yX12_place cX12_place 7 (some .int) 1 := ⟨sg_mem (i := 1326) (by decide +kernel) (by decide +kernel), ci_X12, sg_mem (i := 1323) (by decide +kernel) (by decide +kernel), by decide +kernel, by decide⟩
theorem kvL_108 : Cond.instanceMethod yX12_place ∈ sg_tbl ∧ Cond.selects yX12_place.cls yX12_place yX12_place ∈ sg_tbl := ⟨sg_mem (i := 1324) (by decide +kernel) (by decide +kernel), sg_mem (i := 1325) (by decide +kernel) (by decide +kernel)⟩
theorem kbL_109 : sg_kB RL 109 yX11_said cX11_said 2 (some .int) 1 := ⟨sg_mem (i := 831) (by decide +kernel) (by decide +kernel), ci_X11, sg_mem (i := 828) (by decide +kernel) (by decide +kernel), by decide +kernel, by decide⟩
theorem kvL_109 : Cond.instanceMethod yX11_said ∈ sg_tbl ∧ Cond.selects yX11_said.cls yX11_said yX11_said ∈ sg_tbl := ⟨sg_mem (i := 829) (by decide +kernel) (by decide +kernel), sg_mem (i := 830) (by decide +kernel) (by decide +kernel)⟩
theorem kbL_112 : sg_kB RL 112 yX12_said cX12_said 4 (some .int) 1 := ⟨sg_mem (i := 1330) (by decide +kernel) (by decide +kernel), ci_X12, sg_mem (i := 1327) (by decide +kernel) (by decide +kernel), by decide +kernel, by decide⟩
theorem kvL_112 : Cond.instanceMethod yX12_said ∈ sg_tbl ∧ Cond.selects yX12_said.cls yX12_said yX12_said ∈ sg_tbl := ⟨sg_mem (i := 1328) (by decide +kernel) (by decide +kernel), sg_mem (i := 1329) (by decide +kernel) (by decide +kernel)⟩
theorem kbL_113 : sg_kB RL 113 yX11_dry cX11_dry 6 (some .int) 2 := ⟨sg_mem (i := 839) (by decide +kernel) (by decide +kernel), ci_X11, sg_mem (i := 836) (by decide +kernel) (by decide +kernel), by decide +kernel, by decide⟩
theorem kvL_113 : Cond.instanceMethod yX11_dry ∈ sg_tbl ∧ Cond.selects yX11_dry.cls yX11_dry yX11_dry ∈ sg_tbl := ⟨sg_mem (i := 837) (by decide +kernel) (by decide +kernel), sg_mem (i := 838) (by decide +kernel) (by decide +kernel)⟩
theorem kbL_116 : sg_kB RL 116 yX12_dry cX12_dry 6 (some .int) 2 := ⟨sg_mem (i := 1335) (by decide +kernel) (by decide +kernel), ci_X12, sg_mem (i := 1332) (by decide +kernel) (by decide +kernel), by decide +kernel, by decide⟩
theorem kvL_116 : Cond.instanceMethod yX12_dry ∈ sg_tbl ∧ Cond.selects yX12_dry.cls yX12_dry yX12_dry ∈ sg_tbl := ⟨sg_mem (i := 1333) (by decide +kernel) (by decide +kernel), sg_mem (i := 1334) (by decide +kernel) (by decide +kernel)⟩
theorem kbL_117 : sg_kB RL 117 yX11_hear cX11_hear 3 (some .int) 2 := ⟨sg_mem (i := 845) (by decide +kernel) (by decide +kernel), ci_X11, sg_mem (i := 842) (by decide +kernel) (by decide +kernel), by decide +kernel, by decide⟩
theorem kvL_117 : Cond.instanceMethod yX11_hear ∈ sg_tbl ∧ Cond.selects yX11_hear.cls yX11_hear yX11_hear ∈ sg_tbl := ⟨sg_mem (i := 843) (by decide +kernel) (by decide +kernel), sg_mem (i := 844) (by decide +kernel) (by decide +kernel)⟩
theorem kbL_120 : sg_kB RL 120 yX12_hear cX12_hear 3 (some .int) 2 := ⟨sg_mem (i := 1340) (by decide +kernel) (by decide +kernel), ci_X12, sg_mem (i := 1337) (by decide +kernel) (by decide +kernel), by decide +kernel, by decide⟩
theorem kvL_120 : Cond.instanceMethod yX12_hear ∈ sg_tbl ∧ Cond.selects yX12_hear.cls yX12_hear yX12_hear ∈ sg_tbl := ⟨sg_mem (i := 1338) (by decide +kernel) (by decide +kernel), sg_mem (i := 1339) (by decide +kernel) (by decide +kernel)⟩
theorem kbL_121 : sg_kB RL 121 yX11_rains cX11_rains 2 (some .int) 1 := ⟨sg_mem (i := 858) (by decide +kernel) (by decide +kernel), ci_X11, sg_mem (i := 855) (by decide +kernel) (by decide +kernel), by decide +kernel, by decide⟩
theorem kvL_121 : Cond.instanceMethod yX11_rains ∈ sg_tbl ∧ Cond.selects yX11_rains.cls yX11_rains yX11_rains ∈ sg_tbl := ⟨sg_mem (i := 856) (by decide +kernel) (by decide +kernel), sg_mem (i := 857) (by decide +kernel) (by decide +kernel)⟩
theorem kbL_124 : sg_kB RL 124 yX12_rains cX12_rains 6 (some .int) 1 := ⟨sg_mem (i := 1344) (by decide +kernel) (by decide +kernel), ci_X12, sg_mem (i := 1341) (by decide +kernel) (by decide +kernel), by decide +kernel, by decide⟩
theorem kvL_124 : Cond.instanceMethod yX12_rains ∈ sg_tbl ∧ Cond.selects yX12_rains.cls yX12_rains yX12_rains ∈ sg_tbl := ⟨sg_mem (i := 1342) (by decide +kernel) (by decide +kernel), sg_mem (i := 1343) (by decide +kernel) (by decide +kernel)⟩
theorem kbL_125 : sg_kB RL 125 yX11_send cX11_send 1 (some .int) 0 := ⟨sg_mem (i := 874) (by decide +kernel) (by decide +kernel), ci_X11, sg_mem (i := 871) (by decide +kernel) (by decide +kernel), by decide +kernel, by decide⟩
theorem kvL_125 : Cond.instanceMethod yX11_send ∈ sg_tbl ∧ Cond.selects yX11_send.cls yX11_send yX11_send ∈ sg_tbl := ⟨sg_mem (i := 872) (by decide +kernel) (by decide +kernel), sg_mem (i := 873) (by decide +kernel) (by decide +kernel)⟩
theorem kbL_128 : sg_kB RL 128 yX12_send cX12_send 5 (some .int) 0 := ⟨sg_mem (i := 1352) (by decide +kernel) (by decide +kernel), ci_X12, sg_mem (i := 1349) (by decide +kernel) (by decide +kernel), by decide +kernel, by decide⟩
theorem kvL_128 : Cond.instanceMethod yX12_send ∈ sg_tbl ∧ Cond.selects yX12_send.cls yX12_send yX12_send ∈ sg_tbl := ⟨sg_mem (i := 1350) (by decide +kernel) (by decide +kernel), sg_mem (i := 1351) (by decide +kernel) (by decide +kernel)⟩
theorem kbL_129 : sg_kB RL 129 yX11_write cX11_write 3 (some .int) 2 := ⟨sg_mem (i := 890) (by decide +kernel) (by decide +kernel), ci_X11, sg_mem (i := 887) (by decide +kernel) (by decide +kernel), by decide +kernel, by decide⟩
theorem kvL_129 : Cond.instanceMethod yX11_write ∈ sg_tbl ∧ Cond.selects yX11_write.cls yX11_write yX11_write ∈ sg_tbl := ⟨sg_mem (i := 888) (by decide +kernel) (by decide +kernel), sg_mem (i := 889) (by decide +kernel) (by decide +kernel)⟩
theorem kbL_132 : sg_kB RL 132 yX12_write cX12_write 3 (some .int) 2 := ⟨sg_mem (i := 1361) (by decide +kernel) (by decide +kernel), ci_X12, sg_mem (i := 1358) (by decide +kernel) (by decide +kernel), by decide +kernel, by decide⟩
theorem kvL_132 : Cond.instanceMethod yX12_write ∈ sg_tbl ∧ Cond.selects yX12_write.cls yX12_write yX12_write ∈ sg_tbl := ⟨sg_mem (i := 1359) (by decide +kernel) (by decide +kernel), sg_mem (i := 1360) (by decide +kernel) (by decide +kernel)⟩
theorem kbL_133 : sg_kB RL 133 yX11_tear cX11_tear 2 (some .int) 0 := ⟨sg_mem (i := 894) (by decide +kernel) (by decide +kernel), ci_X11, sg_mem (i := 891) (by decide +kernel) (by decide +kernel), by decide +kernel, by decide⟩
theorem kvL_133 : Cond.instanceMethod yX11_tear ∈ sg_tbl ∧ Cond.selects yX11_tear.cls yX11_tear yX11_tear ∈ sg_tbl := ⟨sg_mem (i := 892) (by decide +kernel) (by decide +kernel), sg_mem (i := 893) (by decide +kernel) (by decide +kernel)⟩
theorem kbL_136 : sg_kB RL 136 yX12_tear cX12_tear 2 (some .int) 0 := ⟨sg_mem (i := 1367) (by decide +kernel) (by decide +kernel), ci_X12, sg_mem (i := 1364) (by decide +kernel) (by decide +kernel), by decide +kernel, by decide⟩
theorem kvL_136 : Cond.instanceMethod yX12_tear ∈ sg_tbl ∧ Cond.selects yX12_tear.cls yX12_tear yX12_tear ∈ sg_tbl := ⟨sg_mem (i := 1365) (by decide +kernel) (by decide +kernel), sg_mem (i := 1366) (by decide +kernel) (by decide +kernel)⟩
theorem kbL_137 : sg_kB RL 137 yX11_judge cX11_judge 3 (some .int) 0 := ⟨sg_mem (i := 898) (by decide +kernel) (by decide +kernel), ci_X11, sg_mem (i := 895) (by decide +kernel) (by decide +kernel), by decide +kernel, by decide⟩
theorem kvL_137 : Cond.instanceMethod yX11_judge ∈ sg_tbl ∧ Cond.selects yX11_judge.cls yX11_judge yX11_judge ∈ sg_tbl := ⟨sg_mem (i := 896) (by decide +kernel) (by decide +kernel), sg_mem (i := 897) (by decide +kernel) (by decide +kernel)⟩
theorem kbL_140 : sg_kB RL 140 yX12_judge cX12_judge 2 (some .int) 0 := ⟨sg_mem (i := 1371) (by decide +kernel) (by decide +kernel), ci_X12, sg_mem (i := 1368) (by decide +kernel) (by decide +kernel), by decide +kernel, by decide⟩
theorem kvL_140 : Cond.instanceMethod yX12_judge ∈ sg_tbl ∧ Cond.selects yX12_judge.cls yX12_judge yX12_judge ∈ sg_tbl := ⟨sg_mem (i := 1369) (by decide +kernel) (by decide +kernel), sg_mem (i := 1370) (by decide +kernel) (by decide +kernel)⟩
theorem kbL_141 : sg_kB RL 141 yX11_seed cX11_seed 3 (some .int) 1 := ⟨sg_mem (i := 902) (by decide +kernel) (by decide +kernel), ci_X11, sg_mem (i := 899) (by decide +kernel) (by decide +kernel), by decide +kernel, by decide⟩
theorem kvL_141 : Cond.instanceMethod yX11_seed ∈ sg_tbl ∧ Cond.selects yX11_seed.cls yX11_seed yX11_seed ∈ sg_tbl := ⟨sg_mem (i := 900) (by decide +kernel) (by decide +kernel), sg_mem (i := 901) (by decide +kernel) (by decide +kernel)⟩
theorem kbL_144 : sg_kB RL 144 yX12_seed cX12_seed 3 (some .int) 1 := ⟨sg_mem (i := 1376) (by decide +kernel) (by decide +kernel), ci_X12, sg_mem (i := 1373) (by decide +kernel) (by decide +kernel), by decide +kernel, by decide⟩
theorem kvL_144 : Cond.instanceMethod yX12_seed ∈ sg_tbl ∧ Cond.selects yX12_seed.cls yX12_seed yX12_seed ∈ sg_tbl := ⟨sg_mem (i := 1374) (by decide +kernel) (by decide +kernel), sg_mem (i := 1375) (by decide +kernel) (by decide +kernel)⟩
theorem kbL_145 : sg_kB RL 145 yX11_keep cX11_keep 2 (some .int) 1 := ⟨sg_mem (i := 906) (by decide +kernel) (by decide +kernel), ci_X11, sg_mem (i := 903) (by decide +kernel) (by decide +kernel), by decide +kernel, by decide⟩
theorem kvL_145 : Cond.instanceMethod yX11_keep ∈ sg_tbl ∧ Cond.selects yX11_keep.cls yX11_keep yX11_keep ∈ sg_tbl := ⟨sg_mem (i := 904) (by decide +kernel) (by decide +kernel), sg_mem (i := 905) (by decide +kernel) (by decide +kernel)⟩
theorem kbL_148 : sg_kB RL 148 yX12_keep cX12_keep 3 (some .int) 1 := ⟨sg_mem (i := 1380) (by decide +kernel) (by decide +kernel), ci_X12, sg_mem (i := 1377) (by decide +kernel) (by decide +kernel), by decide +kernel, by decide⟩
theorem kvL_148 : Cond.instanceMethod yX12_keep ∈ sg_tbl ∧ Cond.selects yX12_keep.cls yX12_keep yX12_keep ∈ sg_tbl := ⟨sg_mem (i := 1378) (by decide +kernel) (by decide +kernel), sg_mem (i := 1379) (by decide +kernel) (by decide +kernel)⟩
theorem kbL_149 : sg_kB RL 149 yX11_goBack cX11_goBack 2 (some .int) 1 := ⟨sg_mem (i := 919) (by decide +kernel) (by decide +kernel), ci_X11, sg_mem (i := 916) (by decide +kernel) (by decide +kernel), by decide +kernel, by decide⟩
theorem kvL_149 : Cond.instanceMethod yX11_goBack ∈ sg_tbl ∧ Cond.selects yX11_goBack.cls yX11_goBack yX11_goBack ∈ sg_tbl := ⟨sg_mem (i := 917) (by decide +kernel) (by decide +kernel), sg_mem (i := 918) (by decide +kernel) (by decide +kernel)⟩
theorem kbL_152 : sg_kB RL 152 yX12_goBack cX12_goBack 3 (some .int) 1 := ⟨sg_mem (i := 1384) (by decide +kernel) (by decide +kernel), ci_X12, sg_mem (i := 1381) (by decide +kernel) (by decide +kernel), by decide +kernel, by decide⟩
theorem kvL_152 : Cond.instanceMethod yX12_goBack ∈ sg_tbl ∧ Cond.selects yX12_goBack.cls yX12_goBack yX12_goBack ∈ sg_tbl := ⟨sg_mem (i := 1382) (by decide +kernel) (by decide +kernel), sg_mem (i := 1383) (by decide +kernel) (by decide +kernel)⟩
theorem la_k0 {l : Launch} {D : va_G} {cI cZ : ClassId} {adC adM : Nat → Nat} {b L : Nat} {xs : Nat → Int32} {zC zM : sg_M} {tb : Nat} {x3 : Int32} (htb : tb + 60 ≤ 100000) (hR : Rl tb zC zM) (h1 : vp_in (x3 + 1) L) (h2 : vp_in (x3 + 2) L) (h3 : vp_in (x3 + 3) L) (k : ∀ (tb2 : Nat) (zC2 zM2 : sg_M), tb2 ≤ tb + 60 → Rl tb2 zC2 zM2 → la_G l D cI cZ adC adM b L xs 1046 (la_lv b adC adM x3) [] zC2 zM2) : la_G l D cI cZ adC adM b L xs 184 (la_lv b adC adM x3) [] zC zM := by
  obtain ⟨v, zC2, zM2, e1, e2, hR2⟩ := st_feed hR (xs (x3 + 1).toNatClampNeg)
  refine la_aload dL_law_184 rfl rfl 1 rfl ?_
  refine la_arg (v := 1) dL_law_185 dL_law_186 dL_law_187 dL_law_188 dL_law_189 rfl (by decide) h1 ?_
  refine la_callC (r := v) (z1 := zC2) (As := [.int (xs (x3 + 1).toNatClampNeg)]) (rest := []) dL_law_190 rfl kbL_13 kvL_13 rfl (Nat.le_of_ble_eq_true rfl) (gC_feed_ok (r := (v, zC2)) e1) rfl rfl (Nat.le_of_ble_eq_true rfl) ?_
  refine la_aload dL_law_193 rfl rfl 2 rfl ?_
  refine la_arg (v := 1) dL_law_194 dL_law_195 dL_law_196 dL_law_197 dL_law_198 rfl (by decide) h1 ?_
  refine la_callM (r := v) (z1 := zM2) (As := [.int (xs (x3 + 1).toNatClampNeg)]) (rest := [.int (v)]) dL_law_199 rfl kbL_17 kvL_17 rfl (Nat.le_of_ble_eq_true rfl) (gM_feed_ok (r := (v, zM2)) e2) rfl rfl (Nat.le_of_ble_eq_true rfl) ?_
  exact la_eq dL_law_202 (by decide) (k _ zC2 zM2 (by omega) hR2)
theorem la_k1 {l : Launch} {D : va_G} {cI cZ : ClassId} {adC adM : Nat → Nat} {b L : Nat} {xs : Nat → Int32} {zC zM : sg_M} {tb : Nat} {x3 : Int32} (htb : tb + 60 ≤ 100000) (hR : Rl tb zC zM) (h1 : vp_in (x3 + 1) L) (h2 : vp_in (x3 + 2) L) (h3 : vp_in (x3 + 3) L) (k : ∀ (tb2 : Nat) (zC2 zM2 : sg_M), tb2 ≤ tb + 60 → Rl tb2 zC2 zM2 → la_G l D cI cZ adC adM b L xs 1046 (la_lv b adC adM x3) [] zC2 zM2) : la_G l D cI cZ adC adM b L xs 207 (la_lv b adC adM x3) [] zC zM := by
  obtain ⟨n, hn⟩ : ∃ n : Nat, 200000 ≤ n := ⟨200000, Nat.le_refl _⟩
  obtain ⟨v, zC2, zM2, e1, e2, hR2⟩ := st_road (by omega) hR n hn
  refine la_aload dL_law_207 rfl rfl 1 rfl ?_
  refine la_callC (r := v) (z1 := zC2) (As := []) (rest := []) dL_law_208 rfl kbL_18 kvL_18 rfl (Nat.le_of_ble_eq_true rfl) (gC_road_ok (r := (v, zC2)) e1) rfl rfl (Nat.le_of_ble_eq_true rfl) ?_
  refine la_aload dL_law_211 rfl rfl 2 rfl ?_
  refine la_callM (r := v) (z1 := zM2) (As := []) (rest := [.int (v)]) dL_law_212 rfl kbL_22 kvL_22 rfl (Nat.le_of_ble_eq_true rfl) (gM_road_ok (r := (v, zM2)) e2) rfl rfl (Nat.le_of_ble_eq_true rfl) ?_
  exact la_eq dL_law_215 (by decide) (k _ zC2 zM2 (by omega) hR2)
theorem la_k2 {l : Launch} {D : va_G} {cI cZ : ClassId} {adC adM : Nat → Nat} {b L : Nat} {xs : Nat → Int32} {zC zM : sg_M} {tb : Nat} {x3 : Int32} (htb : tb + 60 ≤ 100000) (hR : Rl tb zC zM) (h1 : vp_in (x3 + 1) L) (h2 : vp_in (x3 + 2) L) (h3 : vp_in (x3 + 3) L) (k : ∀ (tb2 : Nat) (zC2 zM2 : sg_M), tb2 ≤ tb + 60 → Rl tb2 zC2 zM2 → la_G l D cI cZ adC adM b L xs 1046 (la_lv b adC adM x3) [] zC2 zM2) : la_G l D cI cZ adC adM b L xs 220 (la_lv b adC adM x3) [] zC zM := by
  have e0 := st_fault hR
  refine la_aload dL_law_220 rfl rfl 1 rfl ?_
  refine la_callC (r := gC_fault zC) (z1 := zC) (As := []) (rest := []) dL_law_221 rfl kbL_23 kvL_23 rfl (Nat.le_of_ble_eq_true rfl) (gC_fault_ok (r := gC_fault zC) rfl) rfl rfl (Nat.le_of_ble_eq_true rfl) ?_
  refine la_aload dL_law_224 rfl rfl 2 rfl ?_
  refine la_callM (r := gC_fault zC) (z1 := zM) (As := []) (rest := [.int (gC_fault zC)]) dL_law_225 rfl kbL_26 kvL_26 rfl (Nat.le_of_ble_eq_true rfl) (gM_fault_ok (r := gC_fault zC) e0.symm) rfl rfl (Nat.le_of_ble_eq_true rfl) ?_
  exact la_eq dL_law_228 (by decide) (k _ zC zM (by omega) hR)
theorem la_k3 {l : Launch} {D : va_G} {cI cZ : ClassId} {adC adM : Nat → Nat} {b L : Nat} {xs : Nat → Int32} {zC zM : sg_M} {tb : Nat} {x3 : Int32} (htb : tb + 60 ≤ 100000) (hR : Rl tb zC zM) (h1 : vp_in (x3 + 1) L) (h2 : vp_in (x3 + 2) L) (h3 : vp_in (x3 + 3) L) (k : ∀ (tb2 : Nat) (zC2 zM2 : sg_M), tb2 ≤ tb + 60 → Rl tb2 zC2 zM2 → la_G l D cI cZ adC adM b L xs 1046 (la_lv b adC adM x3) [] zC2 zM2) : la_G l D cI cZ adC adM b L xs 233 (la_lv b adC adM x3) [] zC zM := by
  obtain ⟨n, hn⟩ : ∃ n : Nat, 200000 ≤ n := ⟨200000, Nat.le_refl _⟩
  obtain ⟨v, zC2, e1, e2, hR2⟩ := st_told hR (xs (x3 + 1).toNatClampNeg) n hn
  refine la_aload dL_law_233 rfl rfl 1 rfl ?_
  refine la_arg (v := 1) dL_law_234 dL_law_235 dL_law_236 dL_law_237 dL_law_238 rfl (by decide) h1 ?_
  refine la_callC (r := v) (z1 := zC2) (As := [.int (xs (x3 + 1).toNatClampNeg)]) (rest := []) dL_law_239 rfl kbL_27 kvL_27 rfl (Nat.le_of_ble_eq_true rfl) (gC_told_ok (r := (v, zC2)) e1) rfl rfl (Nat.le_of_ble_eq_true rfl) ?_
  refine la_aload dL_law_242 rfl rfl 2 rfl ?_
  refine la_arg (v := 1) dL_law_243 dL_law_244 dL_law_245 dL_law_246 dL_law_247 rfl (by decide) h1 ?_
  refine la_callM (r := v) (z1 := zM) (As := [.int (xs (x3 + 1).toNatClampNeg)]) (rest := [.int (v)]) dL_law_248 rfl kbL_30 kvL_30 rfl (Nat.le_of_ble_eq_true rfl) (gM_told_ok (r := v) e2) rfl rfl (Nat.le_of_ble_eq_true rfl) ?_
  exact la_eq dL_law_251 (by decide) (k _ zC2 zM (by omega) hR2)
theorem la_k4 {l : Launch} {D : va_G} {cI cZ : ClassId} {adC adM : Nat → Nat} {b L : Nat} {xs : Nat → Int32} {zC zM : sg_M} {tb : Nat} {x3 : Int32} (htb : tb + 60 ≤ 100000) (hR : Rl tb zC zM) (h1 : vp_in (x3 + 1) L) (h2 : vp_in (x3 + 2) L) (h3 : vp_in (x3 + 3) L) (k : ∀ (tb2 : Nat) (zC2 zM2 : sg_M), tb2 ≤ tb + 60 → Rl tb2 zC2 zM2 → la_G l D cI cZ adC adM b L xs 1046 (la_lv b adC adM x3) [] zC2 zM2) : la_G l D cI cZ adC adM b L xs 256 (la_lv b adC adM x3) [] zC zM := by
  obtain ⟨v, e1, e2⟩ := st_cell hR (xs (x3 + 1).toNatClampNeg) (xs (x3 + 2).toNatClampNeg)
  refine la_aload dL_law_256 rfl rfl 1 rfl ?_
  refine la_arg (v := 1) dL_law_257 dL_law_258 dL_law_259 dL_law_260 dL_law_261 rfl (by decide) h1 ?_
  refine la_arg (v := 2) dL_law_262 dL_law_263 dL_law_264 dL_law_265 dL_law_266 rfl (by decide) h2 ?_
  refine la_callC (r := v) (z1 := zC) (As := [.int (xs (x3 + 1).toNatClampNeg), .int (xs (x3 + 2).toNatClampNeg)]) (rest := []) dL_law_267 rfl kbL_31 kvL_31 rfl (Nat.le_of_ble_eq_true rfl) (gC_cell_ok (r := v) e1) rfl rfl (Nat.le_of_ble_eq_true rfl) ?_
  refine la_aload dL_law_270 rfl rfl 2 rfl ?_
  refine la_arg (v := 1) dL_law_271 dL_law_272 dL_law_273 dL_law_274 dL_law_275 rfl (by decide) h1 ?_
  refine la_arg (v := 2) dL_law_276 dL_law_277 dL_law_278 dL_law_279 dL_law_280 rfl (by decide) h2 ?_
  refine la_callM (r := v) (z1 := zM) (As := [.int (xs (x3 + 1).toNatClampNeg), .int (xs (x3 + 2).toNatClampNeg)]) (rest := [.int (v)]) dL_law_281 rfl kbL_35 kvL_35 rfl (Nat.le_of_ble_eq_true rfl) (gM_cell_ok (r := v) e2) rfl rfl (Nat.le_of_ble_eq_true rfl) ?_
  exact la_eq dL_law_284 (by decide) (k _ zC zM (by omega) hR)
theorem la_k5 {l : Launch} {D : va_G} {cI cZ : ClassId} {adC adM : Nat → Nat} {b L : Nat} {xs : Nat → Int32} {zC zM : sg_M} {tb : Nat} {x3 : Int32} (htb : tb + 60 ≤ 100000) (hR : Rl tb zC zM) (h1 : vp_in (x3 + 1) L) (h2 : vp_in (x3 + 2) L) (h3 : vp_in (x3 + 3) L) (k : ∀ (tb2 : Nat) (zC2 zM2 : sg_M), tb2 ≤ tb + 60 → Rl tb2 zC2 zM2 → la_G l D cI cZ adC adM b L xs 1046 (la_lv b adC adM x3) [] zC2 zM2) : la_G l D cI cZ adC adM b L xs 289 (la_lv b adC adM x3) [] zC zM := by
  obtain ⟨n, hn⟩ : ∃ n : Nat, 200000 ≤ n := ⟨200000, Nat.le_refl _⟩
  obtain ⟨v, e1, e2⟩ := st_cart hR (xs (x3 + 1).toNatClampNeg) (xs (x3 + 2).toNatClampNeg) n hn
  refine la_aload dL_law_289 rfl rfl 1 rfl ?_
  refine la_arg (v := 1) dL_law_290 dL_law_291 dL_law_292 dL_law_293 dL_law_294 rfl (by decide) h1 ?_
  refine la_arg (v := 2) dL_law_295 dL_law_296 dL_law_297 dL_law_298 dL_law_299 rfl (by decide) h2 ?_
  refine la_callC (r := v) (z1 := zC) (As := [.int (xs (x3 + 1).toNatClampNeg), .int (xs (x3 + 2).toNatClampNeg)]) (rest := []) dL_law_300 rfl kbL_36 kvL_36 rfl (Nat.le_of_ble_eq_true rfl) (gC_cart_ok (r := v) e1) rfl rfl (Nat.le_of_ble_eq_true rfl) ?_
  refine la_aload dL_law_303 rfl rfl 2 rfl ?_
  refine la_arg (v := 1) dL_law_304 dL_law_305 dL_law_306 dL_law_307 dL_law_308 rfl (by decide) h1 ?_
  refine la_arg (v := 2) dL_law_309 dL_law_310 dL_law_311 dL_law_312 dL_law_313 rfl (by decide) h2 ?_
  refine la_callM (r := v) (z1 := zM) (As := [.int (xs (x3 + 1).toNatClampNeg), .int (xs (x3 + 2).toNatClampNeg)]) (rest := [.int (v)]) dL_law_314 rfl kbL_39 kvL_39 rfl (Nat.le_of_ble_eq_true rfl) (gM_cart_ok (r := v) e2) rfl rfl (Nat.le_of_ble_eq_true rfl) ?_
  exact la_eq dL_law_317 (by decide) (k _ zC zM (by omega) hR)
theorem la_k6 {l : Launch} {D : va_G} {cI cZ : ClassId} {adC adM : Nat → Nat} {b L : Nat} {xs : Nat → Int32} {zC zM : sg_M} {tb : Nat} {x3 : Int32} (htb : tb + 60 ≤ 100000) (hR : Rl tb zC zM) (h1 : vp_in (x3 + 1) L) (h2 : vp_in (x3 + 2) L) (h3 : vp_in (x3 + 3) L) (k : ∀ (tb2 : Nat) (zC2 zM2 : sg_M), tb2 ≤ tb + 60 → Rl tb2 zC2 zM2 → la_G l D cI cZ adC adM b L xs 1046 (la_lv b adC adM x3) [] zC2 zM2) : la_G l D cI cZ adC adM b L xs 322 (la_lv b adC adM x3) [] zC zM := by
  obtain ⟨n, hn⟩ : ∃ n : Nat, 200000 ≤ n := ⟨200000, Nat.le_refl _⟩
  obtain ⟨v, e1, e2⟩ := st_sink hR (xs (x3 + 1).toNatClampNeg) (xs (x3 + 2).toNatClampNeg) n hn
  refine la_aload dL_law_322 rfl rfl 1 rfl ?_
  refine la_arg (v := 1) dL_law_323 dL_law_324 dL_law_325 dL_law_326 dL_law_327 rfl (by decide) h1 ?_
  refine la_arg (v := 2) dL_law_328 dL_law_329 dL_law_330 dL_law_331 dL_law_332 rfl (by decide) h2 ?_
  refine la_callC (r := v) (z1 := zC) (As := [.int (xs (x3 + 1).toNatClampNeg), .int (xs (x3 + 2).toNatClampNeg)]) (rest := []) dL_law_333 rfl kbL_40 kvL_40 rfl (Nat.le_of_ble_eq_true rfl) (gC_sink_ok (r := v) e1) rfl rfl (Nat.le_of_ble_eq_true rfl) ?_
  refine la_aload dL_law_336 rfl rfl 2 rfl ?_
  refine la_arg (v := 1) dL_law_337 dL_law_338 dL_law_339 dL_law_340 dL_law_341 rfl (by decide) h1 ?_
  refine la_arg (v := 2) dL_law_342 dL_law_343 dL_law_344 dL_law_345 dL_law_346 rfl (by decide) h2 ?_
  refine la_callM (r := v) (z1 := zM) (As := [.int (xs (x3 + 1).toNatClampNeg), .int (xs (x3 + 2).toNatClampNeg)]) (rest := [.int (v)]) dL_law_347 rfl kbL_43 kvL_43 rfl (Nat.le_of_ble_eq_true rfl) (gM_sink_ok (r := v) e2) rfl rfl (Nat.le_of_ble_eq_true rfl) ?_
  exact la_eq dL_law_350 (by decide) (k _ zC zM (by omega) hR)
theorem la_k7 {l : Launch} {D : va_G} {cI cZ : ClassId} {adC adM : Nat → Nat} {b L : Nat} {xs : Nat → Int32} {zC zM : sg_M} {tb : Nat} {x3 : Int32} (htb : tb + 60 ≤ 100000) (hR : Rl tb zC zM) (h1 : vp_in (x3 + 1) L) (h2 : vp_in (x3 + 2) L) (h3 : vp_in (x3 + 3) L) (k : ∀ (tb2 : Nat) (zC2 zM2 : sg_M), tb2 ≤ tb + 60 → Rl tb2 zC2 zM2 → la_G l D cI cZ adC adM b L xs 1046 (la_lv b adC adM x3) [] zC2 zM2) : la_G l D cI cZ adC adM b L xs 355 (la_lv b adC adM x3) [] zC zM := by
  obtain ⟨n, hn⟩ : ∃ n : Nat, 200000 ≤ n := ⟨200000, Nat.le_refl _⟩
  obtain ⟨v, zC2, zM2, e1, e2, hR2⟩ := st_drive (by omega) hR (xs (x3 + 1).toNatClampNeg) n hn
  refine la_aload dL_law_355 rfl rfl 1 rfl ?_
  refine la_arg (v := 1) dL_law_356 dL_law_357 dL_law_358 dL_law_359 dL_law_360 rfl (by decide) h1 ?_
  refine la_callC (r := v) (z1 := zC2) (As := [.int (xs (x3 + 1).toNatClampNeg)]) (rest := []) dL_law_361 rfl kbL_44 kvL_44 rfl (Nat.le_of_ble_eq_true rfl) (gC_drive_ok (r := (v, zC2)) e1) rfl rfl (Nat.le_of_ble_eq_true rfl) ?_
  refine la_aload dL_law_364 rfl rfl 2 rfl ?_
  refine la_arg (v := 1) dL_law_365 dL_law_366 dL_law_367 dL_law_368 dL_law_369 rfl (by decide) h1 ?_
  refine la_callM (r := v) (z1 := zM2) (As := [.int (xs (x3 + 1).toNatClampNeg)]) (rest := [.int (v)]) dL_law_370 rfl kbL_47 kvL_47 rfl (Nat.le_of_ble_eq_true rfl) (gM_drive_ok (r := (v, zM2)) e2) rfl rfl (Nat.le_of_ble_eq_true rfl) ?_
  exact la_eq dL_law_373 (by decide) (k _ zC2 zM2 (by omega) hR2)
theorem la_k8 {l : Launch} {D : va_G} {cI cZ : ClassId} {adC adM : Nat → Nat} {b L : Nat} {xs : Nat → Int32} {zC zM : sg_M} {tb : Nat} {x3 : Int32} (htb : tb + 60 ≤ 100000) (hR : Rl tb zC zM) (h1 : vp_in (x3 + 1) L) (h2 : vp_in (x3 + 2) L) (h3 : vp_in (x3 + 3) L) (k : ∀ (tb2 : Nat) (zC2 zM2 : sg_M), tb2 ≤ tb + 60 → Rl tb2 zC2 zM2 → la_G l D cI cZ adC adM b L xs 1046 (la_lv b adC adM x3) [] zC2 zM2) : la_G l D cI cZ adC adM b L xs 378 (la_lv b adC adM x3) [] zC zM := by
  obtain ⟨n, hn⟩ : ∃ n : Nat, 200000 ≤ n := ⟨200000, Nat.le_refl _⟩
  obtain ⟨v, zC2, zM2, e1, e2, hR2⟩ := st_pull (by omega) hR (xs (x3 + 1).toNatClampNeg) n hn
  refine la_aload dL_law_378 rfl rfl 1 rfl ?_
  refine la_arg (v := 1) dL_law_379 dL_law_380 dL_law_381 dL_law_382 dL_law_383 rfl (by decide) h1 ?_
  refine la_callC (r := v) (z1 := zC2) (As := [.int (xs (x3 + 1).toNatClampNeg)]) (rest := []) dL_law_384 rfl kbL_48 kvL_48 rfl (Nat.le_of_ble_eq_true rfl) (gC_pull_ok (r := (v, zC2)) e1) rfl rfl (Nat.le_of_ble_eq_true rfl) ?_
  refine la_aload dL_law_387 rfl rfl 2 rfl ?_
  refine la_arg (v := 1) dL_law_388 dL_law_389 dL_law_390 dL_law_391 dL_law_392 rfl (by decide) h1 ?_
  refine la_callM (r := v) (z1 := zM2) (As := [.int (xs (x3 + 1).toNatClampNeg)]) (rest := [.int (v)]) dL_law_393 rfl kbL_51 kvL_51 rfl (Nat.le_of_ble_eq_true rfl) (gM_pull_ok (r := (v, zM2)) e2) rfl rfl (Nat.le_of_ble_eq_true rfl) ?_
  exact la_eq dL_law_396 (by decide) (k _ zC2 zM2 (by omega) hR2)
theorem la_k9 {l : Launch} {D : va_G} {cI cZ : ClassId} {adC adM : Nat → Nat} {b L : Nat} {xs : Nat → Int32} {zC zM : sg_M} {tb : Nat} {x3 : Int32} (htb : tb + 60 ≤ 100000) (hR : Rl tb zC zM) (h1 : vp_in (x3 + 1) L) (h2 : vp_in (x3 + 2) L) (h3 : vp_in (x3 + 3) L) (k : ∀ (tb2 : Nat) (zC2 zM2 : sg_M), tb2 ≤ tb + 60 → Rl tb2 zC2 zM2 → la_G l D cI cZ adC adM b L xs 1046 (la_lv b adC adM x3) [] zC2 zM2) : la_G l D cI cZ adC adM b L xs 401 (la_lv b adC adM x3) [] zC zM := by
  obtain ⟨n, hn⟩ : ∃ n : Nat, 200000 ≤ n := ⟨200000, Nat.le_refl _⟩
  obtain ⟨v, zC2, zM2, e1, e2, hR2⟩ := st_day (by omega) hR (xs (x3 + 1).toNatClampNeg) n hn
  refine la_aload dL_law_401 rfl rfl 1 rfl ?_
  refine la_arg (v := 1) dL_law_402 dL_law_403 dL_law_404 dL_law_405 dL_law_406 rfl (by decide) h1 ?_
  refine la_callC (r := v) (z1 := zC2) (As := [.int (xs (x3 + 1).toNatClampNeg)]) (rest := []) dL_law_407 rfl kbL_52 kvL_52 rfl (Nat.le_of_ble_eq_true rfl) (gC_day_ok (r := (v, zC2)) e1) rfl rfl (Nat.le_of_ble_eq_true rfl) ?_
  refine la_aload dL_law_410 rfl rfl 2 rfl ?_
  refine la_arg (v := 1) dL_law_411 dL_law_412 dL_law_413 dL_law_414 dL_law_415 rfl (by decide) h1 ?_
  refine la_callM (r := v) (z1 := zM2) (As := [.int (xs (x3 + 1).toNatClampNeg)]) (rest := [.int (v)]) dL_law_416 rfl kbL_55 kvL_55 rfl (Nat.le_of_ble_eq_true rfl) (gM_day_ok (r := (v, zM2)) e2) rfl rfl (Nat.le_of_ble_eq_true rfl) ?_
  exact la_eq dL_law_419 (by decide) (k _ zC2 zM2 (by omega) hR2)
theorem la_k10 {l : Launch} {D : va_G} {cI cZ : ClassId} {adC adM : Nat → Nat} {b L : Nat} {xs : Nat → Int32} {zC zM : sg_M} {tb : Nat} {x3 : Int32} (htb : tb + 60 ≤ 100000) (hR : Rl tb zC zM) (h1 : vp_in (x3 + 1) L) (h2 : vp_in (x3 + 2) L) (h3 : vp_in (x3 + 3) L) (k : ∀ (tb2 : Nat) (zC2 zM2 : sg_M), tb2 ≤ tb + 60 → Rl tb2 zC2 zM2 → la_G l D cI cZ adC adM b L xs 1046 (la_lv b adC adM x3) [] zC2 zM2) : la_G l D cI cZ adC adM b L xs 424 (la_lv b adC adM x3) [] zC zM := by
  obtain ⟨n, hn⟩ : ∃ n : Nat, 200000 ≤ n := ⟨200000, Nat.le_refl _⟩
  obtain ⟨v, zC2, zM2, e1, e2, hR2⟩ := st_lay (by omega) hR (xs (x3 + 1).toNatClampNeg) (xs (x3 + 2).toNatClampNeg) n hn
  refine la_aload dL_law_424 rfl rfl 1 rfl ?_
  refine la_arg (v := 1) dL_law_425 dL_law_426 dL_law_427 dL_law_428 dL_law_429 rfl (by decide) h1 ?_
  refine la_arg (v := 2) dL_law_430 dL_law_431 dL_law_432 dL_law_433 dL_law_434 rfl (by decide) h2 ?_
  refine la_callC (r := v) (z1 := zC2) (As := [.int (xs (x3 + 1).toNatClampNeg), .int (xs (x3 + 2).toNatClampNeg)]) (rest := []) dL_law_435 rfl kbL_56 kvL_56 rfl (Nat.le_of_ble_eq_true rfl) (gC_lay_ok (r := (v, zC2)) e1) rfl rfl (Nat.le_of_ble_eq_true rfl) ?_
  refine la_aload dL_law_438 rfl rfl 2 rfl ?_
  refine la_arg (v := 1) dL_law_439 dL_law_440 dL_law_441 dL_law_442 dL_law_443 rfl (by decide) h1 ?_
  refine la_arg (v := 2) dL_law_444 dL_law_445 dL_law_446 dL_law_447 dL_law_448 rfl (by decide) h2 ?_
  refine la_callM (r := v) (z1 := zM2) (As := [.int (xs (x3 + 1).toNatClampNeg), .int (xs (x3 + 2).toNatClampNeg)]) (rest := [.int (v)]) dL_law_449 rfl kbL_59 kvL_59 rfl (Nat.le_of_ble_eq_true rfl) (gM_lay_ok (r := (v, zM2)) e2) rfl rfl (Nat.le_of_ble_eq_true rfl) ?_
  exact la_eq dL_law_452 (by decide) (k _ zC2 zM2 (by omega) hR2)
theorem la_k11 {l : Launch} {D : va_G} {cI cZ : ClassId} {adC adM : Nat → Nat} {b L : Nat} {xs : Nat → Int32} {zC zM : sg_M} {tb : Nat} {x3 : Int32} (htb : tb + 60 ≤ 100000) (hR : Rl tb zC zM) (h1 : vp_in (x3 + 1) L) (h2 : vp_in (x3 + 2) L) (h3 : vp_in (x3 + 3) L) (k : ∀ (tb2 : Nat) (zC2 zM2 : sg_M), tb2 ≤ tb + 60 → Rl tb2 zC2 zM2 → la_G l D cI cZ adC adM b L xs 1046 (la_lv b adC adM x3) [] zC2 zM2) : la_G l D cI cZ adC adM b L xs 457 (la_lv b adC adM x3) [] zC zM := by
  obtain ⟨n, hn⟩ : ∃ n : Nat, 200000 ≤ n := ⟨200000, Nat.le_refl _⟩
  obtain ⟨v, zC2, zM2, e1, e2, hR2⟩ := st_load (by omega) hR (xs (x3 + 1).toNatClampNeg) (xs (x3 + 2).toNatClampNeg) n hn
  refine la_aload dL_law_457 rfl rfl 1 rfl ?_
  refine la_arg (v := 1) dL_law_458 dL_law_459 dL_law_460 dL_law_461 dL_law_462 rfl (by decide) h1 ?_
  refine la_arg (v := 2) dL_law_463 dL_law_464 dL_law_465 dL_law_466 dL_law_467 rfl (by decide) h2 ?_
  refine la_callC (r := v) (z1 := zC2) (As := [.int (xs (x3 + 1).toNatClampNeg), .int (xs (x3 + 2).toNatClampNeg)]) (rest := []) dL_law_468 rfl kbL_60 kvL_60 rfl (Nat.le_of_ble_eq_true rfl) (gC_load_ok (r := (v, zC2)) e1) rfl rfl (Nat.le_of_ble_eq_true rfl) ?_
  refine la_aload dL_law_471 rfl rfl 2 rfl ?_
  refine la_arg (v := 1) dL_law_472 dL_law_473 dL_law_474 dL_law_475 dL_law_476 rfl (by decide) h1 ?_
  refine la_arg (v := 2) dL_law_477 dL_law_478 dL_law_479 dL_law_480 dL_law_481 rfl (by decide) h2 ?_
  refine la_callM (r := v) (z1 := zM2) (As := [.int (xs (x3 + 1).toNatClampNeg), .int (xs (x3 + 2).toNatClampNeg)]) (rest := [.int (v)]) dL_law_482 rfl kbL_63 kvL_63 rfl (Nat.le_of_ble_eq_true rfl) (gM_load_ok (r := (v, zM2)) e2) rfl rfl (Nat.le_of_ble_eq_true rfl) ?_
  exact la_eq dL_law_485 (by decide) (k _ zC2 zM2 (by omega) hR2)
theorem la_k12 {l : Launch} {D : va_G} {cI cZ : ClassId} {adC adM : Nat → Nat} {b L : Nat} {xs : Nat → Int32} {zC zM : sg_M} {tb : Nat} {x3 : Int32} (htb : tb + 60 ≤ 100000) (hR : Rl tb zC zM) (h1 : vp_in (x3 + 1) L) (h2 : vp_in (x3 + 2) L) (h3 : vp_in (x3 + 3) L) (k : ∀ (tb2 : Nat) (zC2 zM2 : sg_M), tb2 ≤ tb + 60 → Rl tb2 zC2 zM2 → la_G l D cI cZ adC adM b L xs 1046 (la_lv b adC adM x3) [] zC2 zM2) : la_G l D cI cZ adC adM b L xs 490 (la_lv b adC adM x3) [] zC zM := by
  obtain ⟨n, hn⟩ : ∃ n : Nat, 200000 ≤ n := ⟨200000, Nat.le_refl _⟩
  obtain ⟨v, zC2, zM2, e1, e2, hR2⟩ := st_storm (by omega) hR (xs (x3 + 1).toNatClampNeg) n hn
  refine la_aload dL_law_490 rfl rfl 1 rfl ?_
  refine la_arg (v := 1) dL_law_491 dL_law_492 dL_law_493 dL_law_494 dL_law_495 rfl (by decide) h1 ?_
  refine la_callC (r := v) (z1 := zC2) (As := [.int (xs (x3 + 1).toNatClampNeg)]) (rest := []) dL_law_496 rfl kbL_64 kvL_64 rfl (Nat.le_of_ble_eq_true rfl) (gC_storm_ok (r := (v, zC2)) e1) rfl rfl (Nat.le_of_ble_eq_true rfl) ?_
  refine la_aload dL_law_499 rfl rfl 2 rfl ?_
  refine la_arg (v := 1) dL_law_500 dL_law_501 dL_law_502 dL_law_503 dL_law_504 rfl (by decide) h1 ?_
  refine la_callM (r := v) (z1 := zM2) (As := [.int (xs (x3 + 1).toNatClampNeg)]) (rest := [.int (v)]) dL_law_505 rfl kbL_67 kvL_67 rfl (Nat.le_of_ble_eq_true rfl) (gM_storm_ok (r := (v, zM2)) e2) rfl rfl (Nat.le_of_ble_eq_true rfl) ?_
  exact la_eq dL_law_508 (by decide) (k _ zC2 zM2 (by omega) hR2)
theorem la_k13 {l : Launch} {D : va_G} {cI cZ : ClassId} {adC adM : Nat → Nat} {b L : Nat} {xs : Nat → Int32} {zC zM : sg_M} {tb : Nat} {x3 : Int32} (htb : tb + 60 ≤ 100000) (hR : Rl tb zC zM) (h1 : vp_in (x3 + 1) L) (h2 : vp_in (x3 + 2) L) (h3 : vp_in (x3 + 3) L) (k : ∀ (tb2 : Nat) (zC2 zM2 : sg_M), tb2 ≤ tb + 60 → Rl tb2 zC2 zM2 → la_G l D cI cZ adC adM b L xs 1046 (la_lv b adC adM x3) [] zC2 zM2) : la_G l D cI cZ adC adM b L xs 513 (la_lv b adC adM x3) [] zC zM := by
  obtain ⟨n, hn⟩ : ∃ n : Nat, 200000 ≤ n := ⟨200000, Nat.le_refl _⟩
  obtain ⟨v, zC2, zM2, e1, e2, hR2⟩ := st_raze (by omega) hR (xs (x3 + 1).toNatClampNeg) n hn
  refine la_aload dL_law_513 rfl rfl 1 rfl ?_
  refine la_arg (v := 1) dL_law_514 dL_law_515 dL_law_516 dL_law_517 dL_law_518 rfl (by decide) h1 ?_
  refine la_callC (r := v) (z1 := zC2) (As := [.int (xs (x3 + 1).toNatClampNeg)]) (rest := []) dL_law_519 rfl kbL_68 kvL_68 rfl (Nat.le_of_ble_eq_true rfl) (gC_raze_ok (r := (v, zC2)) e1) rfl rfl (Nat.le_of_ble_eq_true rfl) ?_
  refine la_aload dL_law_522 rfl rfl 2 rfl ?_
  refine la_arg (v := 1) dL_law_523 dL_law_524 dL_law_525 dL_law_526 dL_law_527 rfl (by decide) h1 ?_
  refine la_callM (r := v) (z1 := zM2) (As := [.int (xs (x3 + 1).toNatClampNeg)]) (rest := [.int (v)]) dL_law_528 rfl kbL_71 kvL_71 rfl (Nat.le_of_ble_eq_true rfl) (gM_raze_ok (r := (v, zM2)) e2) rfl rfl (Nat.le_of_ble_eq_true rfl) ?_
  exact la_eq dL_law_531 (by decide) (k _ zC2 zM2 (by omega) hR2)
theorem la_k14 {l : Launch} {D : va_G} {cI cZ : ClassId} {adC adM : Nat → Nat} {b L : Nat} {xs : Nat → Int32} {zC zM : sg_M} {tb : Nat} {x3 : Int32} (htb : tb + 60 ≤ 100000) (hR : Rl tb zC zM) (h1 : vp_in (x3 + 1) L) (h2 : vp_in (x3 + 2) L) (h3 : vp_in (x3 + 3) L) (k : ∀ (tb2 : Nat) (zC2 zM2 : sg_M), tb2 ≤ tb + 60 → Rl tb2 zC2 zM2 → la_G l D cI cZ adC adM b L xs 1046 (la_lv b adC adM x3) [] zC2 zM2) : la_G l D cI cZ adC adM b L xs 536 (la_lv b adC adM x3) [] zC zM := by
  obtain ⟨n, hn⟩ : ∃ n : Nat, 200000 ≤ n := ⟨200000, Nat.le_refl _⟩
  obtain ⟨v, zC2, zM2, e1, e2, hR2⟩ := st_drift (by omega) hR (xs (x3 + 1).toNatClampNeg) n hn
  refine la_aload dL_law_536 rfl rfl 1 rfl ?_
  refine la_arg (v := 1) dL_law_537 dL_law_538 dL_law_539 dL_law_540 dL_law_541 rfl (by decide) h1 ?_
  refine la_callC (r := v) (z1 := zC2) (As := [.int (xs (x3 + 1).toNatClampNeg)]) (rest := []) dL_law_542 rfl kbL_72 kvL_72 rfl (Nat.le_of_ble_eq_true rfl) (gC_drift_ok (r := (v, zC2)) e1) rfl rfl (Nat.le_of_ble_eq_true rfl) ?_
  refine la_aload dL_law_545 rfl rfl 2 rfl ?_
  refine la_arg (v := 1) dL_law_546 dL_law_547 dL_law_548 dL_law_549 dL_law_550 rfl (by decide) h1 ?_
  refine la_callM (r := v) (z1 := zM2) (As := [.int (xs (x3 + 1).toNatClampNeg)]) (rest := [.int (v)]) dL_law_551 rfl kbL_75 kvL_75 rfl (Nat.le_of_ble_eq_true rfl) (gM_drift_ok (r := (v, zM2)) e2) rfl rfl (Nat.le_of_ble_eq_true rfl) ?_
  exact la_eq dL_law_554 (by decide) (k _ zC2 zM2 (by omega) hR2)
theorem la_k15 {l : Launch} {D : va_G} {cI cZ : ClassId} {adC adM : Nat → Nat} {b L : Nat} {xs : Nat → Int32} {zC zM : sg_M} {tb : Nat} {x3 : Int32} (htb : tb + 60 ≤ 100000) (hR : Rl tb zC zM) (h1 : vp_in (x3 + 1) L) (h2 : vp_in (x3 + 2) L) (h3 : vp_in (x3 + 3) L) (k : ∀ (tb2 : Nat) (zC2 zM2 : sg_M), tb2 ≤ tb + 60 → Rl tb2 zC2 zM2 → la_G l D cI cZ adC adM b L xs 1046 (la_lv b adC adM x3) [] zC2 zM2) : la_G l D cI cZ adC adM b L xs 559 (la_lv b adC adM x3) [] zC zM := by
  obtain ⟨n, hn⟩ : ∃ n : Nat, 200000 ≤ n := ⟨200000, Nat.le_refl _⟩
  obtain ⟨v, zC2, zM2, e1, e2, hR2⟩ := st_undo hR n hn
  refine la_aload dL_law_559 rfl rfl 1 rfl ?_
  refine la_callC (r := v) (z1 := zC2) (As := []) (rest := []) dL_law_560 rfl kbL_76 kvL_76 rfl (Nat.le_of_ble_eq_true rfl) (gC_undo_ok (r := (v, zC2)) e1) rfl rfl (Nat.le_of_ble_eq_true rfl) ?_
  refine la_aload dL_law_563 rfl rfl 2 rfl ?_
  refine la_callM (r := v) (z1 := zM2) (As := []) (rest := [.int (v)]) dL_law_564 rfl kbL_79 kvL_79 rfl (Nat.le_of_ble_eq_true rfl) (gM_undo_ok (r := (v, zM2)) e2) rfl rfl (Nat.le_of_ble_eq_true rfl) ?_
  exact la_eq dL_law_567 (by decide) (k _ zC2 zM2 (by omega) hR2)
theorem la_k16 {l : Launch} {D : va_G} {cI cZ : ClassId} {adC adM : Nat → Nat} {b L : Nat} {xs : Nat → Int32} {zC zM : sg_M} {tb : Nat} {x3 : Int32} (htb : tb + 60 ≤ 100000) (hR : Rl tb zC zM) (h1 : vp_in (x3 + 1) L) (h2 : vp_in (x3 + 2) L) (h3 : vp_in (x3 + 3) L) (k : ∀ (tb2 : Nat) (zC2 zM2 : sg_M), tb2 ≤ tb + 60 → Rl tb2 zC2 zM2 → la_G l D cI cZ adC adM b L xs 1046 (la_lv b adC adM x3) [] zC2 zM2) : la_G l D cI cZ adC adM b L xs 572 (la_lv b adC adM x3) [] zC zM := by
  obtain ⟨n, hn⟩ : ∃ n : Nat, 200000 ≤ n := ⟨200000, Nat.le_refl _⟩
  obtain ⟨v, e1, e2⟩ := st_stops hR (xs (x3 + 1).toNatClampNeg) (xs (x3 + 2).toNatClampNeg) n hn
  refine la_aload dL_law_572 rfl rfl 1 rfl ?_
  refine la_arg (v := 1) dL_law_573 dL_law_574 dL_law_575 dL_law_576 dL_law_577 rfl (by decide) h1 ?_
  refine la_arg (v := 2) dL_law_578 dL_law_579 dL_law_580 dL_law_581 dL_law_582 rfl (by decide) h2 ?_
  refine la_callC (r := v) (z1 := zC) (As := [.int (xs (x3 + 1).toNatClampNeg), .int (xs (x3 + 2).toNatClampNeg)]) (rest := []) dL_law_583 rfl kbL_80 kvL_80 rfl (Nat.le_of_ble_eq_true rfl) (gC_stops_ok (r := v) e1) rfl rfl (Nat.le_of_ble_eq_true rfl) ?_
  refine la_aload dL_law_586 rfl rfl 2 rfl ?_
  refine la_arg (v := 1) dL_law_587 dL_law_588 dL_law_589 dL_law_590 dL_law_591 rfl (by decide) h1 ?_
  refine la_arg (v := 2) dL_law_592 dL_law_593 dL_law_594 dL_law_595 dL_law_596 rfl (by decide) h2 ?_
  refine la_callM (r := v) (z1 := zM) (As := [.int (xs (x3 + 1).toNatClampNeg), .int (xs (x3 + 2).toNatClampNeg)]) (rest := [.int (v)]) dL_law_597 rfl kbL_83 kvL_83 rfl (Nat.le_of_ble_eq_true rfl) (gM_stops_ok (r := v) e2) rfl rfl (Nat.le_of_ble_eq_true rfl) ?_
  exact la_eq dL_law_600 (by decide) (k _ zC zM (by omega) hR)
theorem la_k17 {l : Launch} {D : va_G} {cI cZ : ClassId} {adC adM : Nat → Nat} {b L : Nat} {xs : Nat → Int32} {zC zM : sg_M} {tb : Nat} {x3 : Int32} (htb : tb + 60 ≤ 100000) (hR : Rl tb zC zM) (h1 : vp_in (x3 + 1) L) (h2 : vp_in (x3 + 2) L) (h3 : vp_in (x3 + 3) L) (k : ∀ (tb2 : Nat) (zC2 zM2 : sg_M), tb2 ≤ tb + 60 → Rl tb2 zC2 zM2 → la_G l D cI cZ adC adM b L xs 1046 (la_lv b adC adM x3) [] zC2 zM2) : la_G l D cI cZ adC adM b L xs 605 (la_lv b adC adM x3) [] zC zM := by
  obtain ⟨n, hn⟩ : ∃ n : Nat, 200000 ≤ n := ⟨200000, Nat.le_refl _⟩
  obtain ⟨v, e1, e2⟩ := st_soonest hR (xs (x3 + 1).toNatClampNeg) (xs (x3 + 2).toNatClampNeg) n hn
  refine la_aload dL_law_605 rfl rfl 1 rfl ?_
  refine la_arg (v := 1) dL_law_606 dL_law_607 dL_law_608 dL_law_609 dL_law_610 rfl (by decide) h1 ?_
  refine la_arg (v := 2) dL_law_611 dL_law_612 dL_law_613 dL_law_614 dL_law_615 rfl (by decide) h2 ?_
  refine la_callC (r := v) (z1 := zC) (As := [.int (xs (x3 + 1).toNatClampNeg), .int (xs (x3 + 2).toNatClampNeg)]) (rest := []) dL_law_616 rfl kbL_84 kvL_84 rfl (Nat.le_of_ble_eq_true rfl) (gC_soonest_ok (r := v) e1) rfl rfl (Nat.le_of_ble_eq_true rfl) ?_
  refine la_aload dL_law_619 rfl rfl 2 rfl ?_
  refine la_arg (v := 1) dL_law_620 dL_law_621 dL_law_622 dL_law_623 dL_law_624 rfl (by decide) h1 ?_
  refine la_arg (v := 2) dL_law_625 dL_law_626 dL_law_627 dL_law_628 dL_law_629 rfl (by decide) h2 ?_
  refine la_callM (r := v) (z1 := zM) (As := [.int (xs (x3 + 1).toNatClampNeg), .int (xs (x3 + 2).toNatClampNeg)]) (rest := [.int (v)]) dL_law_630 rfl kbL_87 kvL_87 rfl (Nat.le_of_ble_eq_true rfl) (gM_soonest_ok (r := v) e2) rfl rfl (Nat.le_of_ble_eq_true rfl) ?_
  exact la_eq dL_law_633 (by decide) (k _ zC zM (by omega) hR)
theorem la_k18 {l : Launch} {D : va_G} {cI cZ : ClassId} {adC adM : Nat → Nat} {b L : Nat} {xs : Nat → Int32} {zC zM : sg_M} {tb : Nat} {x3 : Int32} (htb : tb + 60 ≤ 100000) (hR : Rl tb zC zM) (h1 : vp_in (x3 + 1) L) (h2 : vp_in (x3 + 2) L) (h3 : vp_in (x3 + 3) L) (k : ∀ (tb2 : Nat) (zC2 zM2 : sg_M), tb2 ≤ tb + 60 → Rl tb2 zC2 zM2 → la_G l D cI cZ adC adM b L xs 1046 (la_lv b adC adM x3) [] zC2 zM2) : la_G l D cI cZ adC adM b L xs 638 (la_lv b adC adM x3) [] zC zM := by
  obtain ⟨n, hn⟩ : ∃ n : Nat, 200000 ≤ n := ⟨200000, Nat.le_refl _⟩
  obtain ⟨v, zC2, e1, e2, hR2⟩ := st_loads hR (xs (x3 + 1).toNatClampNeg) (xs (x3 + 2).toNatClampNeg) (xs (x3 + 3).toNatClampNeg) n hn
  refine la_aload dL_law_638 rfl rfl 1 rfl ?_
  refine la_arg (v := 1) dL_law_639 dL_law_640 dL_law_641 dL_law_642 dL_law_643 rfl (by decide) h1 ?_
  refine la_arg (v := 2) dL_law_644 dL_law_645 dL_law_646 dL_law_647 dL_law_648 rfl (by decide) h2 ?_
  refine la_arg (v := 3) dL_law_649 dL_law_650 dL_law_651 dL_law_652 dL_law_653 rfl (by decide) h3 ?_
  refine la_callC (r := v) (z1 := zC2) (As := [.int (xs (x3 + 1).toNatClampNeg), .int (xs (x3 + 2).toNatClampNeg), .int (xs (x3 + 3).toNatClampNeg)]) (rest := []) dL_law_654 rfl kbL_88 kvL_88 rfl (Nat.le_of_ble_eq_true rfl) (gC_loads_ok (r := (v, zC2)) e1) rfl rfl (Nat.le_of_ble_eq_true rfl) ?_
  refine la_aload dL_law_657 rfl rfl 2 rfl ?_
  refine la_arg (v := 1) dL_law_658 dL_law_659 dL_law_660 dL_law_661 dL_law_662 rfl (by decide) h1 ?_
  refine la_arg (v := 2) dL_law_663 dL_law_664 dL_law_665 dL_law_666 dL_law_667 rfl (by decide) h2 ?_
  refine la_arg (v := 3) dL_law_668 dL_law_669 dL_law_670 dL_law_671 dL_law_672 rfl (by decide) h3 ?_
  refine la_callM (r := v) (z1 := zM) (As := [.int (xs (x3 + 1).toNatClampNeg), .int (xs (x3 + 2).toNatClampNeg), .int (xs (x3 + 3).toNatClampNeg)]) (rest := [.int (v)]) dL_law_673 rfl kbL_92 kvL_92 rfl (Nat.le_of_ble_eq_true rfl) (gM_loads_ok (r := v) e2) rfl rfl (Nat.le_of_ble_eq_true rfl) ?_
  exact la_eq dL_law_676 (by decide) (k _ zC2 zM (by omega) hR2)
theorem la_k19 {l : Launch} {D : va_G} {cI cZ : ClassId} {adC adM : Nat → Nat} {b L : Nat} {xs : Nat → Int32} {zC zM : sg_M} {tb : Nat} {x3 : Int32} (htb : tb + 60 ≤ 100000) (hR : Rl tb zC zM) (h1 : vp_in (x3 + 1) L) (h2 : vp_in (x3 + 2) L) (h3 : vp_in (x3 + 3) L) (k : ∀ (tb2 : Nat) (zC2 zM2 : sg_M), tb2 ≤ tb + 60 → Rl tb2 zC2 zM2 → la_G l D cI cZ adC adM b L xs 1046 (la_lv b adC adM x3) [] zC2 zM2) : la_G l D cI cZ adC adM b L xs 681 (la_lv b adC adM x3) [] zC zM := by
  obtain ⟨n, hn⟩ : ∃ n : Nat, 200000 ≤ n := ⟨200000, Nat.le_refl _⟩
  obtain ⟨v, e1, e2⟩ := st_gravelTo hR (xs (x3 + 1).toNatClampNeg) (xs (x3 + 2).toNatClampNeg) n hn
  refine la_aload dL_law_681 rfl rfl 1 rfl ?_
  refine la_arg (v := 1) dL_law_682 dL_law_683 dL_law_684 dL_law_685 dL_law_686 rfl (by decide) h1 ?_
  refine la_arg (v := 2) dL_law_687 dL_law_688 dL_law_689 dL_law_690 dL_law_691 rfl (by decide) h2 ?_
  refine la_callC (r := v) (z1 := zC) (As := [.int (xs (x3 + 1).toNatClampNeg), .int (xs (x3 + 2).toNatClampNeg)]) (rest := []) dL_law_692 rfl kbL_93 kvL_93 rfl (Nat.le_of_ble_eq_true rfl) (gC_gravelTo_ok (r := v) e1) rfl rfl (Nat.le_of_ble_eq_true rfl) ?_
  refine la_aload dL_law_695 rfl rfl 2 rfl ?_
  refine la_arg (v := 1) dL_law_696 dL_law_697 dL_law_698 dL_law_699 dL_law_700 rfl (by decide) h1 ?_
  refine la_arg (v := 2) dL_law_701 dL_law_702 dL_law_703 dL_law_704 dL_law_705 rfl (by decide) h2 ?_
  refine la_callM (r := v) (z1 := zM) (As := [.int (xs (x3 + 1).toNatClampNeg), .int (xs (x3 + 2).toNatClampNeg)]) (rest := [.int (v)]) dL_law_706 rfl kbL_96 kvL_96 rfl (Nat.le_of_ble_eq_true rfl) (gM_gravelTo_ok (r := v) e2) rfl rfl (Nat.le_of_ble_eq_true rfl) ?_
  exact la_eq dL_law_709 (by decide) (k _ zC zM (by omega) hR)
theorem la_k20 {l : Launch} {D : va_G} {cI cZ : ClassId} {adC adM : Nat → Nat} {b L : Nat} {xs : Nat → Int32} {zC zM : sg_M} {tb : Nat} {x3 : Int32} (htb : tb + 60 ≤ 100000) (hR : Rl tb zC zM) (h1 : vp_in (x3 + 1) L) (h2 : vp_in (x3 + 2) L) (h3 : vp_in (x3 + 3) L) (k : ∀ (tb2 : Nat) (zC2 zM2 : sg_M), tb2 ≤ tb + 60 → Rl tb2 zC2 zM2 → la_G l D cI cZ adC adM b L xs 1046 (la_lv b adC adM x3) [] zC2 zM2) : la_G l D cI cZ adC adM b L xs 714 (la_lv b adC adM x3) [] zC zM := by
  obtain ⟨n, hn⟩ : ∃ n : Nat, 200000 ≤ n := ⟨200000, Nat.le_refl _⟩
  obtain ⟨v, e1, e2⟩ := st_gravelForAll hR (xs (x3 + 1).toNatClampNeg) n hn
  refine la_aload dL_law_714 rfl rfl 1 rfl ?_
  refine la_arg (v := 1) dL_law_715 dL_law_716 dL_law_717 dL_law_718 dL_law_719 rfl (by decide) h1 ?_
  refine la_callC (r := v) (z1 := zC) (As := [.int (xs (x3 + 1).toNatClampNeg)]) (rest := []) dL_law_720 rfl kbL_97 kvL_97 rfl (Nat.le_of_ble_eq_true rfl) (gC_gravelForAll_ok (r := v) e1) rfl rfl (Nat.le_of_ble_eq_true rfl) ?_
  refine la_aload dL_law_723 rfl rfl 2 rfl ?_
  refine la_arg (v := 1) dL_law_724 dL_law_725 dL_law_726 dL_law_727 dL_law_728 rfl (by decide) h1 ?_
  refine la_callM (r := v) (z1 := zM) (As := [.int (xs (x3 + 1).toNatClampNeg)]) (rest := [.int (v)]) dL_law_729 rfl kbL_100 kvL_100 rfl (Nat.le_of_ble_eq_true rfl) (gM_gravelForAll_ok (r := v) e2) rfl rfl (Nat.le_of_ble_eq_true rfl) ?_
  exact la_eq dL_law_732 (by decide) (k _ zC zM (by omega) hR)
theorem la_k21 {l : Launch} {D : va_G} {cI cZ : ClassId} {adC adM : Nat → Nat} {b L : Nat} {xs : Nat → Int32} {zC zM : sg_M} {tb : Nat} {x3 : Int32} (htb : tb + 60 ≤ 100000) (hR : Rl tb zC zM) (h1 : vp_in (x3 + 1) L) (h2 : vp_in (x3 + 2) L) (h3 : vp_in (x3 + 3) L) (k : ∀ (tb2 : Nat) (zC2 zM2 : sg_M), tb2 ≤ tb + 60 → Rl tb2 zC2 zM2 → la_G l D cI cZ adC adM b L xs 1046 (la_lv b adC adM x3) [] zC2 zM2) : la_G l D cI cZ adC adM b L xs 737 (la_lv b adC adM x3) [] zC zM := by
  obtain ⟨n, hn⟩ : ∃ n : Nat, 200000 ≤ n := ⟨200000, Nat.le_refl _⟩
  obtain ⟨v, zC2, zM2, e1, e2, hR2⟩ := st_order hR (xs (x3 + 1).toNatClampNeg) (xs (x3 + 2).toNatClampNeg) n hn
  refine la_aload dL_law_737 rfl rfl 1 rfl ?_
  refine la_arg (v := 1) dL_law_738 dL_law_739 dL_law_740 dL_law_741 dL_law_742 rfl (by decide) h1 ?_
  refine la_arg (v := 2) dL_law_743 dL_law_744 dL_law_745 dL_law_746 dL_law_747 rfl (by decide) h2 ?_
  refine la_callC (r := v) (z1 := zC2) (As := [.int (xs (x3 + 1).toNatClampNeg), .int (xs (x3 + 2).toNatClampNeg)]) (rest := []) dL_law_748 rfl kbL_101 kvL_101 rfl (Nat.le_of_ble_eq_true rfl) (gC_order_ok (r := (v, zC2)) e1) rfl rfl (Nat.le_of_ble_eq_true rfl) ?_
  refine la_aload dL_law_751 rfl rfl 2 rfl ?_
  refine la_arg (v := 1) dL_law_752 dL_law_753 dL_law_754 dL_law_755 dL_law_756 rfl (by decide) h1 ?_
  refine la_arg (v := 2) dL_law_757 dL_law_758 dL_law_759 dL_law_760 dL_law_761 rfl (by decide) h2 ?_
  refine la_callM (r := v) (z1 := zM2) (As := [.int (xs (x3 + 1).toNatClampNeg), .int (xs (x3 + 2).toNatClampNeg)]) (rest := [.int (v)]) dL_law_762 rfl kbL_104 kvL_104 rfl (Nat.le_of_ble_eq_true rfl) (gM_order_ok (r := (v, zM2)) e2) rfl rfl (Nat.le_of_ble_eq_true rfl) ?_
  exact la_eq dL_law_765 (by decide) (k _ zC2 zM2 (by omega) hR2)
theorem la_k22 {l : Launch} {D : va_G} {cI cZ : ClassId} {adC adM : Nat → Nat} {b L : Nat} {xs : Nat → Int32} {zC zM : sg_M} {tb : Nat} {x3 : Int32} (htb : tb + 60 ≤ 100000) (hR : Rl tb zC zM) (h1 : vp_in (x3 + 1) L) (h2 : vp_in (x3 + 2) L) (h3 : vp_in (x3 + 3) L) (k : ∀ (tb2 : Nat) (zC2 zM2 : sg_M), tb2 ≤ tb + 60 → Rl tb2 zC2 zM2 → la_G l D cI cZ adC adM b L xs 1046 (la_lv b adC adM x3) [] zC2 zM2) : la_G l D cI cZ adC adM b L xs 770 (la_lv b adC adM x3) [] zC zM := by
  obtain ⟨n, hn⟩ : ∃ n : Nat, 200000 ≤ n := ⟨200000, Nat.le_refl _⟩
  obtain ⟨v, e1, e2⟩ := st_place hR (xs (x3 + 1).toNatClampNeg) n hn
  refine la_aload dL_law_770 rfl rfl 1 rfl ?_
  refine la_arg (v := 1) dL_law_771 dL_law_772 dL_law_773 dL_law_774 dL_law_775 rfl (by decide) h1 ?_
  refine la_callC (r := v) (z1 := zC) (As := [.int (xs (x3 + 1).toNatClampNeg)]) (rest := []) dL_law_776 rfl kbL_105 kvL_105 rfl (Nat.le_of_ble_eq_true rfl) (gC_place_ok (r := v) e1) rfl rfl (Nat.le_of_ble_eq_true rfl) ?_
  refine la_aload dL_law_779 rfl rfl 2 rfl ?_
  refine la_arg (v := 1) dL_law_780 dL_law_781 dL_law_782 dL_law_783 dL_law_784 rfl (by decide) h1 ?_
  refine la_callM (r := v) (z1 := zM) (As := [.int (xs (x3 + 1).toNatClampNeg)]) (rest := [.int (v)]) dL_law_785 rfl kbL_108 kvL_108 rfl (Nat.le_of_ble_eq_true rfl) (gM_place_ok (r := v) e2) rfl rfl (Nat.le_of_ble_eq_true rfl) ?_
  exact la_eq dL_law_788 (by decide) (k _ zC zM (by omega) hR)
theorem la_k23 {l : Launch} {D : va_G} {cI cZ : ClassId} {adC adM : Nat → Nat} {b L : Nat} {xs : Nat → Int32} {zC zM : sg_M} {tb : Nat} {x3 : Int32} (htb : tb + 60 ≤ 100000) (hR : Rl tb zC zM) (h1 : vp_in (x3 + 1) L) (h2 : vp_in (x3 + 2) L) (h3 : vp_in (x3 + 3) L) (k : ∀ (tb2 : Nat) (zC2 zM2 : sg_M), tb2 ≤ tb + 60 → Rl tb2 zC2 zM2 → la_G l D cI cZ adC adM b L xs 1046 (la_lv b adC adM x3) [] zC2 zM2) : la_G l D cI cZ adC adM b L xs 793 (la_lv b adC adM x3) [] zC zM := by
  obtain ⟨n, hn⟩ : ∃ n : Nat, 200000 ≤ n := ⟨200000, Nat.le_refl _⟩
  obtain ⟨v, e1, e2⟩ := st_said hR (xs (x3 + 1).toNatClampNeg) n hn
  refine la_aload dL_law_793 rfl rfl 1 rfl ?_
  refine la_arg (v := 1) dL_law_794 dL_law_795 dL_law_796 dL_law_797 dL_law_798 rfl (by decide) h1 ?_
  refine la_callC (r := v) (z1 := zC) (As := [.int (xs (x3 + 1).toNatClampNeg)]) (rest := []) dL_law_799 rfl kbL_109 kvL_109 rfl (Nat.le_of_ble_eq_true rfl) (gC_said_ok (r := v) e1) rfl rfl (Nat.le_of_ble_eq_true rfl) ?_
  refine la_aload dL_law_802 rfl rfl 2 rfl ?_
  refine la_arg (v := 1) dL_law_803 dL_law_804 dL_law_805 dL_law_806 dL_law_807 rfl (by decide) h1 ?_
  refine la_callM (r := v) (z1 := zM) (As := [.int (xs (x3 + 1).toNatClampNeg)]) (rest := [.int (v)]) dL_law_808 rfl kbL_112 kvL_112 rfl (Nat.le_of_ble_eq_true rfl) (gM_said_ok (r := v) e2) rfl rfl (Nat.le_of_ble_eq_true rfl) ?_
  exact la_eq dL_law_811 (by decide) (k _ zC zM (by omega) hR)
theorem la_k24 {l : Launch} {D : va_G} {cI cZ : ClassId} {adC adM : Nat → Nat} {b L : Nat} {xs : Nat → Int32} {zC zM : sg_M} {tb : Nat} {x3 : Int32} (htb : tb + 60 ≤ 100000) (hR : Rl tb zC zM) (h1 : vp_in (x3 + 1) L) (h2 : vp_in (x3 + 2) L) (h3 : vp_in (x3 + 3) L) (k : ∀ (tb2 : Nat) (zC2 zM2 : sg_M), tb2 ≤ tb + 60 → Rl tb2 zC2 zM2 → la_G l D cI cZ adC adM b L xs 1046 (la_lv b adC adM x3) [] zC2 zM2) : la_G l D cI cZ adC adM b L xs 816 (la_lv b adC adM x3) [] zC zM := by
  obtain ⟨n, hn⟩ : ∃ n : Nat, 200000 ≤ n := ⟨200000, Nat.le_refl _⟩
  obtain ⟨v, e1, e2⟩ := st_dry hR (xs (x3 + 1).toNatClampNeg) (xs (x3 + 2).toNatClampNeg) n hn
  refine la_aload dL_law_816 rfl rfl 1 rfl ?_
  refine la_arg (v := 1) dL_law_817 dL_law_818 dL_law_819 dL_law_820 dL_law_821 rfl (by decide) h1 ?_
  refine la_arg (v := 2) dL_law_822 dL_law_823 dL_law_824 dL_law_825 dL_law_826 rfl (by decide) h2 ?_
  refine la_callC (r := v) (z1 := zC) (As := [.int (xs (x3 + 1).toNatClampNeg), .int (xs (x3 + 2).toNatClampNeg)]) (rest := []) dL_law_827 rfl kbL_113 kvL_113 rfl (Nat.le_of_ble_eq_true rfl) (gC_dry_ok (r := v) e1) rfl rfl (Nat.le_of_ble_eq_true rfl) ?_
  refine la_aload dL_law_830 rfl rfl 2 rfl ?_
  refine la_arg (v := 1) dL_law_831 dL_law_832 dL_law_833 dL_law_834 dL_law_835 rfl (by decide) h1 ?_
  refine la_arg (v := 2) dL_law_836 dL_law_837 dL_law_838 dL_law_839 dL_law_840 rfl (by decide) h2 ?_
  refine la_callM (r := v) (z1 := zM) (As := [.int (xs (x3 + 1).toNatClampNeg), .int (xs (x3 + 2).toNatClampNeg)]) (rest := [.int (v)]) dL_law_841 rfl kbL_116 kvL_116 rfl (Nat.le_of_ble_eq_true rfl) (gM_dry_ok (r := v) e2) rfl rfl (Nat.le_of_ble_eq_true rfl) ?_
  exact la_eq dL_law_844 (by decide) (k _ zC zM (by omega) hR)
theorem la_k25 {l : Launch} {D : va_G} {cI cZ : ClassId} {adC adM : Nat → Nat} {b L : Nat} {xs : Nat → Int32} {zC zM : sg_M} {tb : Nat} {x3 : Int32} (htb : tb + 60 ≤ 100000) (hR : Rl tb zC zM) (h1 : vp_in (x3 + 1) L) (h2 : vp_in (x3 + 2) L) (h3 : vp_in (x3 + 3) L) (k : ∀ (tb2 : Nat) (zC2 zM2 : sg_M), tb2 ≤ tb + 60 → Rl tb2 zC2 zM2 → la_G l D cI cZ adC adM b L xs 1046 (la_lv b adC adM x3) [] zC2 zM2) : la_G l D cI cZ adC adM b L xs 849 (la_lv b adC adM x3) [] zC zM := by
  obtain ⟨v, zC2, zM2, e1, e2, hR2⟩ := st_hear hR (xs (x3 + 1).toNatClampNeg) (xs (x3 + 2).toNatClampNeg)
  refine la_aload dL_law_849 rfl rfl 1 rfl ?_
  refine la_arg (v := 1) dL_law_850 dL_law_851 dL_law_852 dL_law_853 dL_law_854 rfl (by decide) h1 ?_
  refine la_arg (v := 2) dL_law_855 dL_law_856 dL_law_857 dL_law_858 dL_law_859 rfl (by decide) h2 ?_
  refine la_callC (r := v) (z1 := zC2) (As := [.int (xs (x3 + 1).toNatClampNeg), .int (xs (x3 + 2).toNatClampNeg)]) (rest := []) dL_law_860 rfl kbL_117 kvL_117 rfl (Nat.le_of_ble_eq_true rfl) (gC_hear_ok (r := (v, zC2)) e1) rfl rfl (Nat.le_of_ble_eq_true rfl) ?_
  refine la_aload dL_law_863 rfl rfl 2 rfl ?_
  refine la_arg (v := 1) dL_law_864 dL_law_865 dL_law_866 dL_law_867 dL_law_868 rfl (by decide) h1 ?_
  refine la_arg (v := 2) dL_law_869 dL_law_870 dL_law_871 dL_law_872 dL_law_873 rfl (by decide) h2 ?_
  refine la_callM (r := v) (z1 := zM2) (As := [.int (xs (x3 + 1).toNatClampNeg), .int (xs (x3 + 2).toNatClampNeg)]) (rest := [.int (v)]) dL_law_874 rfl kbL_120 kvL_120 rfl (Nat.le_of_ble_eq_true rfl) (gM_hear_ok (r := (v, zM2)) e2) rfl rfl (Nat.le_of_ble_eq_true rfl) ?_
  exact la_eq dL_law_877 (by decide) (k _ zC2 zM2 (by omega) hR2)
theorem la_k26 {l : Launch} {D : va_G} {cI cZ : ClassId} {adC adM : Nat → Nat} {b L : Nat} {xs : Nat → Int32} {zC zM : sg_M} {tb : Nat} {x3 : Int32} (htb : tb + 60 ≤ 100000) (hR : Rl tb zC zM) (h1 : vp_in (x3 + 1) L) (h2 : vp_in (x3 + 2) L) (h3 : vp_in (x3 + 3) L) (k : ∀ (tb2 : Nat) (zC2 zM2 : sg_M), tb2 ≤ tb + 60 → Rl tb2 zC2 zM2 → la_G l D cI cZ adC adM b L xs 1046 (la_lv b adC adM x3) [] zC2 zM2) : la_G l D cI cZ adC adM b L xs 882 (la_lv b adC adM x3) [] zC zM := by
  obtain ⟨n, hn⟩ : ∃ n : Nat, 200000 ≤ n := ⟨200000, Nat.le_refl _⟩
  obtain ⟨v, zC2, e1, e2, hR2⟩ := st_rains hR (xs (x3 + 1).toNatClampNeg) n hn
  refine la_aload dL_law_882 rfl rfl 1 rfl ?_
  refine la_arg (v := 1) dL_law_883 dL_law_884 dL_law_885 dL_law_886 dL_law_887 rfl (by decide) h1 ?_
  refine la_callC (r := v) (z1 := zC2) (As := [.int (xs (x3 + 1).toNatClampNeg)]) (rest := []) dL_law_888 rfl kbL_121 kvL_121 rfl (Nat.le_of_ble_eq_true rfl) (gC_rains_ok (r := (v, zC2)) e1) rfl rfl (Nat.le_of_ble_eq_true rfl) ?_
  refine la_aload dL_law_891 rfl rfl 2 rfl ?_
  refine la_arg (v := 1) dL_law_892 dL_law_893 dL_law_894 dL_law_895 dL_law_896 rfl (by decide) h1 ?_
  refine la_callM (r := v) (z1 := zM) (As := [.int (xs (x3 + 1).toNatClampNeg)]) (rest := [.int (v)]) dL_law_897 rfl kbL_124 kvL_124 rfl (Nat.le_of_ble_eq_true rfl) (gM_rains_ok (r := v) e2) rfl rfl (Nat.le_of_ble_eq_true rfl) ?_
  exact la_eq dL_law_900 (by decide) (k _ zC2 zM (by omega) hR2)
theorem la_k27 {l : Launch} {D : va_G} {cI cZ : ClassId} {adC adM : Nat → Nat} {b L : Nat} {xs : Nat → Int32} {zC zM : sg_M} {tb : Nat} {x3 : Int32} (htb : tb + 60 ≤ 100000) (hR : Rl tb zC zM) (h1 : vp_in (x3 + 1) L) (h2 : vp_in (x3 + 2) L) (h3 : vp_in (x3 + 3) L) (k : ∀ (tb2 : Nat) (zC2 zM2 : sg_M), tb2 ≤ tb + 60 → Rl tb2 zC2 zM2 → la_G l D cI cZ adC adM b L xs 1046 (la_lv b adC adM x3) [] zC2 zM2) : la_G l D cI cZ adC adM b L xs 905 (la_lv b adC adM x3) [] zC zM := by
  obtain ⟨n, hn⟩ : ∃ n : Nat, 200000 ≤ n := ⟨200000, Nat.le_refl _⟩
  obtain ⟨v, zC2, zM2, e1, e2, hR2⟩ := st_send hR n hn
  refine la_aload dL_law_905 rfl rfl 1 rfl ?_
  refine la_callC (r := v) (z1 := zC2) (As := []) (rest := []) dL_law_906 rfl kbL_125 kvL_125 rfl (Nat.le_of_ble_eq_true rfl) (gC_send_ok (r := (v, zC2)) e1) rfl rfl (Nat.le_of_ble_eq_true rfl) ?_
  refine la_aload dL_law_909 rfl rfl 2 rfl ?_
  refine la_callM (r := v) (z1 := zM2) (As := []) (rest := [.int (v)]) dL_law_910 rfl kbL_128 kvL_128 rfl (Nat.le_of_ble_eq_true rfl) (gM_send_ok (r := (v, zM2)) e2) rfl rfl (Nat.le_of_ble_eq_true rfl) ?_
  exact la_eq dL_law_913 (by decide) (k _ zC2 zM2 (by omega) hR2)
theorem la_k28 {l : Launch} {D : va_G} {cI cZ : ClassId} {adC adM : Nat → Nat} {b L : Nat} {xs : Nat → Int32} {zC zM : sg_M} {tb : Nat} {x3 : Int32} (htb : tb + 60 ≤ 100000) (hR : Rl tb zC zM) (h1 : vp_in (x3 + 1) L) (h2 : vp_in (x3 + 2) L) (h3 : vp_in (x3 + 3) L) (k : ∀ (tb2 : Nat) (zC2 zM2 : sg_M), tb2 ≤ tb + 60 → Rl tb2 zC2 zM2 → la_G l D cI cZ adC adM b L xs 1046 (la_lv b adC adM x3) [] zC2 zM2) : la_G l D cI cZ adC adM b L xs 918 (la_lv b adC adM x3) [] zC zM := by
  obtain ⟨v, zC2, zM2, e1, e2, hR2⟩ := st_write hR (xs (x3 + 1).toNatClampNeg) (xs (x3 + 2).toNatClampNeg)
  refine la_aload dL_law_918 rfl rfl 1 rfl ?_
  refine la_arg (v := 1) dL_law_919 dL_law_920 dL_law_921 dL_law_922 dL_law_923 rfl (by decide) h1 ?_
  refine la_arg (v := 2) dL_law_924 dL_law_925 dL_law_926 dL_law_927 dL_law_928 rfl (by decide) h2 ?_
  refine la_callC (r := v) (z1 := zC2) (As := [.int (xs (x3 + 1).toNatClampNeg), .int (xs (x3 + 2).toNatClampNeg)]) (rest := []) dL_law_929 rfl kbL_129 kvL_129 rfl (Nat.le_of_ble_eq_true rfl) (gC_write_ok (r := (v, zC2)) e1) rfl rfl (Nat.le_of_ble_eq_true rfl) ?_
  refine la_aload dL_law_932 rfl rfl 2 rfl ?_
  refine la_arg (v := 1) dL_law_933 dL_law_934 dL_law_935 dL_law_936 dL_law_937 rfl (by decide) h1 ?_
  refine la_arg (v := 2) dL_law_938 dL_law_939 dL_law_940 dL_law_941 dL_law_942 rfl (by decide) h2 ?_
  refine la_callM (r := v) (z1 := zM2) (As := [.int (xs (x3 + 1).toNatClampNeg), .int (xs (x3 + 2).toNatClampNeg)]) (rest := [.int (v)]) dL_law_943 rfl kbL_132 kvL_132 rfl (Nat.le_of_ble_eq_true rfl) (gM_write_ok (r := (v, zM2)) e2) rfl rfl (Nat.le_of_ble_eq_true rfl) ?_
  exact la_eq dL_law_946 (by decide) (k _ zC2 zM2 (by omega) hR2)
theorem la_k29 {l : Launch} {D : va_G} {cI cZ : ClassId} {adC adM : Nat → Nat} {b L : Nat} {xs : Nat → Int32} {zC zM : sg_M} {tb : Nat} {x3 : Int32} (htb : tb + 60 ≤ 100000) (hR : Rl tb zC zM) (h1 : vp_in (x3 + 1) L) (h2 : vp_in (x3 + 2) L) (h3 : vp_in (x3 + 3) L) (k : ∀ (tb2 : Nat) (zC2 zM2 : sg_M), tb2 ≤ tb + 60 → Rl tb2 zC2 zM2 → la_G l D cI cZ adC adM b L xs 1046 (la_lv b adC adM x3) [] zC2 zM2) : la_G l D cI cZ adC adM b L xs 951 (la_lv b adC adM x3) [] zC zM := by
  obtain ⟨v, zC2, zM2, e1, e2, hR2⟩ := st_tear hR
  refine la_aload dL_law_951 rfl rfl 1 rfl ?_
  refine la_callC (r := v) (z1 := zC2) (As := []) (rest := []) dL_law_952 rfl kbL_133 kvL_133 rfl (Nat.le_of_ble_eq_true rfl) (gC_tear_ok (r := (v, zC2)) e1) rfl rfl (Nat.le_of_ble_eq_true rfl) ?_
  refine la_aload dL_law_955 rfl rfl 2 rfl ?_
  refine la_callM (r := v) (z1 := zM2) (As := []) (rest := [.int (v)]) dL_law_956 rfl kbL_136 kvL_136 rfl (Nat.le_of_ble_eq_true rfl) (gM_tear_ok (r := (v, zM2)) e2) rfl rfl (Nat.le_of_ble_eq_true rfl) ?_
  exact la_eq dL_law_959 (by decide) (k _ zC2 zM2 (by omega) hR2)
theorem la_k30 {l : Launch} {D : va_G} {cI cZ : ClassId} {adC adM : Nat → Nat} {b L : Nat} {xs : Nat → Int32} {zC zM : sg_M} {tb : Nat} {x3 : Int32} (htb : tb + 60 ≤ 100000) (hR : Rl tb zC zM) (h1 : vp_in (x3 + 1) L) (h2 : vp_in (x3 + 2) L) (h3 : vp_in (x3 + 3) L) (k : ∀ (tb2 : Nat) (zC2 zM2 : sg_M), tb2 ≤ tb + 60 → Rl tb2 zC2 zM2 → la_G l D cI cZ adC adM b L xs 1046 (la_lv b adC adM x3) [] zC2 zM2) : la_G l D cI cZ adC adM b L xs 964 (la_lv b adC adM x3) [] zC zM := by
  obtain ⟨n, hn⟩ : ∃ n : Nat, 200000 ≤ n := ⟨200000, Nat.le_refl _⟩
  obtain ⟨v, e1, e2⟩ := st_judge hR n hn
  refine la_aload dL_law_964 rfl rfl 1 rfl ?_
  refine la_callC (r := v) (z1 := zC) (As := []) (rest := []) dL_law_965 rfl kbL_137 kvL_137 rfl (Nat.le_of_ble_eq_true rfl) (gC_judge_ok (r := v) e1) rfl rfl (Nat.le_of_ble_eq_true rfl) ?_
  refine la_aload dL_law_968 rfl rfl 2 rfl ?_
  refine la_callM (r := v) (z1 := zM) (As := []) (rest := [.int (v)]) dL_law_969 rfl kbL_140 kvL_140 rfl (Nat.le_of_ble_eq_true rfl) (gM_judge_ok (r := v) e2) rfl rfl (Nat.le_of_ble_eq_true rfl) ?_
  exact la_eq dL_law_972 (by decide) (k _ zC zM (by omega) hR)
theorem la_k31 {l : Launch} {D : va_G} {cI cZ : ClassId} {adC adM : Nat → Nat} {b L : Nat} {xs : Nat → Int32} {zC zM : sg_M} {tb : Nat} {x3 : Int32} (htb : tb + 60 ≤ 100000) (hR : Rl tb zC zM) (h1 : vp_in (x3 + 1) L) (h2 : vp_in (x3 + 2) L) (h3 : vp_in (x3 + 3) L) (k : ∀ (tb2 : Nat) (zC2 zM2 : sg_M), tb2 ≤ tb + 60 → Rl tb2 zC2 zM2 → la_G l D cI cZ adC adM b L xs 1046 (la_lv b adC adM x3) [] zC2 zM2) : la_G l D cI cZ adC adM b L xs 977 (la_lv b adC adM x3) [] zC zM := by
  obtain ⟨v, zC2, zM2, e1, e2, hR2⟩ := st_seed hR (xs (x3 + 1).toNatClampNeg)
  refine la_aload dL_law_977 rfl rfl 1 rfl ?_
  refine la_arg (v := 1) dL_law_978 dL_law_979 dL_law_980 dL_law_981 dL_law_982 rfl (by decide) h1 ?_
  refine la_callC (r := v) (z1 := zC2) (As := [.int (xs (x3 + 1).toNatClampNeg)]) (rest := []) dL_law_983 rfl kbL_141 kvL_141 rfl (Nat.le_of_ble_eq_true rfl) (gC_seed_ok (r := (v, zC2)) e1) rfl rfl (Nat.le_of_ble_eq_true rfl) ?_
  refine la_aload dL_law_986 rfl rfl 2 rfl ?_
  refine la_arg (v := 1) dL_law_987 dL_law_988 dL_law_989 dL_law_990 dL_law_991 rfl (by decide) h1 ?_
  refine la_callM (r := v) (z1 := zM2) (As := [.int (xs (x3 + 1).toNatClampNeg)]) (rest := [.int (v)]) dL_law_992 rfl kbL_144 kvL_144 rfl (Nat.le_of_ble_eq_true rfl) (gM_seed_ok (r := (v, zM2)) e2) rfl rfl (Nat.le_of_ble_eq_true rfl) ?_
  exact la_eq dL_law_995 (by decide) (k _ zC2 zM2 (by omega) hR2)
theorem la_k32 {l : Launch} {D : va_G} {cI cZ : ClassId} {adC adM : Nat → Nat} {b L : Nat} {xs : Nat → Int32} {zC zM : sg_M} {tb : Nat} {x3 : Int32} (htb : tb + 60 ≤ 100000) (hR : Rl tb zC zM) (h1 : vp_in (x3 + 1) L) (h2 : vp_in (x3 + 2) L) (h3 : vp_in (x3 + 3) L) (k : ∀ (tb2 : Nat) (zC2 zM2 : sg_M), tb2 ≤ tb + 60 → Rl tb2 zC2 zM2 → la_G l D cI cZ adC adM b L xs 1046 (la_lv b adC adM x3) [] zC2 zM2) : la_G l D cI cZ adC adM b L xs 1000 (la_lv b adC adM x3) [] zC zM := by
  obtain ⟨n, hn⟩ : ∃ n : Nat, 200000 ≤ n := ⟨200000, Nat.le_refl _⟩
  obtain ⟨v, zC2, zM2, e1, e2, hR2⟩ := st_keep hR (xs (x3 + 1).toNatClampNeg) n hn
  refine la_aload dL_law_1000 rfl rfl 1 rfl ?_
  refine la_arg (v := 1) dL_law_1001 dL_law_1002 dL_law_1003 dL_law_1004 dL_law_1005 rfl (by decide) h1 ?_
  refine la_callC (r := v) (z1 := zC2) (As := [.int (xs (x3 + 1).toNatClampNeg)]) (rest := []) dL_law_1006 rfl kbL_145 kvL_145 rfl (Nat.le_of_ble_eq_true rfl) (gC_keep_ok (r := (v, zC2)) e1) rfl rfl (Nat.le_of_ble_eq_true rfl) ?_
  refine la_aload dL_law_1009 rfl rfl 2 rfl ?_
  refine la_arg (v := 1) dL_law_1010 dL_law_1011 dL_law_1012 dL_law_1013 dL_law_1014 rfl (by decide) h1 ?_
  refine la_callM (r := v) (z1 := zM2) (As := [.int (xs (x3 + 1).toNatClampNeg)]) (rest := [.int (v)]) dL_law_1015 rfl kbL_148 kvL_148 rfl (Nat.le_of_ble_eq_true rfl) (gM_keep_ok (r := (v, zM2)) e2) rfl rfl (Nat.le_of_ble_eq_true rfl) ?_
  exact la_eq dL_law_1018 (by decide) (k _ zC2 zM2 (by omega) hR2)
theorem la_k33 {l : Launch} {D : va_G} {cI cZ : ClassId} {adC adM : Nat → Nat} {b L : Nat} {xs : Nat → Int32} {zC zM : sg_M} {tb : Nat} {x3 : Int32} (htb : tb + 60 ≤ 100000) (hR : Rl tb zC zM) (h1 : vp_in (x3 + 1) L) (h2 : vp_in (x3 + 2) L) (h3 : vp_in (x3 + 3) L) (k : ∀ (tb2 : Nat) (zC2 zM2 : sg_M), tb2 ≤ tb + 60 → Rl tb2 zC2 zM2 → la_G l D cI cZ adC adM b L xs 1046 (la_lv b adC adM x3) [] zC2 zM2) : la_G l D cI cZ adC adM b L xs 1023 (la_lv b adC adM x3) [] zC zM := by
  obtain ⟨n, hn⟩ : ∃ n : Nat, 200000 ≤ n := ⟨200000, Nat.le_refl _⟩
  obtain ⟨v, zC2, zM2, e1, e2, hR2⟩ := st_goBack hR (xs (x3 + 1).toNatClampNeg) n hn
  refine la_aload dL_law_1023 rfl rfl 1 rfl ?_
  refine la_arg (v := 1) dL_law_1024 dL_law_1025 dL_law_1026 dL_law_1027 dL_law_1028 rfl (by decide) h1 ?_
  refine la_callC (r := v) (z1 := zC2) (As := [.int (xs (x3 + 1).toNatClampNeg)]) (rest := []) dL_law_1029 rfl kbL_149 kvL_149 rfl (Nat.le_of_ble_eq_true rfl) (gC_goBack_ok (r := (v, zC2)) e1) rfl rfl (Nat.le_of_ble_eq_true rfl) ?_
  refine la_aload dL_law_1032 rfl rfl 2 rfl ?_
  refine la_arg (v := 1) dL_law_1033 dL_law_1034 dL_law_1035 dL_law_1036 dL_law_1037 rfl (by decide) h1 ?_
  refine la_callM (r := v) (z1 := zM2) (As := [.int (xs (x3 + 1).toNatClampNeg)]) (rest := [.int (v)]) dL_law_1038 rfl kbL_152 kvL_152 rfl (Nat.le_of_ble_eq_true rfl) (gM_goBack_ok (r := (v, zM2)) e2) rfl rfl (Nat.le_of_ble_eq_true rfl) ?_
  exact la_eq dL_law_1041 (by decide) (k _ zC2 zM2 (by omega) hR2)
