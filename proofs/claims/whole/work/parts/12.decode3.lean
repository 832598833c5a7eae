theorem dX12_stops_33 : decode cX12_stops 33 = .ok (.goto 5, 3) := by decide +kernel
theorem dX12_stops_36 : decode cX12_stops 36 = .ok (.ldc 90, 2) := by decide +kernel
theorem dX12_stops_38 : decode cX12_stops 38 = .ok (.ireturn, 1) := by decide +kernel
theorem dX12_soonest_0 : decode cX12_soonest 0 = .ok (.aload_n 0, 1) := by decide +kernel
theorem dX12_soonest_1 : decode cX12_soonest 1 = .ok (.iload_n 1, 1) := by decide +kernel
theorem dX12_soonest_2 : decode cX12_soonest 2 = .ok (.invokevirtual 226, 3) := by decide +kernel
theorem dX12_soonest_5 : decode cX12_soonest 5 = .ok (.ifCond .eq 11, 3) := by decide +kernel
theorem dX12_soonest_8 : decode cX12_soonest 8 = .ok (.aload_n 0, 1) := by decide +kernel
theorem dX12_soonest_9 : decode cX12_soonest 9 = .ok (.iload_n 2, 1) := by decide +kernel
theorem dX12_soonest_10 : decode cX12_soonest 10 = .ok (.invokevirtual 222, 3) := by decide +kernel
theorem dX12_soonest_13 : decode cX12_soonest 13 = .ok (.ifCond .ne 6, 3) := by decide +kernel
theorem dX12_soonest_16 : decode cX12_soonest 16 = .ok (.ldc 225, 2) := by decide +kernel
theorem dX12_soonest_18 : decode cX12_soonest 18 = .ok (.ireturn, 1) := by decide +kernel
theorem dX12_soonest_19 : decode cX12_soonest 19 = .ok (.iconst 0, 1) := by decide +kernel
theorem dX12_soonest_20 : decode cX12_soonest 20 = .ok (.istore_n 3, 1) := by decide +kernel
theorem dX12_soonest_21 : decode cX12_soonest 21 = .ok (.iload_n 3, 1) := by decide +kernel
theorem dX12_soonest_22 : decode cX12_soonest 22 = .ok (.bipush 100, 2) := by decide +kernel
theorem dX12_soonest_24 : decode cX12_soonest 24 = .ok (.if_icmp .gt 25, 3) := by decide +kernel
theorem dX12_soonest_27 : decode cX12_soonest 27 = .ok (.aload_n 0, 1) := by decide +kernel
theorem dX12_soonest_28 : decode cX12_soonest 28 = .ok (.iload_n 1, 1) := by decide +kernel
theorem dX12_soonest_29 : decode cX12_soonest 29 = .ok (.aload_n 0, 1) := by decide +kernel
theorem dX12_soonest_30 : decode cX12_soonest 30 = .ok (.iload_n 3, 1) := by decide +kernel
theorem dX12_soonest_31 : decode cX12_soonest 31 = .ok (.invokevirtual 167, 3) := by decide +kernel
theorem dX12_soonest_34 : decode cX12_soonest 34 = .ok (.invokevirtual 190, 3) := by decide +kernel
theorem dX12_soonest_37 : decode cX12_soonest 37 = .ok (.iload_n 2, 1) := by decide +kernel
theorem dX12_soonest_38 : decode cX12_soonest 38 = .ok (.if_icmp .ne 5, 3) := by decide +kernel
theorem dX12_soonest_41 : decode cX12_soonest 41 = .ok (.iload_n 3, 1) := by decide +kernel
theorem dX12_soonest_42 : decode cX12_soonest 42 = .ok (.ireturn, 1) := by decide +kernel
theorem dX12_soonest_43 : decode cX12_soonest 43 = .ok (.iinc 3 1, 3) := by decide +kernel
theorem dX12_soonest_46 : decode cX12_soonest 46 = .ok (.goto (-25), 3) := by decide +kernel
theorem dX12_soonest_49 : decode cX12_soonest 49 = .ok (.iconst (-1), 1) := by decide +kernel
theorem dX12_soonest_50 : decode cX12_soonest 50 = .ok (.ireturn, 1) := by decide +kernel
theorem dX12_loads_0 : decode cX12_loads 0 = .ok (.aload_n 0, 1) := by decide +kernel
theorem dX12_loads_1 : decode cX12_loads 1 = .ok (.iload_n 1, 1) := by decide +kernel
theorem dX12_loads_2 : decode cX12_loads 2 = .ok (.invokevirtual 226, 3) := by decide +kernel
theorem dX12_loads_5 : decode cX12_loads 5 = .ok (.ifCond .eq 11, 3) := by decide +kernel
theorem dX12_loads_8 : decode cX12_loads 8 = .ok (.aload_n 0, 1) := by decide +kernel
theorem dX12_loads_9 : decode cX12_loads 9 = .ok (.iload_n 2, 1) := by decide +kernel
theorem dX12_loads_10 : decode cX12_loads 10 = .ok (.invokevirtual 222, 3) := by decide +kernel
theorem dX12_loads_13 : decode cX12_loads 13 = .ok (.ifCond .ne 6, 3) := by decide +kernel
theorem dX12_loads_16 : decode cX12_loads 16 = .ok (.ldc 225, 2) := by decide +kernel
theorem dX12_loads_18 : decode cX12_loads 18 = .ok (.ireturn, 1) := by decide +kernel
theorem dX12_loads_19 : decode cX12_loads 19 = .ok (.iload_n 3, 1) := by decide +kernel
theorem dX12_loads_20 : decode cX12_loads 20 = .ok (.i2l, 1) := by decide +kernel
theorem dX12_loads_21 : decode cX12_loads 21 = .ok (.lconst 0, 1) := by decide +kernel
theorem dX12_loads_22 : decode cX12_loads 22 = .ok (.ldc2_w 274, 3) := by decide +kernel
theorem dX12_loads_25 : decode cX12_loads 25 = .ok (.invokestatic 81, 3) := by decide +kernel
theorem dX12_loads_28 : decode cX12_loads 28 = .ok (.ifCond .ne 6, 3) := by decide +kernel
theorem dX12_loads_31 : decode cX12_loads 31 = .ok (.ldc 90, 2) := by decide +kernel
theorem dX12_loads_33 : decode cX12_loads 33 = .ok (.ireturn, 1) := by decide +kernel
theorem dX12_loads_34 : decode cX12_loads 34 = .ok (.iconst 0, 1) := by decide +kernel
theorem dX12_loads_35 : decode cX12_loads 35 = .ok (.istore 4, 2) := by decide +kernel
theorem dX12_loads_37 : decode cX12_loads 37 = .ok (.iconst (-1), 1) := by decide +kernel
theorem dX12_loads_38 : decode cX12_loads 38 = .ok (.istore 5, 2) := by decide +kernel
theorem dX12_loads_40 : decode cX12_loads 40 = .ok (.iconst (-1), 1) := by decide +kernel
theorem dX12_loads_41 : decode cX12_loads 41 = .ok (.istore 6, 2) := by decide +kernel
theorem dX12_loads_43 : decode cX12_loads 43 = .ok (.iconst 1, 1) := by decide +kernel
theorem dX12_loads_44 : decode cX12_loads 44 = .ok (.istore 7, 2) := by decide +kernel
theorem dX12_loads_46 : decode cX12_loads 46 = .ok (.iload 7, 2) := by decide +kernel
theorem dX12_loads_48 : decode cX12_loads 48 = .ok (.bipush 60, 2) := by decide +kernel
theorem dX12_loads_50 : decode cX12_loads 50 = .ok (.if_icmp .gt 45, 3) := by decide +kernel
theorem dX12_loads_53 : decode cX12_loads 53 = .ok (.aload_n 0, 1) := by decide +kernel
theorem dX12_loads_54 : decode cX12_loads 54 = .ok (.iload_n 1, 1) := by decide +kernel
theorem dX12_loads_55 : decode cX12_loads 55 = .ok (.iload 7, 2) := by decide +kernel
theorem dX12_loads_57 : decode cX12_loads 57 = .ok (.aload_n 0, 1) := by decide +kernel
theorem dX12_loads_58 : decode cX12_loads 58 = .ok (.invokevirtual 187, 3) := by decide +kernel
theorem dX12_loads_61 : decode cX12_loads 61 = .ok (.invokevirtual 180, 3) := by decide +kernel
theorem dX12_loads_64 : decode cX12_loads 64 = .ok (.iload_n 2, 1) := by decide +kernel
theorem dX12_loads_65 : decode cX12_loads 65 = .ok (.if_icmp .ne 24, 3) := by decide +kernel
theorem dX12_loads_68 : decode cX12_loads 68 = .ok (.iload 4, 2) := by decide +kernel
theorem dX12_loads_70 : decode cX12_loads 70 = .ok (.ifCond .ne 8, 3) := by decide +kernel
theorem dX12_loads_73 : decode cX12_loads 73 = .ok (.iload 7, 2) := by decide +kernel
theorem dX12_loads_75 : decode cX12_loads 75 = .ok (.goto 5, 3) := by decide +kernel
theorem dX12_loads_78 : decode cX12_loads 78 = .ok (.iload 5, 2) := by decide +kernel
theorem dX12_loads_80 : decode cX12_loads 80 = .ok (.istore 5, 2) := by decide +kernel
theorem dX12_loads_82 : decode cX12_loads 82 = .ok (.iload 7, 2) := by decide +kernel
theorem dX12_loads_84 : decode cX12_loads 84 = .ok (.istore 6, 2) := by decide +kernel
theorem dX12_loads_86 : decode cX12_loads 86 = .ok (.iinc 4 1, 3) := by decide +kernel
theorem dX12_loads_89 : decode cX12_loads 89 = .ok (.iinc 7 1, 3) := by decide +kernel
theorem dX12_loads_92 : decode cX12_loads 92 = .ok (.goto (-46), 3) := by decide +kernel
theorem dX12_loads_95 : decode cX12_loads 95 = .ok (.iload_n 3, 1) := by decide +kernel
theorem dX12_loads_96 : decode cX12_loads 96 = .ok (.ifCond .ne 8, 3) := by decide +kernel
theorem dX12_loads_99 : decode cX12_loads 99 = .ok (.iload 4, 2) := by decide +kernel
theorem dX12_loads_101 : decode cX12_loads 101 = .ok (.goto 15, 3) := by decide +kernel
theorem dX12_loads_104 : decode cX12_loads 104 = .ok (.iload_n 3, 1) := by decide +kernel
theorem dX12_loads_105 : decode cX12_loads 105 = .ok (.iconst 1, 1) := by decide +kernel
theorem dX12_loads_106 : decode cX12_loads 106 = .ok (.if_icmp .ne 8, 3) := by decide +kernel
theorem dX12_loads_109 : decode cX12_loads 109 = .ok (.iload 5, 2) := by decide +kernel
theorem dX12_loads_111 : decode cX12_loads 111 = .ok (.goto 5, 3) := by decide +kernel
theorem dX12_loads_114 : decode cX12_loads 114 = .ok (.iload 6, 2) := by decide +kernel
theorem dX12_loads_116 : decode cX12_loads 116 = .ok (.ireturn, 1) := by decide +kernel
theorem dX12_needOf_0 : decode cX12_needOf 0 = .ok (.aload_n 0, 1) := by decide +kernel
theorem dX12_needOf_1 : decode cX12_needOf 1 = .ok (.iload_n 1, 1) := by decide +kernel
theorem dX12_needOf_2 : decode cX12_needOf 2 = .ok (.aload_n 0, 1) := by decide +kernel
theorem dX12_needOf_3 : decode cX12_needOf 3 = .ok (.getfield 25, 3) := by decide +kernel
theorem dX12_needOf_6 : decode cX12_needOf 6 = .ok (.bipush 80, 2) := by decide +kernel
theorem dX12_needOf_8 : decode cX12_needOf 8 = .ok (.iload_n 1, 1) := by decide +kernel
theorem dX12_needOf_9 : decode cX12_needOf 9 = .ok (.iadd, 1) := by decide +kernel
theorem dX12_needOf_10 : decode cX12_needOf 10 = .ok (.iaload, 1) := by decide +kernel
theorem dX12_needOf_11 : decode cX12_needOf 11 = .ok (.invokevirtual 177, 3) := by decide +kernel
theorem dX12_needOf_14 : decode cX12_needOf 14 = .ok (.istore_n 3, 1) := by decide +kernel
theorem dX12_needOf_15 : decode cX12_needOf 15 = .ok (.iload_n 3, 1) := by decide +kernel
theorem dX12_needOf_16 : decode cX12_needOf 16 = .ok (.bipush 60, 2) := by decide +kernel
theorem dX12_needOf_18 : decode cX12_needOf 18 = .ok (.if_icmp .lt 7, 3) := by decide +kernel
theorem dX12_needOf_21 : decode cX12_needOf 21 = .ok (.iconst (-1), 1) := by decide +kernel
theorem dX12_needOf_22 : decode cX12_needOf 22 = .ok (.goto 23, 3) := by decide +kernel
theorem dX12_needOf_25 : decode cX12_needOf 25 = .ok (.aload_n 0, 1) := by decide +kernel
theorem dX12_needOf_26 : decode cX12_needOf 26 = .ok (.iload_n 1, 1) := by decide +kernel
theorem dX12_needOf_27 : decode cX12_needOf 27 = .ok (.iload_n 2, 1) := by decide +kernel
theorem dX12_needOf_28 : decode cX12_needOf 28 = .ok (.aload_n 0, 1) := by decide +kernel
theorem dX12_needOf_29 : decode cX12_needOf 29 = .ok (.invokevirtual 187, 3) := by decide +kernel
theorem dX12_needOf_32 : decode cX12_needOf 32 = .ok (.invokevirtual 173, 3) := by decide +kernel
theorem dX12_needOf_35 : decode cX12_needOf 35 = .ok (.iload_n 3, 1) := by decide +kernel
theorem dX12_needOf_36 : decode cX12_needOf 36 = .ok (.iadd, 1) := by decide +kernel
theorem dX12_needOf_37 : decode cX12_needOf 37 = .ok (.bipush 60, 2) := by decide +kernel
theorem dX12_needOf_39 : decode cX12_needOf 39 = .ok (.isub, 1) := by decide +kernel
theorem dX12_needOf_40 : decode cX12_needOf 40 = .ok (.iconst 1, 1) := by decide +kernel
theorem dX12_needOf_41 : decode cX12_needOf 41 = .ok (.iadd, 1) := by decide +kernel
theorem dX12_needOf_42 : decode cX12_needOf 42 = .ok (.invokestatic 170, 3) := by decide +kernel
theorem dX12_needOf_45 : decode cX12_needOf 45 = .ok (.ireturn, 1) := by decide +kernel
theorem dX12_gravelTo_0 : decode cX12_gravelTo 0 = .ok (.aload_n 0, 1) := by decide +kernel
theorem dX12_gravelTo_1 : decode cX12_gravelTo 1 = .ok (.iload_n 1, 1) := by decide +kernel
theorem dX12_gravelTo_2 : decode cX12_gravelTo 2 = .ok (.invokevirtual 226, 3) := by decide +kernel
theorem dX12_gravelTo_5 : decode cX12_gravelTo 5 = .ok (.ifCond .eq 11, 3) := by decide +kernel
theorem dX12_gravelTo_8 : decode cX12_gravelTo 8 = .ok (.aload_n 0, 1) := by decide +kernel
theorem dX12_gravelTo_9 : decode cX12_gravelTo 9 = .ok (.iload_n 2, 1) := by decide +kernel
theorem dX12_gravelTo_10 : decode cX12_gravelTo 10 = .ok (.invokevirtual 222, 3) := by decide +kernel
theorem dX12_gravelTo_13 : decode cX12_gravelTo 13 = .ok (.ifCond .ne 6, 3) := by decide +kernel
theorem dX12_gravelTo_16 : decode cX12_gravelTo 16 = .ok (.ldc 225, 2) := by decide +kernel
theorem dX12_gravelTo_18 : decode cX12_gravelTo 18 = .ok (.ireturn, 1) := by decide +kernel
theorem dX12_gravelTo_19 : decode cX12_gravelTo 19 = .ok (.iconst 0, 1) := by decide +kernel
theorem dX12_gravelTo_20 : decode cX12_gravelTo 20 = .ok (.istore_n 3, 1) := by decide +kernel
theorem dX12_gravelTo_21 : decode cX12_gravelTo 21 = .ok (.iconst 0, 1) := by decide +kernel
theorem dX12_gravelTo_22 : decode cX12_gravelTo 22 = .ok (.istore 4, 2) := by decide +kernel
theorem dX12_gravelTo_24 : decode cX12_gravelTo 24 = .ok (.iload 4, 2) := by decide +kernel
theorem dX12_gravelTo_26 : decode cX12_gravelTo 26 = .ok (.iload_n 2, 1) := by decide +kernel
theorem dX12_gravelTo_27 : decode cX12_gravelTo 27 = .ok (.if_icmp .ge 30, 3) := by decide +kernel
theorem dX12_gravelTo_30 : decode cX12_gravelTo 30 = .ok (.aload_n 0, 1) := by decide +kernel
theorem dX12_gravelTo_31 : decode cX12_gravelTo 31 = .ok (.iload_n 1, 1) := by decide +kernel
theorem dX12_gravelTo_32 : decode cX12_gravelTo 32 = .ok (.iload 4, 2) := by decide +kernel
theorem dX12_gravelTo_34 : decode cX12_gravelTo 34 = .ok (.invokevirtual 276, 3) := by decide +kernel
theorem dX12_gravelTo_37 : decode cX12_gravelTo 37 = .ok (.istore 5, 2) := by decide +kernel
theorem dX12_gravelTo_39 : decode cX12_gravelTo 39 = .ok (.iload 5, 2) := by decide +kernel
theorem dX12_gravelTo_41 : decode cX12_gravelTo 41 = .ok (.ifCond .ge 5, 3) := by decide +kernel
theorem dX12_gravelTo_44 : decode cX12_gravelTo 44 = .ok (.iconst (-1), 1) := by decide +kernel
theorem dX12_gravelTo_45 : decode cX12_gravelTo 45 = .ok (.ireturn, 1) := by decide +kernel
theorem dX12_gravelTo_46 : decode cX12_gravelTo 46 = .ok (.iload_n 3, 1) := by decide +kernel
theorem dX12_gravelTo_47 : decode cX12_gravelTo 47 = .ok (.iload 5, 2) := by decide +kernel
theorem dX12_gravelTo_49 : decode cX12_gravelTo 49 = .ok (.iadd, 1) := by decide +kernel
theorem dX12_gravelTo_50 : decode cX12_gravelTo 50 = .ok (.istore_n 3, 1) := by decide +kernel
theorem dX12_gravelTo_51 : decode cX12_gravelTo 51 = .ok (.iinc 4 1, 3) := by decide +kernel
theorem dX12_gravelTo_54 : decode cX12_gravelTo 54 = .ok (.goto (-30), 3) := by decide +kernel
theorem dX12_gravelTo_57 : decode cX12_gravelTo 57 = .ok (.iload_n 3, 1) := by decide +kernel
theorem dX12_gravelTo_58 : decode cX12_gravelTo 58 = .ok (.ireturn, 1) := by decide +kernel
theorem dX12_isSet_0 : decode cX12_isSet 0 = .ok (.iload_n 1, 1) := by decide +kernel
theorem dX12_isSet_1 : decode cX12_isSet 1 = .ok (.i2l, 1) := by decide +kernel
theorem dX12_isSet_2 : decode cX12_isSet 2 = .ok (.lconst 0, 1) := by decide +kernel
theorem dX12_isSet_3 : decode cX12_isSet 3 = .ok (.iconst 1, 1) := by decide +kernel
theorem dX12_isSet_4 : decode cX12_isSet 4 = .ok (.aload_n 0, 1) := by decide +kernel
theorem dX12_isSet_5 : decode cX12_isSet 5 = .ok (.getfield 85, 3) := by decide +kernel
theorem dX12_isSet_8 : decode cX12_isSet 8 = .ok (.ishl, 1) := by decide +kernel
theorem dX12_isSet_9 : decode cX12_isSet 9 = .ok (.iconst 1, 1) := by decide +kernel
theorem dX12_isSet_10 : decode cX12_isSet 10 = .ok (.isub, 1) := by decide +kernel
theorem dX12_isSet_11 : decode cX12_isSet 11 = .ok (.i2l, 1) := by decide +kernel
theorem dX12_isSet_12 : decode cX12_isSet 12 = .ok (.invokestatic 81, 3) := by decide +kernel
theorem dX12_isSet_15 : decode cX12_isSet 15 = .ok (.ireturn, 1) := by decide +kernel
theorem dX12_gravelForAll_0 : decode cX12_gravelForAll 0 = .ok (.aload_n 0, 1) := by decide +kernel
theorem dX12_gravelForAll_1 : decode cX12_gravelForAll 1 = .ok (.iload_n 1, 1) := by decide +kernel
theorem dX12_gravelForAll_2 : decode cX12_gravelForAll 2 = .ok (.invokevirtual 279, 3) := by decide +kernel
theorem dX12_gravelForAll_5 : decode cX12_gravelForAll 5 = .ok (.ifCond .ne 6, 3) := by decide +kernel
theorem dX12_gravelForAll_8 : decode cX12_gravelForAll 8 = .ok (.ldc 225, 2) := by decide +kernel
theorem dX12_gravelForAll_10 : decode cX12_gravelForAll 10 = .ok (.ireturn, 1) := by decide +kernel
theorem dX12_gravelForAll_11 : decode cX12_gravelForAll 11 = .ok (.iconst 0, 1) := by decide +kernel
theorem dX12_gravelForAll_12 : decode cX12_gravelForAll 12 = .ok (.istore_n 2, 1) := by decide +kernel
theorem dX12_gravelForAll_13 : decode cX12_gravelForAll 13 = .ok (.iconst 0, 1) := by decide +kernel
theorem dX12_gravelForAll_14 : decode cX12_gravelForAll 14 = .ok (.istore_n 3, 1) := by decide +kernel
theorem dX12_gravelForAll_15 : decode cX12_gravelForAll 15 = .ok (.iload_n 3, 1) := by decide +kernel
theorem dX12_gravelForAll_16 : decode cX12_gravelForAll 16 = .ok (.aload_n 0, 1) := by decide +kernel
theorem dX12_gravelForAll_17 : decode cX12_gravelForAll 17 = .ok (.getfield 78, 3) := by decide +kernel
theorem dX12_gravelForAll_20 : decode cX12_gravelForAll 20 = .ok (.if_icmp .ge 80, 3) := by decide +kernel
theorem dX12_gravelForAll_23 : decode cX12_gravelForAll 23 = .ok (.iconst 0, 1) := by decide +kernel
theorem dX12_gravelForAll_24 : decode cX12_gravelForAll 24 = .ok (.istore 4, 2) := by decide +kernel
theorem dX12_gravelForAll_26 : decode cX12_gravelForAll 26 = .ok (.iconst 0, 1) := by decide +kernel
theorem dX12_gravelForAll_27 : decode cX12_gravelForAll 27 = .ok (.istore 5, 2) := by decide +kernel
theorem dX12_gravelForAll_29 : decode cX12_gravelForAll 29 = .ok (.iload 5, 2) := by decide +kernel
theorem dX12_gravelForAll_31 : decode cX12_gravelForAll 31 = .ok (.aload_n 0, 1) := by decide +kernel
theorem dX12_gravelForAll_32 : decode cX12_gravelForAll 32 = .ok (.getfield 85, 3) := by decide +kernel
theorem dX12_gravelForAll_35 : decode cX12_gravelForAll 35 = .ok (.if_icmp .ge 54, 3) := by decide +kernel
theorem dX12_gravelForAll_38 : decode cX12_gravelForAll 38 = .ok (.iload_n 1, 1) := by decide +kernel
theorem dX12_gravelForAll_39 : decode cX12_gravelForAll 39 = .ok (.iload 5, 2) := by decide +kernel
theorem dX12_gravelForAll_41 : decode cX12_gravelForAll 41 = .ok (.invokestatic 194, 3) := by decide +kernel
theorem dX12_gravelForAll_44 : decode cX12_gravelForAll 44 = .ok (.ifCond .eq 13, 3) := by decide +kernel
theorem dX12_gravelForAll_47 : decode cX12_gravelForAll 47 = .ok (.aload_n 0, 1) := by decide +kernel
theorem dX12_gravelForAll_48 : decode cX12_gravelForAll 48 = .ok (.iload 5, 2) := by decide +kernel
theorem dX12_gravelForAll_50 : decode cX12_gravelForAll 50 = .ok (.iload_n 3, 1) := by decide +kernel
theorem dX12_gravelForAll_51 : decode cX12_gravelForAll 51 = .ok (.invokevirtual 276, 3) := by decide +kernel
theorem dX12_gravelForAll_54 : decode cX12_gravelForAll 54 = .ok (.goto 4, 3) := by decide +kernel
theorem dX12_gravelForAll_57 : decode cX12_gravelForAll 57 = .ok (.iconst 0, 1) := by decide +kernel
theorem dX12_gravelForAll_58 : decode cX12_gravelForAll 58 = .ok (.istore 6, 2) := by decide +kernel
theorem dX12_gravelForAll_60 : decode cX12_gravelForAll 60 = .ok (.iload 6, 2) := by decide +kernel
theorem dX12_gravelForAll_62 : decode cX12_gravelForAll 62 = .ok (.ifCond .ge 5, 3) := by decide +kernel
theorem dX12_gravelForAll_65 : decode cX12_gravelForAll 65 = .ok (.iconst (-1), 1) := by decide +kernel
theorem dX12_gravelForAll_66 : decode cX12_gravelForAll 66 = .ok (.ireturn, 1) := by decide +kernel
theorem dX12_gravelForAll_67 : decode cX12_gravelForAll 67 = .ok (.iload 6, 2) := by decide +kernel
theorem dX12_gravelForAll_69 : decode cX12_gravelForAll 69 = .ok (.iload 4, 2) := by decide +kernel
theorem dX12_gravelForAll_71 : decode cX12_gravelForAll 71 = .ok (.if_icmp .le 8, 3) := by decide +kernel
theorem dX12_gravelForAll_74 : decode cX12_gravelForAll 74 = .ok (.iload 6, 2) := by decide +kernel
theorem dX12_gravelForAll_76 : decode cX12_gravelForAll 76 = .ok (.goto 5, 3) := by decide +kernel
theorem dX12_gravelForAll_79 : decode cX12_gravelForAll 79 = .ok (.iload 4, 2) := by decide +kernel
theorem dX12_gravelForAll_81 : decode cX12_gravelForAll 81 = .ok (.istore 4, 2) := by decide +kernel
theorem dX12_gravelForAll_83 : decode cX12_gravelForAll 83 = .ok (.iinc 5 1, 3) := by decide +kernel
theorem dX12_gravelForAll_86 : decode cX12_gravelForAll 86 = .ok (.goto (-57), 3) := by decide +kernel
theorem dX12_gravelForAll_89 : decode cX12_gravelForAll 89 = .ok (.iload_n 2, 1) := by decide +kernel
theorem dX12_gravelForAll_90 : decode cX12_gravelForAll 90 = .ok (.iload 4, 2) := by decide +kernel
theorem dX12_gravelForAll_92 : decode cX12_gravelForAll 92 = .ok (.iadd, 1) := by decide +kernel
theorem dX12_gravelForAll_93 : decode cX12_gravelForAll 93 = .ok (.istore_n 2, 1) := by decide +kernel
theorem dX12_gravelForAll_94 : decode cX12_gravelForAll 94 = .ok (.iinc 3 1, 3) := by decide +kernel
theorem dX12_gravelForAll_97 : decode cX12_gravelForAll 97 = .ok (.goto (-82), 3) := by decide +kernel
theorem dX12_gravelForAll_100 : decode cX12_gravelForAll 100 = .ok (.iload_n 2, 1) := by decide +kernel
theorem dX12_gravelForAll_101 : decode cX12_gravelForAll 101 = .ok (.ireturn, 1) := by decide +kernel
theorem dX12_foundedBy_0 : decode cX12_foundedBy 0 = .ok (.iload_n 3, 1) := by decide +kernel
theorem dX12_foundedBy_1 : decode cX12_foundedBy 1 = .ok (.istore 4, 2) := by decide +kernel
theorem dX12_foundedBy_3 : decode cX12_foundedBy 3 = .ok (.aload_n 0, 1) := by decide +kernel
theorem dX12_foundedBy_4 : decode cX12_foundedBy 4 = .ok (.invokevirtual 198, 3) := by decide +kernel
theorem dX12_foundedBy_7 : decode cX12_foundedBy 7 = .ok (.istore 5, 2) := by decide +kernel
theorem dX12_foundedBy_9 : decode cX12_foundedBy 9 = .ok (.iconst 0, 1) := by decide +kernel
theorem dX12_foundedBy_10 : decode cX12_foundedBy 10 = .ok (.istore 6, 2) := by decide +kernel
theorem dX12_foundedBy_12 : decode cX12_foundedBy 12 = .ok (.iconst 1, 1) := by decide +kernel
theorem dX12_foundedBy_13 : decode cX12_foundedBy 13 = .ok (.istore 7, 2) := by decide +kernel
theorem dX12_foundedBy_15 : decode cX12_foundedBy 15 = .ok (.iconst 1, 1) := by decide +kernel
theorem dX12_foundedBy_16 : decode cX12_foundedBy 16 = .ok (.istore 8, 2) := by decide +kernel
theorem dX12_foundedBy_18 : decode cX12_foundedBy 18 = .ok (.iload 8, 2) := by decide +kernel
theorem dX12_foundedBy_20 : decode cX12_foundedBy 20 = .ok (.iload_n 2, 1) := by decide +kernel
theorem dX12_foundedBy_21 : decode cX12_foundedBy 21 = .ok (.if_icmp .ge 16, 3) := by decide +kernel
theorem dX12_foundedBy_24 : decode cX12_foundedBy 24 = .ok (.iload 7, 2) := by decide +kernel
theorem dX12_foundedBy_26 : decode cX12_foundedBy 26 = .ok (.bipush 10, 2) := by decide +kernel
theorem dX12_foundedBy_28 : decode cX12_foundedBy 28 = .ok (.imul, 1) := by decide +kernel
theorem dX12_foundedBy_29 : decode cX12_foundedBy 29 = .ok (.istore 7, 2) := by decide +kernel
theorem dX12_foundedBy_31 : decode cX12_foundedBy 31 = .ok (.iinc 8 1, 3) := by decide +kernel
theorem dX12_foundedBy_34 : decode cX12_foundedBy 34 = .ok (.goto (-16), 3) := by decide +kernel
theorem dX12_foundedBy_37 : decode cX12_foundedBy 37 = .ok (.iconst 0, 1) := by decide +kernel
theorem dX12_foundedBy_38 : decode cX12_foundedBy 38 = .ok (.istore 8, 2) := by decide +kernel
theorem dX12_foundedBy_40 : decode cX12_foundedBy 40 = .ok (.iload 8, 2) := by decide +kernel
theorem dX12_foundedBy_42 : decode cX12_foundedBy 42 = .ok (.iload_n 2, 1) := by decide +kernel
theorem dX12_foundedBy_43 : decode cX12_foundedBy 43 = .ok (.if_icmp .ge 112, 3) := by decide +kernel
theorem dX12_foundedBy_46 : decode cX12_foundedBy 46 = .ok (.iload_n 1, 1) := by decide +kernel
theorem dX12_foundedBy_47 : decode cX12_foundedBy 47 = .ok (.iload 7, 2) := by decide +kernel
theorem dX12_foundedBy_49 : decode cX12_foundedBy 49 = .ok (.idiv, 1) := by decide +kernel
theorem dX12_foundedBy_50 : decode cX12_foundedBy 50 = .ok (.bipush 10, 2) := by decide +kernel
theorem dX12_foundedBy_52 : decode cX12_foundedBy 52 = .ok (.irem, 1) := by decide +kernel
theorem dX12_foundedBy_53 : decode cX12_foundedBy 53 = .ok (.iconst 1, 1) := by decide +kernel
theorem dX12_foundedBy_54 : decode cX12_foundedBy 54 = .ok (.isub, 1) := by decide +kernel
theorem dX12_foundedBy_55 : decode cX12_foundedBy 55 = .ok (.istore 9, 2) := by decide +kernel
theorem dX12_foundedBy_57 : decode cX12_foundedBy 57 = .ok (.iload 7, 2) := by decide +kernel
theorem dX12_foundedBy_59 : decode cX12_foundedBy 59 = .ok (.bipush 10, 2) := by decide +kernel
theorem dX12_foundedBy_61 : decode cX12_foundedBy 61 = .ok (.idiv, 1) := by decide +kernel
theorem dX12_foundedBy_62 : decode cX12_foundedBy 62 = .ok (.istore 7, 2) := by decide +kernel
theorem dX12_foundedBy_64 : decode cX12_foundedBy 64 = .ok (.iload 9, 2) := by decide +kernel
theorem dX12_foundedBy_66 : decode cX12_foundedBy 66 = .ok (.ifCond .lt 13, 3) := by decide +kernel
theorem dX12_foundedBy_69 : decode cX12_foundedBy 69 = .ok (.iload 4, 2) := by decide +kernel
theorem dX12_foundedBy_71 : decode cX12_foundedBy 71 = .ok (.iload 9, 2) := by decide +kernel
theorem dX12_foundedBy_73 : decode cX12_foundedBy 73 = .ok (.invokestatic 194, 3) := by decide +kernel
theorem dX12_foundedBy_76 : decode cX12_foundedBy 76 = .ok (.ifCond .ne 5, 3) := by decide +kernel
theorem dX12_foundedBy_79 : decode cX12_foundedBy 79 = .ok (.iconst (-1), 1) := by decide +kernel
theorem dX12_foundedBy_80 : decode cX12_foundedBy 80 = .ok (.ireturn, 1) := by decide +kernel
theorem dX12_foundedBy_81 : decode cX12_foundedBy 81 = .ok (.iload 4, 2) := by decide +kernel
theorem dX12_foundedBy_83 : decode cX12_foundedBy 83 = .ok (.iconst 1, 1) := by decide +kernel
theorem dX12_foundedBy_84 : decode cX12_foundedBy 84 = .ok (.iload 9, 2) := by decide +kernel
theorem dX12_foundedBy_86 : decode cX12_foundedBy 86 = .ok (.ishl, 1) := by decide +kernel
theorem dX12_foundedBy_87 : decode cX12_foundedBy 87 = .ok (.iconst (-1), 1) := by decide +kernel
theorem dX12_foundedBy_88 : decode cX12_foundedBy 88 = .ok (.ixor, 1) := by decide +kernel
theorem dX12_foundedBy_89 : decode cX12_foundedBy 89 = .ok (.iand, 1) := by decide +kernel
theorem dX12_foundedBy_90 : decode cX12_foundedBy 90 = .ok (.istore 4, 2) := by decide +kernel
theorem dX12_foundedBy_92 : decode cX12_foundedBy 92 = .ok (.aload_n 0, 1) := by decide +kernel
theorem dX12_foundedBy_93 : decode cX12_foundedBy 93 = .ok (.getfield 53, 3) := by decide +kernel
theorem dX12_foundedBy_96 : decode cX12_foundedBy 96 = .ok (.iconst 5, 1) := by decide +kernel
theorem dX12_foundedBy_97 : decode cX12_foundedBy 97 = .ok (.iload 9, 2) := by decide +kernel
theorem dX12_foundedBy_99 : decode cX12_foundedBy 99 = .ok (.imul, 1) := by decide +kernel
theorem dX12_foundedBy_100 : decode cX12_foundedBy 100 = .ok (.iload 8, 2) := by decide +kernel
theorem dX12_foundedBy_102 : decode cX12_foundedBy 102 = .ok (.iadd, 1) := by decide +kernel
theorem dX12_foundedBy_103 : decode cX12_foundedBy 103 = .ok (.iaload, 1) := by decide +kernel
theorem dX12_foundedBy_104 : decode cX12_foundedBy 104 = .ok (.istore 10, 2) := by decide +kernel
theorem dX12_foundedBy_106 : decode cX12_foundedBy 106 = .ok (.iload 6, 2) := by decide +kernel
theorem dX12_foundedBy_108 : decode cX12_foundedBy 108 = .ok (.iload 10, 2) := by decide +kernel
theorem dX12_foundedBy_110 : decode cX12_foundedBy 110 = .ok (.ifCond .lt 17, 3) := by decide +kernel
theorem dX12_foundedBy_113 : decode cX12_foundedBy 113 = .ok (.iload 5, 2) := by decide +kernel
theorem dX12_foundedBy_115 : decode cX12_foundedBy 115 = .ok (.iload 10, 2) := by decide +kernel
theorem dX12_foundedBy_117 : decode cX12_foundedBy 117 = .ok (.invokestatic 194, 3) := by decide +kernel
theorem dX12_foundedBy_120 : decode cX12_foundedBy 120 = .ok (.ifCond .ne 7, 3) := by decide +kernel
theorem dX12_foundedBy_123 : decode cX12_foundedBy 123 = .ok (.iconst 1, 1) := by decide +kernel
theorem dX12_foundedBy_124 : decode cX12_foundedBy 124 = .ok (.goto 4, 3) := by decide +kernel
theorem dX12_foundedBy_127 : decode cX12_foundedBy 127 = .ok (.iconst 0, 1) := by decide +kernel
theorem dX12_foundedBy_128 : decode cX12_foundedBy 128 = .ok (.iadd, 1) := by decide +kernel
theorem dX12_foundedBy_129 : decode cX12_foundedBy 129 = .ok (.istore 6, 2) := by decide +kernel
theorem dX12_foundedBy_131 : decode cX12_foundedBy 131 = .ok (.iload 5, 2) := by decide +kernel
theorem dX12_foundedBy_133 : decode cX12_foundedBy 133 = .ok (.iload 10, 2) := by decide +kernel
theorem dX12_foundedBy_135 : decode cX12_foundedBy 135 = .ok (.ifCond .lt 10, 3) := by decide +kernel
theorem dX12_foundedBy_138 : decode cX12_foundedBy 138 = .ok (.iconst 1, 1) := by decide +kernel
theorem dX12_foundedBy_139 : decode cX12_foundedBy 139 = .ok (.iload 10, 2) := by decide +kernel
theorem dX12_foundedBy_141 : decode cX12_foundedBy 141 = .ok (.ishl, 1) := by decide +kernel
theorem dX12_foundedBy_142 : decode cX12_foundedBy 142 = .ok (.goto 4, 3) := by decide +kernel
theorem dX12_foundedBy_145 : decode cX12_foundedBy 145 = .ok (.iconst 0, 1) := by decide +kernel
theorem dX12_foundedBy_146 : decode cX12_foundedBy 146 = .ok (.ior, 1) := by decide +kernel
theorem dX12_foundedBy_147 : decode cX12_foundedBy 147 = .ok (.istore 5, 2) := by decide +kernel
theorem dX12_foundedBy_149 : decode cX12_foundedBy 149 = .ok (.iinc 8 1, 3) := by decide +kernel
theorem dX12_foundedBy_152 : decode cX12_foundedBy 152 = .ok (.goto (-112), 3) := by decide +kernel
theorem dX12_foundedBy_155 : decode cX12_foundedBy 155 = .ok (.iload 6, 2) := by decide +kernel
theorem dX12_foundedBy_157 : decode cX12_foundedBy 157 = .ok (.ireturn, 1) := by decide +kernel
theorem dX12_order_0 : decode cX12_order 0 = .ok (.aload_n 0, 1) := by decide +kernel
theorem dX12_order_1 : decode cX12_order 1 = .ok (.iload_n 1, 1) := by decide +kernel
theorem dX12_order_2 : decode cX12_order 2 = .ok (.invokevirtual 279, 3) := by decide +kernel
theorem dX12_order_5 : decode cX12_order 5 = .ok (.ifCond .ne 6, 3) := by decide +kernel
theorem dX12_order_8 : decode cX12_order 8 = .ok (.ldc 225, 2) := by decide +kernel
theorem dX12_order_10 : decode cX12_order 10 = .ok (.ireturn, 1) := by decide +kernel
theorem dX12_order_11 : decode cX12_order 11 = .ok (.iload_n 2, 1) := by decide +kernel
theorem dX12_order_12 : decode cX12_order 12 = .ok (.i2l, 1) := by decide +kernel
theorem dX12_order_13 : decode cX12_order 13 = .ok (.lconst 0, 1) := by decide +kernel
theorem dX12_order_14 : decode cX12_order 14 = .ok (.lconst 1, 1) := by decide +kernel
theorem dX12_order_15 : decode cX12_order 15 = .ok (.invokestatic 81, 3) := by decide +kernel
theorem dX12_order_18 : decode cX12_order 18 = .ok (.ifCond .ne 6, 3) := by decide +kernel
theorem dX12_order_21 : decode cX12_order 21 = .ok (.ldc 90, 2) := by decide +kernel
theorem dX12_order_23 : decode cX12_order 23 = .ok (.ireturn, 1) := by decide +kernel
theorem dX12_order_24 : decode cX12_order 24 = .ok (.iload_n 1, 1) := by decide +kernel
theorem dX12_order_25 : decode cX12_order 25 = .ok (.invokestatic 282, 3) := by decide +kernel
theorem dX12_order_28 : decode cX12_order 28 = .ok (.istore_n 3, 1) := by decide +kernel
theorem dX12_order_29 : decode cX12_order 29 = .ok (.iload_n 3, 1) := by decide +kernel
theorem dX12_order_30 : decode cX12_order 30 = .ok (.iconst 5, 1) := by decide +kernel
theorem dX12_order_31 : decode cX12_order 31 = .ok (.if_icmp .gt 12, 3) := by decide +kernel
theorem dX12_order_34 : decode cX12_order 34 = .ok (.iload_n 1, 1) := by decide +kernel
theorem dX12_order_35 : decode cX12_order 35 = .ok (.aload_n 0, 1) := by decide +kernel
theorem dX12_order_36 : decode cX12_order 36 = .ok (.invokevirtual 204, 3) := by decide +kernel
theorem dX12_order_39 : decode cX12_order 39 = .ok (.iand, 1) := by decide +kernel
theorem dX12_order_40 : decode cX12_order 40 = .ok (.ifCond .eq 6, 3) := by decide +kernel
theorem dX12_order_43 : decode cX12_order 43 = .ok (.ldc 232, 2) := by decide +kernel
theorem dX12_order_45 : decode cX12_order 45 = .ok (.ireturn, 1) := by decide +kernel
theorem dX12_order_46 : decode cX12_order 46 = .ok (.iconst 0, 1) := by decide +kernel
theorem dX12_order_47 : decode cX12_order 47 = .ok (.istore 4, 2) := by decide +kernel
theorem dX12_order_49 : decode cX12_order 49 = .ok (.iload 4, 2) := by decide +kernel
theorem dX12_order_51 : decode cX12_order 51 = .ok (.aload_n 0, 1) := by decide +kernel
theorem dX12_order_52 : decode cX12_order 52 = .ok (.getfield 85, 3) := by decide +kernel
theorem dX12_order_55 : decode cX12_order 55 = .ok (.if_icmp .ge 48, 3) := by decide +kernel
theorem dX12_order_58 : decode cX12_order 58 = .ok (.iconst 0, 1) := by decide +kernel
theorem dX12_order_59 : decode cX12_order 59 = .ok (.istore 5, 2) := by decide +kernel
theorem dX12_order_61 : decode cX12_order 61 = .ok (.iload 5, 2) := by decide +kernel
theorem dX12_order_63 : decode cX12_order 63 = .ok (.iconst 5, 1) := by decide +kernel
theorem dX12_order_64 : decode cX12_order 64 = .ok (.if_icmp .ge 33, 3) := by decide +kernel
theorem dX12_order_67 : decode cX12_order 67 = .ok (.aload_n 0, 1) := by decide +kernel
theorem dX12_order_68 : decode cX12_order 68 = .ok (.getfield 53, 3) := by decide +kernel
theorem dX12_order_71 : decode cX12_order 71 = .ok (.iconst 5, 1) := by decide +kernel
theorem dX12_order_72 : decode cX12_order 72 = .ok (.iload 4, 2) := by decide +kernel
theorem dX12_order_74 : decode cX12_order 74 = .ok (.imul, 1) := by decide +kernel
theorem dX12_order_75 : decode cX12_order 75 = .ok (.iload 5, 2) := by decide +kernel
theorem dX12_order_77 : decode cX12_order 77 = .ok (.iadd, 1) := by decide +kernel
theorem dX12_order_78 : decode cX12_order 78 = .ok (.aload_n 0, 1) := by decide +kernel
theorem dX12_order_79 : decode cX12_order 79 = .ok (.iload 4, 2) := by decide +kernel
theorem dX12_order_81 : decode cX12_order 81 = .ok (.aload_n 0, 1) := by decide +kernel
theorem dX12_order_82 : decode cX12_order 82 = .ok (.iload 5, 2) := by decide +kernel
theorem dX12_order_84 : decode cX12_order 84 = .ok (.invokevirtual 167, 3) := by decide +kernel
theorem dX12_order_87 : decode cX12_order 87 = .ok (.invokevirtual 190, 3) := by decide +kernel
theorem dX12_order_90 : decode cX12_order 90 = .ok (.iastore, 1) := by decide +kernel
theorem dX12_order_91 : decode cX12_order 91 = .ok (.iinc 5 1, 3) := by decide +kernel
theorem dX12_order_94 : decode cX12_order 94 = .ok (.goto (-33), 3) := by decide +kernel
theorem dX12_order_97 : decode cX12_order 97 = .ok (.iinc 4 1, 3) := by decide +kernel
theorem dX12_order_100 : decode cX12_order 100 = .ok (.goto (-51), 3) := by decide +kernel
theorem dX12_order_103 : decode cX12_order 103 = .ok (.iconst 1, 1) := by decide +kernel
theorem dX12_order_104 : decode cX12_order 104 = .ok (.istore 4, 2) := by decide +kernel
theorem dX12_order_106 : decode cX12_order 106 = .ok (.iconst 0, 1) := by decide +kernel
theorem dX12_order_107 : decode cX12_order 107 = .ok (.istore 5, 2) := by decide +kernel
theorem dX12_order_109 : decode cX12_order 109 = .ok (.iload 5, 2) := by decide +kernel
theorem dX12_order_111 : decode cX12_order 111 = .ok (.iload_n 3, 1) := by decide +kernel
theorem dX12_order_112 : decode cX12_order 112 = .ok (.if_icmp .ge 16, 3) := by decide +kernel
theorem dX12_order_115 : decode cX12_order 115 = .ok (.iload 4, 2) := by decide +kernel
theorem dX12_order_117 : decode cX12_order 117 = .ok (.bipush 10, 2) := by decide +kernel
theorem dX12_order_119 : decode cX12_order 119 = .ok (.imul, 1) := by decide +kernel
theorem dX12_order_120 : decode cX12_order 120 = .ok (.istore 4, 2) := by decide +kernel
theorem dX12_order_122 : decode cX12_order 122 = .ok (.iinc 5 1, 3) := by decide +kernel
theorem dX12_order_125 : decode cX12_order 125 = .ok (.goto (-16), 3) := by decide +kernel
theorem dX12_order_128 : decode cX12_order 128 = .ok (.iconst 0, 1) := by decide +kernel
theorem dX12_order_129 : decode cX12_order 129 = .ok (.istore 5, 2) := by decide +kernel
theorem dX12_order_131 : decode cX12_order 131 = .ok (.iconst (-1), 1) := by decide +kernel
theorem dX12_order_132 : decode cX12_order 132 = .ok (.istore 6, 2) := by decide +kernel
theorem dX12_order_134 : decode cX12_order 134 = .ok (.iconst 0, 1) := by decide +kernel
theorem dX12_order_135 : decode cX12_order 135 = .ok (.istore 7, 2) := by decide +kernel
theorem dX12_order_137 : decode cX12_order 137 = .ok (.iload 7, 2) := by decide +kernel
theorem dX12_order_139 : decode cX12_order 139 = .ok (.iload 4, 2) := by decide +kernel
theorem dX12_order_141 : decode cX12_order 141 = .ok (.if_icmp .ge 51, 3) := by decide +kernel
theorem dX12_order_144 : decode cX12_order 144 = .ok (.aload_n 0, 1) := by decide +kernel
theorem dX12_order_145 : decode cX12_order 145 = .ok (.iload 7, 2) := by decide +kernel
theorem dX12_order_147 : decode cX12_order 147 = .ok (.iload_n 3, 1) := by decide +kernel
theorem dX12_order_148 : decode cX12_order 148 = .ok (.iload_n 1, 1) := by decide +kernel
theorem dX12_order_149 : decode cX12_order 149 = .ok (.invokevirtual 285, 3) := by decide +kernel
theorem dX12_order_152 : decode cX12_order 152 = .ok (.istore 8, 2) := by decide +kernel
theorem dX12_order_154 : decode cX12_order 154 = .ok (.iload 8, 2) := by decide +kernel
theorem dX12_order_156 : decode cX12_order 156 = .ok (.iload 6, 2) := by decide +kernel
theorem dX12_order_158 : decode cX12_order 158 = .ok (.if_icmp .le 8, 3) := by decide +kernel
theorem dX12_order_161 : decode cX12_order 161 = .ok (.iload 7, 2) := by decide +kernel
theorem dX12_order_163 : decode cX12_order 163 = .ok (.goto 5, 3) := by decide +kernel
theorem dX12_order_166 : decode cX12_order 166 = .ok (.iload 5, 2) := by decide +kernel
theorem dX12_order_168 : decode cX12_order 168 = .ok (.istore 5, 2) := by decide +kernel
theorem dX12_order_170 : decode cX12_order 170 = .ok (.iload 8, 2) := by decide +kernel
theorem dX12_order_172 : decode cX12_order 172 = .ok (.iload 6, 2) := by decide +kernel
theorem dX12_order_174 : decode cX12_order 174 = .ok (.if_icmp .le 8, 3) := by decide +kernel
theorem dX12_order_177 : decode cX12_order 177 = .ok (.iload 8, 2) := by decide +kernel
theorem dX12_order_179 : decode cX12_order 179 = .ok (.goto 5, 3) := by decide +kernel
theorem dX12_order_182 : decode cX12_order 182 = .ok (.iload 6, 2) := by decide +kernel
theorem dX12_order_184 : decode cX12_order 184 = .ok (.istore 6, 2) := by decide +kernel
theorem dX12_order_186 : decode cX12_order 186 = .ok (.iinc 7 1, 3) := by decide +kernel
theorem dX12_order_189 : decode cX12_order 189 = .ok (.goto (-52), 3) := by decide +kernel
theorem dX12_order_192 : decode cX12_order 192 = .ok (.iload_n 2, 1) := by decide +kernel
theorem dX12_order_193 : decode cX12_order 193 = .ok (.ifCond .ne 8, 3) := by decide +kernel
theorem dX12_order_196 : decode cX12_order 196 = .ok (.iload 6, 2) := by decide +kernel
theorem dX12_order_198 : decode cX12_order 198 = .ok (.goto 5, 3) := by decide +kernel
theorem dX12_order_201 : decode cX12_order 201 = .ok (.iload 5, 2) := by decide +kernel
theorem dX12_order_203 : decode cX12_order 203 = .ok (.ireturn, 1) := by decide +kernel
theorem dX12_place_0 : decode cX12_place 0 = .ok (.iload_n 1, 1) := by decide +kernel
theorem dX12_place_1 : decode cX12_place 1 = .ok (.i2l, 1) := by decide +kernel
theorem dX12_place_2 : decode cX12_place 2 = .ok (.lconst 0, 1) := by decide +kernel
theorem dX12_place_3 : decode cX12_place 3 = .ok (.lconst 1, 1) := by decide +kernel
theorem dX12_place_4 : decode cX12_place 4 = .ok (.invokestatic 81, 3) := by decide +kernel
theorem dX12_place_7 : decode cX12_place 7 = .ok (.ifCond .ne 6, 3) := by decide +kernel
theorem dX12_place_10 : decode cX12_place 10 = .ok (.ldc 90, 2) := by decide +kernel
theorem dX12_place_12 : decode cX12_place 12 = .ok (.ireturn, 1) := by decide +kernel
theorem dX12_place_13 : decode cX12_place 13 = .ok (.aload_n 0, 1) := by decide +kernel
theorem dX12_place_14 : decode cX12_place 14 = .ok (.getfield 78, 3) := by decide +kernel
theorem dX12_place_17 : decode cX12_place 17 = .ok (.ifCond .ne 6, 3) := by decide +kernel
theorem dX12_place_20 : decode cX12_place 20 = .ok (.ldc 232, 2) := by decide +kernel
theorem dX12_place_22 : decode cX12_place 22 = .ok (.ireturn, 1) := by decide +kernel
theorem dX12_place_23 : decode cX12_place 23 = .ok (.iconst (-1), 1) := by decide +kernel
theorem dX12_place_24 : decode cX12_place 24 = .ok (.istore_n 2, 1) := by decide +kernel
theorem dX12_place_25 : decode cX12_place 25 = .ok (.ldc 193, 2) := by decide +kernel
theorem dX12_place_27 : decode cX12_place 27 = .ok (.istore_n 3, 1) := by decide +kernel
theorem dX12_place_28 : decode cX12_place 28 = .ok (.iconst 0, 1) := by decide +kernel
theorem dX12_place_29 : decode cX12_place 29 = .ok (.istore 4, 2) := by decide +kernel
theorem dX12_place_31 : decode cX12_place 31 = .ok (.iload 4, 2) := by decide +kernel
theorem dX12_place_33 : decode cX12_place 33 = .ok (.aload_n 0, 1) := by decide +kernel
theorem dX12_place_34 : decode cX12_place 34 = .ok (.getfield 78, 3) := by decide +kernel
theorem dX12_place_37 : decode cX12_place 37 = .ok (.if_icmp .ge 96, 3) := by decide +kernel
theorem dX12_place_40 : decode cX12_place 40 = .ok (.iconst 0, 1) := by decide +kernel
theorem dX12_place_41 : decode cX12_place 41 = .ok (.istore 5, 2) := by decide +kernel
theorem dX12_place_43 : decode cX12_place 43 = .ok (.iconst 0, 1) := by decide +kernel
theorem dX12_place_44 : decode cX12_place 44 = .ok (.istore 6, 2) := by decide +kernel
theorem dX12_place_46 : decode cX12_place 46 = .ok (.iload 6, 2) := by decide +kernel
theorem dX12_place_48 : decode cX12_place 48 = .ok (.aload_n 0, 1) := by decide +kernel
theorem dX12_place_49 : decode cX12_place 49 = .ok (.getfield 78, 3) := by decide +kernel
theorem dX12_place_52 : decode cX12_place 52 = .ok (.if_icmp .ge 29, 3) := by decide +kernel
theorem dX12_place_55 : decode cX12_place 55 = .ok (.iload 5, 2) := by decide +kernel
theorem dX12_place_57 : decode cX12_place 57 = .ok (.aload_n 0, 1) := by decide +kernel
theorem dX12_place_58 : decode cX12_place 58 = .ok (.iload 6, 2) := by decide +kernel
theorem dX12_place_60 : decode cX12_place 60 = .ok (.aload_n 0, 1) := by decide +kernel
theorem dX12_place_61 : decode cX12_place 61 = .ok (.invokevirtual 198, 3) := by decide +kernel
theorem dX12_place_64 : decode cX12_place 64 = .ok (.iconst 1, 1) := by decide +kernel
theorem dX12_place_65 : decode cX12_place 65 = .ok (.iload 4, 2) := by decide +kernel
theorem dX12_place_67 : decode cX12_place 67 = .ok (.ishl, 1) := by decide +kernel
theorem dX12_place_68 : decode cX12_place 68 = .ok (.ior, 1) := by decide +kernel
theorem dX12_place_69 : decode cX12_place 69 = .ok (.invokevirtual 201, 3) := by decide +kernel
theorem dX12_place_72 : decode cX12_place 72 = .ok (.iadd, 1) := by decide +kernel
theorem dX12_place_73 : decode cX12_place 73 = .ok (.istore 5, 2) := by decide +kernel
theorem dX12_place_75 : decode cX12_place 75 = .ok (.iinc 6 1, 3) := by decide +kernel
theorem dX12_place_78 : decode cX12_place 78 = .ok (.goto (-32), 3) := by decide +kernel
theorem dX12_place_81 : decode cX12_place 81 = .ok (.aload_n 0, 1) := by decide +kernel
theorem dX12_place_82 : decode cX12_place 82 = .ok (.iload 4, 2) := by decide +kernel
theorem dX12_place_84 : decode cX12_place 84 = .ok (.invokevirtual 183, 3) := by decide +kernel
theorem dX12_place_87 : decode cX12_place 87 = .ok (.ifCond .ne 13, 3) := by decide +kernel
theorem dX12_place_90 : decode cX12_place 90 = .ok (.iload 5, 2) := by decide +kernel
theorem dX12_place_92 : decode cX12_place 92 = .ok (.iload_n 3, 1) := by decide +kernel
theorem dX12_place_93 : decode cX12_place 93 = .ok (.if_icmp .ge 7, 3) := by decide +kernel
theorem dX12_place_96 : decode cX12_place 96 = .ok (.iconst 1, 1) := by decide +kernel
theorem dX12_place_97 : decode cX12_place 97 = .ok (.goto 4, 3) := by decide +kernel
theorem dX12_place_100 : decode cX12_place 100 = .ok (.iconst 0, 1) := by decide +kernel
theorem dX12_place_101 : decode cX12_place 101 = .ok (.istore 6, 2) := by decide +kernel
theorem dX12_place_103 : decode cX12_place 103 = .ok (.iload 6, 2) := by decide +kernel
theorem dX12_place_105 : decode cX12_place 105 = .ok (.ifCond .eq 8, 3) := by decide +kernel
theorem dX12_place_108 : decode cX12_place 108 = .ok (.iload 4, 2) := by decide +kernel
theorem dX12_place_110 : decode cX12_place 110 = .ok (.goto 4, 3) := by decide +kernel
theorem dX12_place_113 : decode cX12_place 113 = .ok (.iload_n 2, 1) := by decide +kernel
theorem dX12_place_114 : decode cX12_place 114 = .ok (.istore_n 2, 1) := by decide +kernel
theorem dX12_place_115 : decode cX12_place 115 = .ok (.iload 6, 2) := by decide +kernel
theorem dX12_place_117 : decode cX12_place 117 = .ok (.ifCond .eq 8, 3) := by decide +kernel
theorem dX12_place_120 : decode cX12_place 120 = .ok (.iload 5, 2) := by decide +kernel
theorem dX12_place_122 : decode cX12_place 122 = .ok (.goto 4, 3) := by decide +kernel
theorem dX12_place_125 : decode cX12_place 125 = .ok (.iload_n 3, 1) := by decide +kernel
theorem dX12_place_126 : decode cX12_place 126 = .ok (.istore_n 3, 1) := by decide +kernel
theorem dX12_place_127 : decode cX12_place 127 = .ok (.iinc 4 1, 3) := by decide +kernel
theorem dX12_place_130 : decode cX12_place 130 = .ok (.goto (-99), 3) := by decide +kernel
theorem dX12_place_133 : decode cX12_place 133 = .ok (.iload_n 2, 1) := by decide +kernel
theorem dX12_place_134 : decode cX12_place 134 = .ok (.ifCond .lt 7, 3) := by decide +kernel
theorem dX12_place_137 : decode cX12_place 137 = .ok (.iload_n 1, 1) := by decide +kernel
theorem dX12_place_138 : decode cX12_place 138 = .ok (.ifCond .ne 7, 3) := by decide +kernel
theorem dX12_place_141 : decode cX12_place 141 = .ok (.iload_n 2, 1) := by decide +kernel
theorem dX12_place_142 : decode cX12_place 142 = .ok (.goto 4, 3) := by decide +kernel
theorem dX12_place_145 : decode cX12_place 145 = .ok (.iload_n 3, 1) := by decide +kernel
theorem dX12_place_146 : decode cX12_place 146 = .ok (.ireturn, 1) := by decide +kernel
theorem dX12_said_0 : decode cX12_said 0 = .ok (.iload_n 1, 1) := by decide +kernel
theorem dX12_said_1 : decode cX12_said 1 = .ok (.i2l, 1) := by decide +kernel
theorem dX12_said_2 : decode cX12_said 2 = .ok (.lconst 0, 1) := by decide +kernel
theorem dX12_said_3 : decode cX12_said 3 = .ok (.ldc2_w 288, 3) := by decide +kernel
theorem dX12_said_6 : decode cX12_said 6 = .ok (.invokestatic 81, 3) := by decide +kernel
theorem dX12_said_9 : decode cX12_said 9 = .ok (.ifCond .ne 6, 3) := by decide +kernel
theorem dX12_said_12 : decode cX12_said 12 = .ok (.ldc 90, 2) := by decide +kernel
theorem dX12_said_14 : decode cX12_said 14 = .ok (.ireturn, 1) := by decide +kernel
theorem dX12_said_15 : decode cX12_said 15 = .ok (.iconst 0, 1) := by decide +kernel
theorem dX12_said_16 : decode cX12_said 16 = .ok (.istore_n 2, 1) := by decide +kernel
theorem dX12_said_17 : decode cX12_said 17 = .ok (.iconst 0, 1) := by decide +kernel
theorem dX12_said_18 : decode cX12_said 18 = .ok (.istore_n 3, 1) := by decide +kernel
theorem dX12_said_19 : decode cX12_said 19 = .ok (.iload_n 3, 1) := by decide +kernel
theorem dX12_said_20 : decode cX12_said 20 = .ok (.aload_n 0, 1) := by decide +kernel
theorem dX12_said_21 : decode cX12_said 21 = .ok (.getfield 78, 3) := by decide +kernel
theorem dX12_said_24 : decode cX12_said 24 = .ok (.if_icmp .ge 30, 3) := by decide +kernel
theorem dX12_said_27 : decode cX12_said 27 = .ok (.iload_n 2, 1) := by decide +kernel
theorem dX12_said_28 : decode cX12_said 28 = .ok (.aload_n 0, 1) := by decide +kernel
theorem dX12_said_29 : decode cX12_said 29 = .ok (.getfield 25, 3) := by decide +kernel
theorem dX12_said_32 : decode cX12_said 32 = .ok (.bipush 20, 2) := by decide +kernel
theorem dX12_said_34 : decode cX12_said 34 = .ok (.iload_n 3, 1) := by decide +kernel
theorem dX12_said_35 : decode cX12_said 35 = .ok (.iadd, 1) := by decide +kernel
theorem dX12_said_36 : decode cX12_said 36 = .ok (.iaload, 1) := by decide +kernel
theorem dX12_said_37 : decode cX12_said 37 = .ok (.iload_n 1, 1) := by decide +kernel
theorem dX12_said_38 : decode cX12_said 38 = .ok (.if_icmp .ne 7, 3) := by decide +kernel
theorem dX12_said_41 : decode cX12_said 41 = .ok (.iconst 1, 1) := by decide +kernel
theorem dX12_said_42 : decode cX12_said 42 = .ok (.goto 4, 3) := by decide +kernel
theorem dX12_said_45 : decode cX12_said 45 = .ok (.iconst 0, 1) := by decide +kernel
theorem dX12_said_46 : decode cX12_said 46 = .ok (.iadd, 1) := by decide +kernel
theorem dX12_said_47 : decode cX12_said 47 = .ok (.istore_n 2, 1) := by decide +kernel
theorem dX12_said_48 : decode cX12_said 48 = .ok (.iinc 3 1, 3) := by decide +kernel
theorem dX12_said_51 : decode cX12_said 51 = .ok (.goto (-32), 3) := by decide +kernel
theorem dX12_said_54 : decode cX12_said 54 = .ok (.iload_n 2, 1) := by decide +kernel
theorem dX12_said_55 : decode cX12_said 55 = .ok (.ireturn, 1) := by decide +kernel
theorem dX12_dry_0 : decode cX12_dry 0 = .ok (.iload_n 1, 1) := by decide +kernel
theorem dX12_dry_1 : decode cX12_dry 1 = .ok (.i2l, 1) := by decide +kernel
theorem dX12_dry_2 : decode cX12_dry 2 = .ok (.lconst 0, 1) := by decide +kernel
theorem dX12_dry_3 : decode cX12_dry 3 = .ok (.ldc2_w 242, 3) := by decide +kernel
theorem dX12_dry_6 : decode cX12_dry 6 = .ok (.invokestatic 81, 3) := by decide +kernel
theorem dX12_dry_9 : decode cX12_dry 9 = .ok (.ifCond .eq 15, 3) := by decide +kernel
theorem dX12_dry_12 : decode cX12_dry 12 = .ok (.iload_n 2, 1) := by decide +kernel
theorem dX12_dry_13 : decode cX12_dry 13 = .ok (.i2l, 1) := by decide +kernel
theorem dX12_dry_14 : decode cX12_dry 14 = .ok (.lconst 0, 1) := by decide +kernel
theorem dX12_dry_15 : decode cX12_dry 15 = .ok (.ldc2_w 272, 3) := by decide +kernel
theorem dX12_dry_18 : decode cX12_dry 18 = .ok (.invokestatic 81, 3) := by decide +kernel
theorem dX12_dry_21 : decode cX12_dry 21 = .ok (.ifCond .ne 6, 3) := by decide +kernel
theorem dX12_dry_24 : decode cX12_dry 24 = .ok (.ldc 90, 2) := by decide +kernel
theorem dX12_dry_26 : decode cX12_dry 26 = .ok (.ireturn, 1) := by decide +kernel
theorem dX12_dry_27 : decode cX12_dry 27 = .ok (.ldc2_w 290, 3) := by decide +kernel
theorem dX12_dry_30 : decode cX12_dry 30 = .ok (.lstore_n 3, 1) := by decide +kernel
theorem dX12_dry_31 : decode cX12_dry 31 = .ok (.iconst 0, 1) := by decide +kernel
theorem dX12_dry_32 : decode cX12_dry 32 = .ok (.istore 5, 2) := by decide +kernel
theorem dX12_dry_34 : decode cX12_dry 34 = .ok (.iload 5, 2) := by decide +kernel
theorem dX12_dry_36 : decode cX12_dry 36 = .ok (.iload_n 1, 1) := by decide +kernel
theorem dX12_dry_37 : decode cX12_dry 37 = .ok (.if_icmp .ge 18, 3) := by decide +kernel
theorem dX12_dry_40 : decode cX12_dry 40 = .ok (.lload_n 3, 1) := by decide +kernel
theorem dX12_dry_41 : decode cX12_dry 41 = .ok (.iload_n 2, 1) := by decide +kernel
theorem dX12_dry_42 : decode cX12_dry 42 = .ok (.i2l, 1) := by decide +kernel
theorem dX12_dry_43 : decode cX12_dry 43 = .ok (.lmul, 1) := by decide +kernel
theorem dX12_dry_44 : decode cX12_dry 44 = .ok (.ldc2_w 272, 3) := by decide +kernel
theorem dX12_dry_47 : decode cX12_dry 47 = .ok (.ldiv, 1) := by decide +kernel
theorem dX12_dry_48 : decode cX12_dry 48 = .ok (.lstore_n 3, 1) := by decide +kernel
theorem dX12_dry_49 : decode cX12_dry 49 = .ok (.iinc 5 1, 3) := by decide +kernel
theorem dX12_dry_52 : decode cX12_dry 52 = .ok (.goto (-18), 3) := by decide +kernel
theorem dX12_dry_55 : decode cX12_dry 55 = .ok (.lload_n 3, 1) := by decide +kernel
theorem dX12_dry_56 : decode cX12_dry 56 = .ok (.l2i, 1) := by decide +kernel
theorem dX12_dry_57 : decode cX12_dry 57 = .ok (.ireturn, 1) := by decide +kernel
theorem dX12_hear_0 : decode cX12_hear 0 = .ok (.aload_n 0, 1) := by decide +kernel
theorem dX12_hear_1 : decode cX12_hear 1 = .ok (.iload_n 1, 1) := by decide +kernel
theorem dX12_hear_2 : decode cX12_hear 2 = .ok (.invokevirtual 226, 3) := by decide +kernel
theorem dX12_hear_5 : decode cX12_hear 5 = .ok (.ifCond .eq 16, 3) := by decide +kernel
theorem dX12_hear_8 : decode cX12_hear 8 = .ok (.iload_n 2, 1) := by decide +kernel
theorem dX12_hear_9 : decode cX12_hear 9 = .ok (.iconst (-1), 1) := by decide +kernel
theorem dX12_hear_10 : decode cX12_hear 10 = .ok (.if_icmp .eq 14, 3) := by decide +kernel
theorem dX12_hear_13 : decode cX12_hear 13 = .ok (.aload_n 0, 1) := by decide +kernel
theorem dX12_hear_14 : decode cX12_hear 14 = .ok (.iload_n 2, 1) := by decide +kernel
theorem dX12_hear_15 : decode cX12_hear 15 = .ok (.invokevirtual 222, 3) := by decide +kernel
theorem dX12_hear_18 : decode cX12_hear 18 = .ok (.ifCond .ne 6, 3) := by decide +kernel
theorem dX12_hear_21 : decode cX12_hear 21 = .ok (.ldc 225, 2) := by decide +kernel
theorem dX12_hear_23 : decode cX12_hear 23 = .ok (.ireturn, 1) := by decide +kernel
theorem dX12_hear_24 : decode cX12_hear 24 = .ok (.aload_n 0, 1) := by decide +kernel
theorem dX12_hear_25 : decode cX12_hear 25 = .ok (.getfield 154, 3) := by decide +kernel
theorem dX12_hear_28 : decode cX12_hear 28 = .ok (.bipush 6, 2) := by decide +kernel
theorem dX12_hear_30 : decode cX12_hear 30 = .ok (.if_icmp .ne 6, 3) := by decide +kernel
theorem dX12_hear_33 : decode cX12_hear 33 = .ok (.ldc 94, 2) := by decide +kernel
theorem dX12_hear_35 : decode cX12_hear 35 = .ok (.ireturn, 1) := by decide +kernel
theorem dX12_hear_36 : decode cX12_hear 36 = .ok (.aload_n 0, 1) := by decide +kernel
theorem dX12_hear_37 : decode cX12_hear 37 = .ok (.getfield 56, 3) := by decide +kernel
theorem dX12_hear_40 : decode cX12_hear 40 = .ok (.aload_n 0, 1) := by decide +kernel
theorem dX12_hear_41 : decode cX12_hear 41 = .ok (.getfield 154, 3) := by decide +kernel
theorem dX12_hear_44 : decode cX12_hear 44 = .ok (.iload_n 1, 1) := by decide +kernel
theorem dX12_hear_45 : decode cX12_hear 45 = .ok (.iastore, 1) := by decide +kernel
theorem dX12_hear_46 : decode cX12_hear 46 = .ok (.aload_n 0, 1) := by decide +kernel
theorem dX12_hear_47 : decode cX12_hear 47 = .ok (.getfield 59, 3) := by decide +kernel
theorem dX12_hear_50 : decode cX12_hear 50 = .ok (.aload_n 0, 1) := by decide +kernel
theorem dX12_hear_51 : decode cX12_hear 51 = .ok (.getfield 154, 3) := by decide +kernel
theorem dX12_hear_54 : decode cX12_hear 54 = .ok (.iload_n 2, 1) := by decide +kernel
theorem dX12_hear_55 : decode cX12_hear 55 = .ok (.iastore, 1) := by decide +kernel
theorem dX12_hear_56 : decode cX12_hear 56 = .ok (.aload_n 0, 1) := by decide +kernel
theorem dX12_hear_57 : decode cX12_hear 57 = .ok (.dup, 1) := by decide +kernel
theorem dX12_hear_58 : decode cX12_hear 58 = .ok (.getfield 154, 3) := by decide +kernel
theorem dX12_hear_61 : decode cX12_hear 61 = .ok (.iconst 1, 1) := by decide +kernel
theorem dX12_hear_62 : decode cX12_hear 62 = .ok (.iadd, 1) := by decide +kernel
theorem dX12_hear_63 : decode cX12_hear 63 = .ok (.putfield 154, 3) := by decide +kernel
theorem dX12_hear_66 : decode cX12_hear 66 = .ok (.aload_n 0, 1) := by decide +kernel
theorem dX12_hear_67 : decode cX12_hear 67 = .ok (.getfield 154, 3) := by decide +kernel
theorem dX12_hear_70 : decode cX12_hear 70 = .ok (.ireturn, 1) := by decide +kernel
theorem dX12_couldBe_0 : decode cX12_couldBe 0 = .ok (.iconst 1, 1) := by decide +kernel
theorem dX12_couldBe_1 : decode cX12_couldBe 1 = .ok (.istore_n 2, 1) := by decide +kernel
theorem dX12_couldBe_2 : decode cX12_couldBe 2 = .ok (.iconst 0, 1) := by decide +kernel
theorem dX12_couldBe_3 : decode cX12_couldBe 3 = .ok (.istore_n 3, 1) := by decide +kernel
theorem dX12_couldBe_4 : decode cX12_couldBe 4 = .ok (.iload_n 3, 1) := by decide +kernel
theorem dX12_couldBe_5 : decode cX12_couldBe 5 = .ok (.aload_n 0, 1) := by decide +kernel
theorem dX12_couldBe_6 : decode cX12_couldBe 6 = .ok (.getfield 154, 3) := by decide +kernel
theorem dX12_couldBe_9 : decode cX12_couldBe 9 = .ok (.if_icmp .ge 39, 3) := by decide +kernel
theorem dX12_couldBe_12 : decode cX12_couldBe 12 = .ok (.iload_n 2, 1) := by decide +kernel
theorem dX12_couldBe_13 : decode cX12_couldBe 13 = .ok (.ifCond .eq 35, 3) := by decide +kernel
theorem dX12_couldBe_16 : decode cX12_couldBe 16 = .ok (.aload_n 0, 1) := by decide +kernel
theorem dX12_couldBe_17 : decode cX12_couldBe 17 = .ok (.aload_n 0, 1) := by decide +kernel
theorem dX12_couldBe_18 : decode cX12_couldBe 18 = .ok (.getfield 56, 3) := by decide +kernel
theorem dX12_couldBe_21 : decode cX12_couldBe 21 = .ok (.iload_n 3, 1) := by decide +kernel
theorem dX12_couldBe_22 : decode cX12_couldBe 22 = .ok (.iaload, 1) := by decide +kernel
theorem dX12_couldBe_23 : decode cX12_couldBe 23 = .ok (.iload_n 1, 1) := by decide +kernel
theorem dX12_couldBe_24 : decode cX12_couldBe 24 = .ok (.invokevirtual 190, 3) := by decide +kernel
theorem dX12_couldBe_27 : decode cX12_couldBe 27 = .ok (.aload_n 0, 1) := by decide +kernel
theorem dX12_couldBe_28 : decode cX12_couldBe 28 = .ok (.getfield 59, 3) := by decide +kernel
theorem dX12_couldBe_31 : decode cX12_couldBe 31 = .ok (.iload_n 3, 1) := by decide +kernel
theorem dX12_couldBe_32 : decode cX12_couldBe 32 = .ok (.iaload, 1) := by decide +kernel
theorem dX12_couldBe_33 : decode cX12_couldBe 33 = .ok (.if_icmp .ne 7, 3) := by decide +kernel
theorem dX12_couldBe_36 : decode cX12_couldBe 36 = .ok (.iconst 1, 1) := by decide +kernel
theorem dX12_couldBe_37 : decode cX12_couldBe 37 = .ok (.goto 4, 3) := by decide +kernel
theorem dX12_couldBe_40 : decode cX12_couldBe 40 = .ok (.iconst 0, 1) := by decide +kernel
theorem dX12_couldBe_41 : decode cX12_couldBe 41 = .ok (.istore_n 2, 1) := by decide +kernel
theorem dX12_couldBe_42 : decode cX12_couldBe 42 = .ok (.iinc 3 1, 3) := by decide +kernel
theorem dX12_couldBe_45 : decode cX12_couldBe 45 = .ok (.goto (-41), 3) := by decide +kernel
theorem dX12_couldBe_48 : decode cX12_couldBe 48 = .ok (.iload_n 2, 1) := by decide +kernel
theorem dX12_couldBe_49 : decode cX12_couldBe 49 = .ok (.ireturn, 1) := by decide +kernel
theorem dX12_rains_0 : decode cX12_rains 0 = .ok (.iload_n 1, 1) := by decide +kernel
theorem dX12_rains_1 : decode cX12_rains 1 = .ok (.i2l, 1) := by decide +kernel
theorem dX12_rains_2 : decode cX12_rains 2 = .ok (.lconst 0, 1) := by decide +kernel
theorem dX12_rains_3 : decode cX12_rains 3 = .ok (.ldc2_w 274, 3) := by decide +kernel
theorem dX12_rains_6 : decode cX12_rains 6 = .ok (.invokestatic 81, 3) := by decide +kernel
theorem dX12_rains_9 : decode cX12_rains 9 = .ok (.ifCond .ne 6, 3) := by decide +kernel
theorem dX12_rains_12 : decode cX12_rains 12 = .ok (.ldc 90, 2) := by decide +kernel
theorem dX12_rains_14 : decode cX12_rains 14 = .ok (.ireturn, 1) := by decide +kernel
theorem dX12_rains_15 : decode cX12_rains 15 = .ok (.iconst 0, 1) := by decide +kernel
theorem dX12_rains_16 : decode cX12_rains 16 = .ok (.istore_n 2, 1) := by decide +kernel
theorem dX12_rains_17 : decode cX12_rains 17 = .ok (.iconst (-1), 1) := by decide +kernel
theorem dX12_rains_18 : decode cX12_rains 18 = .ok (.istore_n 3, 1) := by decide +kernel
theorem dX12_rains_19 : decode cX12_rains 19 = .ok (.iconst (-1), 1) := by decide +kernel
theorem dX12_rains_20 : decode cX12_rains 20 = .ok (.istore 4, 2) := by decide +kernel
theorem dX12_rains_22 : decode cX12_rains 22 = .ok (.iconst 0, 1) := by decide +kernel
theorem dX12_rains_23 : decode cX12_rains 23 = .ok (.istore 5, 2) := by decide +kernel
theorem dX12_rains_25 : decode cX12_rains 25 = .ok (.iload 5, 2) := by decide +kernel
theorem dX12_rains_27 : decode cX12_rains 27 = .ok (.bipush 60, 2) := by decide +kernel
theorem dX12_rains_29 : decode cX12_rains 29 = .ok (.if_icmp .gt 36, 3) := by decide +kernel
theorem dX12_rains_32 : decode cX12_rains 32 = .ok (.aload_n 0, 1) := by decide +kernel
theorem dX12_rains_33 : decode cX12_rains 33 = .ok (.iload 5, 2) := by decide +kernel
theorem dX12_rains_35 : decode cX12_rains 35 = .ok (.invokevirtual 292, 3) := by decide +kernel
theorem dX12_rains_38 : decode cX12_rains 38 = .ok (.ifCond .eq 21, 3) := by decide +kernel
theorem dX12_rains_41 : decode cX12_rains 41 = .ok (.iload_n 2, 1) := by decide +kernel
theorem dX12_rains_42 : decode cX12_rains 42 = .ok (.ifCond .ne 8, 3) := by decide +kernel
theorem dX12_rains_45 : decode cX12_rains 45 = .ok (.iload 5, 2) := by decide +kernel
theorem dX12_rains_47 : decode cX12_rains 47 = .ok (.goto 4, 3) := by decide +kernel
theorem dX12_rains_50 : decode cX12_rains 50 = .ok (.iload_n 3, 1) := by decide +kernel
theorem dX12_rains_51 : decode cX12_rains 51 = .ok (.istore_n 3, 1) := by decide +kernel
theorem dX12_rains_52 : decode cX12_rains 52 = .ok (.iload 5, 2) := by decide +kernel
theorem dX12_rains_54 : decode cX12_rains 54 = .ok (.istore 4, 2) := by decide +kernel
theorem dX12_rains_56 : decode cX12_rains 56 = .ok (.iinc 2 1, 3) := by decide +kernel
theorem dX12_rains_59 : decode cX12_rains 59 = .ok (.iinc 5 1, 3) := by decide +kernel
theorem dX12_rains_62 : decode cX12_rains 62 = .ok (.goto (-37), 3) := by decide +kernel
theorem dX12_rains_65 : decode cX12_rains 65 = .ok (.iload_n 1, 1) := by decide +kernel
theorem dX12_rains_66 : decode cX12_rains 66 = .ok (.ifCond .ne 7, 3) := by decide +kernel
theorem dX12_rains_69 : decode cX12_rains 69 = .ok (.iload_n 2, 1) := by decide +kernel
theorem dX12_rains_70 : decode cX12_rains 70 = .ok (.goto 14, 3) := by decide +kernel
theorem dX12_rains_73 : decode cX12_rains 73 = .ok (.iload_n 1, 1) := by decide +kernel
theorem dX12_rains_74 : decode cX12_rains 74 = .ok (.iconst 1, 1) := by decide +kernel
theorem dX12_rains_75 : decode cX12_rains 75 = .ok (.if_icmp .ne 7, 3) := by decide +kernel
theorem dX12_rains_78 : decode cX12_rains 78 = .ok (.iload_n 3, 1) := by decide +kernel
theorem dX12_rains_79 : decode cX12_rains 79 = .ok (.goto 5, 3) := by decide +kernel
theorem dX12_rains_82 : decode cX12_rains 82 = .ok (.iload 4, 2) := by decide +kernel
theorem dX12_rains_84 : decode cX12_rains 84 = .ok (.ireturn, 1) := by decide +kernel
theorem dX12_greatestPart_0 : decode cX12_greatestPart 0 = .ok (.iconst 0, 1) := by decide +kernel
theorem dX12_greatestPart_1 : decode cX12_greatestPart 1 = .ok (.istore_n 2, 1) := by decide +kernel
theorem dX12_greatestPart_2 : decode cX12_greatestPart 2 = .ok (.iconst 0, 1) := by decide +kernel
theorem dX12_greatestPart_3 : decode cX12_greatestPart 3 = .ok (.istore_n 3, 1) := by decide +kernel
theorem dX12_greatestPart_4 : decode cX12_greatestPart 4 = .ok (.iload_n 3, 1) := by decide +kernel
theorem dX12_greatestPart_5 : decode cX12_greatestPart 5 = .ok (.bipush 21, 2) := by decide +kernel
theorem dX12_greatestPart_7 : decode cX12_greatestPart 7 = .ok (.if_icmp .ge 16, 3) := by decide +kernel
theorem dX12_greatestPart_10 : decode cX12_greatestPart 10 = .ok (.aload_n 0, 1) := by decide +kernel
theorem dX12_greatestPart_11 : decode cX12_greatestPart 11 = .ok (.getfield 62, 3) := by decide +kernel
theorem dX12_greatestPart_14 : decode cX12_greatestPart 14 = .ok (.iload_n 3, 1) := by decide +kernel
theorem dX12_greatestPart_15 : decode cX12_greatestPart 15 = .ok (.iconst 0, 1) := by decide +kernel
theorem dX12_greatestPart_16 : decode cX12_greatestPart 16 = .ok (.iastore, 1) := by decide +kernel
theorem dX12_greatestPart_17 : decode cX12_greatestPart 17 = .ok (.iinc 3 1, 3) := by decide +kernel
theorem dX12_greatestPart_20 : decode cX12_greatestPart 20 = .ok (.goto (-16), 3) := by decide +kernel
theorem dX12_greatestPart_23 : decode cX12_greatestPart 23 = .ok (.iconst 0, 1) := by decide +kernel
theorem dX12_greatestPart_24 : decode cX12_greatestPart 24 = .ok (.istore_n 3, 1) := by decide +kernel
theorem dX12_greatestPart_25 : decode cX12_greatestPart 25 = .ok (.iload_n 3, 1) := by decide +kernel
theorem dX12_greatestPart_26 : decode cX12_greatestPart 26 = .ok (.bipush 60, 2) := by decide +kernel
theorem dX12_greatestPart_28 : decode cX12_greatestPart 28 = .ok (.if_icmp .gt 61, 3) := by decide +kernel
theorem dX12_greatestPart_31 : decode cX12_greatestPart 31 = .ok (.aload_n 0, 1) := by decide +kernel
theorem dX12_greatestPart_32 : decode cX12_greatestPart 32 = .ok (.iload_n 3, 1) := by decide +kernel
theorem dX12_greatestPart_33 : decode cX12_greatestPart 33 = .ok (.invokevirtual 292, 3) := by decide +kernel
theorem dX12_greatestPart_36 : decode cX12_greatestPart 36 = .ok (.ifCond .eq 47, 3) := by decide +kernel
theorem dX12_greatestPart_39 : decode cX12_greatestPart 39 = .ok (.aload_n 0, 1) := by decide +kernel
theorem dX12_greatestPart_40 : decode cX12_greatestPart 40 = .ok (.iload_n 1, 1) := by decide +kernel
theorem dX12_greatestPart_41 : decode cX12_greatestPart 41 = .ok (.iload_n 3, 1) := by decide +kernel
theorem dX12_greatestPart_42 : decode cX12_greatestPart 42 = .ok (.invokevirtual 190, 3) := by decide +kernel
theorem dX12_greatestPart_45 : decode cX12_greatestPart 45 = .ok (.iconst 1, 1) := by decide +kernel
theorem dX12_greatestPart_46 : decode cX12_greatestPart 46 = .ok (.iadd, 1) := by decide +kernel
theorem dX12_greatestPart_47 : decode cX12_greatestPart 47 = .ok (.istore 4, 2) := by decide +kernel
theorem dX12_greatestPart_49 : decode cX12_greatestPart 49 = .ok (.aload_n 0, 1) := by decide +kernel
theorem dX12_greatestPart_50 : decode cX12_greatestPart 50 = .ok (.getfield 62, 3) := by decide +kernel
theorem dX12_greatestPart_53 : decode cX12_greatestPart 53 = .ok (.iload 4, 2) := by decide +kernel
theorem dX12_greatestPart_55 : decode cX12_greatestPart 55 = .ok (.dup2, 1) := by decide +kernel
theorem dX12_greatestPart_56 : decode cX12_greatestPart 56 = .ok (.iaload, 1) := by decide +kernel
theorem dX12_greatestPart_57 : decode cX12_greatestPart 57 = .ok (.iconst 1, 1) := by decide +kernel
theorem dX12_greatestPart_58 : decode cX12_greatestPart 58 = .ok (.iadd, 1) := by decide +kernel
theorem dX12_greatestPart_59 : decode cX12_greatestPart 59 = .ok (.iastore, 1) := by decide +kernel
theorem dX12_greatestPart_60 : decode cX12_greatestPart 60 = .ok (.aload_n 0, 1) := by decide +kernel
theorem dX12_greatestPart_61 : decode cX12_greatestPart 61 = .ok (.getfield 62, 3) := by decide +kernel
theorem dX12_greatestPart_64 : decode cX12_greatestPart 64 = .ok (.iload 4, 2) := by decide +kernel
theorem dX12_greatestPart_66 : decode cX12_greatestPart 66 = .ok (.iaload, 1) := by decide +kernel
theorem dX12_greatestPart_67 : decode cX12_greatestPart 67 = .ok (.iload_n 2, 1) := by decide +kernel
theorem dX12_greatestPart_68 : decode cX12_greatestPart 68 = .ok (.if_icmp .le 13, 3) := by decide +kernel
theorem dX12_greatestPart_71 : decode cX12_greatestPart 71 = .ok (.aload_n 0, 1) := by decide +kernel
theorem dX12_greatestPart_72 : decode cX12_greatestPart 72 = .ok (.getfield 62, 3) := by decide +kernel
theorem dX12_greatestPart_75 : decode cX12_greatestPart 75 = .ok (.iload 4, 2) := by decide +kernel
theorem dX12_greatestPart_77 : decode cX12_greatestPart 77 = .ok (.iaload, 1) := by decide +kernel
theorem dX12_greatestPart_78 : decode cX12_greatestPart 78 = .ok (.goto 4, 3) := by decide +kernel
theorem dX12_greatestPart_81 : decode cX12_greatestPart 81 = .ok (.iload_n 2, 1) := by decide +kernel
theorem dX12_greatestPart_82 : decode cX12_greatestPart 82 = .ok (.istore_n 2, 1) := by decide +kernel
theorem dX12_greatestPart_83 : decode cX12_greatestPart 83 = .ok (.iinc 3 1, 3) := by decide +kernel
theorem dX12_greatestPart_86 : decode cX12_greatestPart 86 = .ok (.goto (-61), 3) := by decide +kernel
theorem dX12_greatestPart_89 : decode cX12_greatestPart 89 = .ok (.iload_n 2, 1) := by decide +kernel
theorem dX12_greatestPart_90 : decode cX12_greatestPart 90 = .ok (.ireturn, 1) := by decide +kernel
theorem dX12_send_0 : decode cX12_send 0 = .ok (.iconst (-1), 1) := by decide +kernel
theorem dX12_send_1 : decode cX12_send 1 = .ok (.istore_n 1, 1) := by decide +kernel
theorem dX12_send_2 : decode cX12_send 2 = .ok (.aload_n 0, 1) := by decide +kernel
theorem dX12_send_3 : decode cX12_send 3 = .ok (.iconst 0, 1) := by decide +kernel
theorem dX12_send_4 : decode cX12_send 4 = .ok (.invokevirtual 295, 3) := by decide +kernel
theorem dX12_send_7 : decode cX12_send 7 = .ok (.istore_n 2, 1) := by decide +kernel
theorem dX12_send_8 : decode cX12_send 8 = .ok (.iconst 0, 1) := by decide +kernel
theorem dX12_send_9 : decode cX12_send 9 = .ok (.istore_n 3, 1) := by decide +kernel
theorem dX12_send_10 : decode cX12_send 10 = .ok (.iload_n 3, 1) := by decide +kernel
theorem dX12_send_11 : decode cX12_send 11 = .ok (.aload_n 0, 1) := by decide +kernel
theorem dX12_send_12 : decode cX12_send 12 = .ok (.getfield 85, 3) := by decide +kernel
theorem dX12_send_15 : decode cX12_send 15 = .ok (.if_icmp .ge 41, 3) := by decide +kernel
theorem dX12_send_18 : decode cX12_send 18 = .ok (.aload_n 0, 1) := by decide +kernel
theorem dX12_send_19 : decode cX12_send 19 = .ok (.iload_n 3, 1) := by decide +kernel
theorem dX12_send_20 : decode cX12_send 20 = .ok (.invokevirtual 298, 3) := by decide +kernel
theorem dX12_send_23 : decode cX12_send 23 = .ok (.istore 4, 2) := by decide +kernel
theorem dX12_send_25 : decode cX12_send 25 = .ok (.iload 4, 2) := by decide +kernel
theorem dX12_send_27 : decode cX12_send 27 = .ok (.iload_n 2, 1) := by decide +kernel
theorem dX12_send_28 : decode cX12_send 28 = .ok (.if_icmp .ge 7, 3) := by decide +kernel
theorem dX12_send_31 : decode cX12_send 31 = .ok (.iload_n 3, 1) := by decide +kernel
theorem dX12_send_32 : decode cX12_send 32 = .ok (.goto 4, 3) := by decide +kernel
theorem dX12_send_35 : decode cX12_send 35 = .ok (.iload_n 1, 1) := by decide +kernel
theorem dX12_send_36 : decode cX12_send 36 = .ok (.istore_n 1, 1) := by decide +kernel
theorem dX12_send_37 : decode cX12_send 37 = .ok (.iload 4, 2) := by decide +kernel
theorem dX12_send_39 : decode cX12_send 39 = .ok (.iload_n 2, 1) := by decide +kernel
theorem dX12_send_40 : decode cX12_send 40 = .ok (.if_icmp .ge 8, 3) := by decide +kernel
theorem dX12_send_43 : decode cX12_send 43 = .ok (.iload 4, 2) := by decide +kernel
theorem dX12_send_45 : decode cX12_send 45 = .ok (.goto 4, 3) := by decide +kernel
theorem dX12_send_48 : decode cX12_send 48 = .ok (.iload_n 2, 1) := by decide +kernel
theorem dX12_send_49 : decode cX12_send 49 = .ok (.istore_n 2, 1) := by decide +kernel
theorem dX12_send_50 : decode cX12_send 50 = .ok (.iinc 3 1, 3) := by decide +kernel
theorem dX12_send_53 : decode cX12_send 53 = .ok (.goto (-43), 3) := by decide +kernel
theorem dX12_send_56 : decode cX12_send 56 = .ok (.iload_n 1, 1) := by decide +kernel
theorem dX12_send_57 : decode cX12_send 57 = .ok (.ireturn, 1) := by decide +kernel
theorem dX12_write_0 : decode cX12_write 0 = .ok (.aload_n 0, 1) := by decide +kernel
theorem dX12_write_1 : decode cX12_write 1 = .ok (.iload_n 1, 1) := by decide +kernel
theorem dX12_write_2 : decode cX12_write 2 = .ok (.invokevirtual 222, 3) := by decide +kernel
theorem dX12_write_5 : decode cX12_write 5 = .ok (.ifCond .ne 6, 3) := by decide +kernel
theorem dX12_write_8 : decode cX12_write 8 = .ok (.ldc 225, 2) := by decide +kernel
theorem dX12_write_10 : decode cX12_write 10 = .ok (.ireturn, 1) := by decide +kernel
theorem dX12_write_11 : decode cX12_write 11 = .ok (.iload_n 2, 1) := by decide +kernel
theorem dX12_write_12 : decode cX12_write 12 = .ok (.i2l, 1) := by decide +kernel
theorem dX12_write_13 : decode cX12_write 13 = .ok (.ldc2_w 301, 3) := by decide +kernel
theorem dX12_write_16 : decode cX12_write 16 = .ok (.ldc2_w 303, 3) := by decide +kernel
theorem dX12_write_19 : decode cX12_write 19 = .ok (.invokestatic 81, 3) := by decide +kernel
theorem dX12_write_22 : decode cX12_write 22 = .ok (.ifCond .ne 6, 3) := by decide +kernel
theorem dX12_write_25 : decode cX12_write 25 = .ok (.ldc 90, 2) := by decide +kernel
theorem dX12_write_27 : decode cX12_write 27 = .ok (.ireturn, 1) := by decide +kernel
theorem dX12_write_28 : decode cX12_write 28 = .ok (.aload_n 0, 1) := by decide +kernel
theorem dX12_write_29 : decode cX12_write 29 = .ok (.getfield 157, 3) := by decide +kernel
theorem dX12_write_32 : decode cX12_write 32 = .ok (.bipush 15, 2) := by decide +kernel
theorem dX12_write_34 : decode cX12_write 34 = .ok (.if_icmp .ne 6, 3) := by decide +kernel
theorem dX12_write_37 : decode cX12_write 37 = .ok (.ldc 94, 2) := by decide +kernel
theorem dX12_write_39 : decode cX12_write 39 = .ok (.ireturn, 1) := by decide +kernel
theorem dX12_write_40 : decode cX12_write 40 = .ok (.aload_n 0, 1) := by decide +kernel
theorem dX12_write_41 : decode cX12_write 41 = .ok (.getfield 65, 3) := by decide +kernel
theorem dX12_write_44 : decode cX12_write 44 = .ok (.aload_n 0, 1) := by decide +kernel
theorem dX12_write_45 : decode cX12_write 45 = .ok (.getfield 157, 3) := by decide +kernel
theorem dX12_write_48 : decode cX12_write 48 = .ok (.iload_n 1, 1) := by decide +kernel
theorem dX12_write_49 : decode cX12_write 49 = .ok (.iastore, 1) := by decide +kernel
theorem dX12_write_50 : decode cX12_write 50 = .ok (.aload_n 0, 1) := by decide +kernel
theorem dX12_write_51 : decode cX12_write 51 = .ok (.getfield 68, 3) := by decide +kernel
theorem dX12_write_54 : decode cX12_write 54 = .ok (.aload_n 0, 1) := by decide +kernel
theorem dX12_write_55 : decode cX12_write 55 = .ok (.getfield 157, 3) := by decide +kernel
theorem dX12_write_58 : decode cX12_write 58 = .ok (.iload_n 2, 1) := by decide +kernel
theorem dX12_write_59 : decode cX12_write 59 = .ok (.iastore, 1) := by decide +kernel
theorem dX12_write_60 : decode cX12_write 60 = .ok (.aload_n 0, 1) := by decide +kernel
theorem dX12_write_61 : decode cX12_write 61 = .ok (.dup, 1) := by decide +kernel
theorem dX12_write_62 : decode cX12_write 62 = .ok (.getfield 157, 3) := by decide +kernel
theorem dX12_write_65 : decode cX12_write 65 = .ok (.iconst 1, 1) := by decide +kernel
theorem dX12_write_66 : decode cX12_write 66 = .ok (.iadd, 1) := by decide +kernel
theorem dX12_write_67 : decode cX12_write 67 = .ok (.putfield 157, 3) := by decide +kernel
theorem dX12_write_70 : decode cX12_write 70 = .ok (.aload_n 0, 1) := by decide +kernel
theorem dX12_write_71 : decode cX12_write 71 = .ok (.getfield 157, 3) := by decide +kernel
theorem dX12_write_74 : decode cX12_write 74 = .ok (.ireturn, 1) := by decide +kernel
theorem dX12_tear_0 : decode cX12_tear 0 = .ok (.aload_n 0, 1) := by decide +kernel
theorem dX12_tear_1 : decode cX12_tear 1 = .ok (.getfield 154, 3) := by decide +kernel
theorem dX12_tear_4 : decode cX12_tear 4 = .ok (.aload_n 0, 1) := by decide +kernel
theorem dX12_tear_5 : decode cX12_tear 5 = .ok (.getfield 157, 3) := by decide +kernel
theorem dX12_tear_8 : decode cX12_tear 8 = .ok (.iadd, 1) := by decide +kernel
theorem dX12_tear_9 : decode cX12_tear 9 = .ok (.istore_n 1, 1) := by decide +kernel
theorem dX12_tear_10 : decode cX12_tear 10 = .ok (.aload_n 0, 1) := by decide +kernel
theorem dX12_tear_11 : decode cX12_tear 11 = .ok (.iconst 0, 1) := by decide +kernel
theorem dX12_tear_12 : decode cX12_tear 12 = .ok (.putfield 154, 3) := by decide +kernel
theorem dX12_tear_15 : decode cX12_tear 15 = .ok (.aload_n 0, 1) := by decide +kernel
theorem dX12_tear_16 : decode cX12_tear 16 = .ok (.iconst 0, 1) := by decide +kernel
theorem dX12_tear_17 : decode cX12_tear 17 = .ok (.putfield 157, 3) := by decide +kernel
theorem dX12_tear_20 : decode cX12_tear 20 = .ok (.iload_n 1, 1) := by decide +kernel
theorem dX12_tear_21 : decode cX12_tear 21 = .ok (.ireturn, 1) := by decide +kernel
theorem dX12_judge_0 : decode cX12_judge 0 = .ok (.iconst 0, 1) := by decide +kernel
theorem dX12_judge_1 : decode cX12_judge 1 = .ok (.istore_n 1, 1) := by decide +kernel
theorem dX12_judge_2 : decode cX12_judge 2 = .ok (.iload_n 1, 1) := by decide +kernel
theorem dX12_judge_3 : decode cX12_judge 3 = .ok (.aload_n 0, 1) := by decide +kernel
theorem dX12_judge_4 : decode cX12_judge 4 = .ok (.getfield 157, 3) := by decide +kernel
theorem dX12_judge_7 : decode cX12_judge 7 = .ok (.if_icmp .ge 31, 3) := by decide +kernel
theorem dX12_judge_10 : decode cX12_judge 10 = .ok (.aload_n 0, 1) := by decide +kernel
theorem dX12_judge_11 : decode cX12_judge 11 = .ok (.aload_n 0, 1) := by decide +kernel
theorem dX12_judge_12 : decode cX12_judge 12 = .ok (.getfield 65, 3) := by decide +kernel
theorem dX12_judge_15 : decode cX12_judge 15 = .ok (.iload_n 1, 1) := by decide +kernel
theorem dX12_judge_16 : decode cX12_judge 16 = .ok (.iaload, 1) := by decide +kernel
theorem dX12_judge_17 : decode cX12_judge 17 = .ok (.iconst 4, 1) := by decide +kernel
theorem dX12_judge_18 : decode cX12_judge 18 = .ok (.invokevirtual 305, 3) := by decide +kernel
theorem dX12_judge_21 : decode cX12_judge 21 = .ok (.aload_n 0, 1) := by decide +kernel
theorem dX12_judge_22 : decode cX12_judge 22 = .ok (.getfield 68, 3) := by decide +kernel
theorem dX12_judge_25 : decode cX12_judge 25 = .ok (.iload_n 1, 1) := by decide +kernel
theorem dX12_judge_26 : decode cX12_judge 26 = .ok (.iaload, 1) := by decide +kernel
theorem dX12_judge_27 : decode cX12_judge 27 = .ok (.if_icmp .eq 5, 3) := by decide +kernel
theorem dX12_judge_30 : decode cX12_judge 30 = .ok (.iload_n 1, 1) := by decide +kernel
theorem dX12_judge_31 : decode cX12_judge 31 = .ok (.ireturn, 1) := by decide +kernel
theorem dX12_judge_32 : decode cX12_judge 32 = .ok (.iinc 1 1, 3) := by decide +kernel
theorem dX12_judge_35 : decode cX12_judge 35 = .ok (.goto (-33), 3) := by decide +kernel
theorem dX12_judge_38 : decode cX12_judge 38 = .ok (.iconst (-1), 1) := by decide +kernel
theorem dX12_judge_39 : decode cX12_judge 39 = .ok (.ireturn, 1) := by decide +kernel
theorem dX12_seed_0 : decode cX12_seed 0 = .ok (.iload_n 1, 1) := by decide +kernel
theorem dX12_seed_1 : decode cX12_seed 1 = .ok (.ifCond .ge 6, 3) := by decide +kernel
theorem dX12_seed_4 : decode cX12_seed 4 = .ok (.ldc 90, 2) := by decide +kernel
theorem dX12_seed_6 : decode cX12_seed 6 = .ok (.ireturn, 1) := by decide +kernel
theorem dX12_seed_7 : decode cX12_seed 7 = .ok (.aload_n 0, 1) := by decide +kernel
theorem dX12_seed_8 : decode cX12_seed 8 = .ok (.getfield 256, 3) := by decide +kernel
theorem dX12_seed_11 : decode cX12_seed 11 = .ok (.istore_n 2, 1) := by decide +kernel
theorem dX12_seed_12 : decode cX12_seed 12 = .ok (.aload_n 0, 1) := by decide +kernel
theorem dX12_seed_13 : decode cX12_seed 13 = .ok (.iload_n 1, 1) := by decide +kernel
theorem dX12_seed_14 : decode cX12_seed 14 = .ok (.putfield 256, 3) := by decide +kernel
theorem dX12_seed_17 : decode cX12_seed 17 = .ok (.iload_n 2, 1) := by decide +kernel
theorem dX12_seed_18 : decode cX12_seed 18 = .ok (.ireturn, 1) := by decide +kernel
theorem dX12_keep_0 : decode cX12_keep 0 = .ok (.iload_n 1, 1) := by decide +kernel
theorem dX12_keep_1 : decode cX12_keep 1 = .ok (.i2l, 1) := by decide +kernel
theorem dX12_keep_2 : decode cX12_keep 2 = .ok (.lconst 0, 1) := by decide +kernel
theorem dX12_keep_3 : decode cX12_keep 3 = .ok (.lconst 1, 1) := by decide +kernel
theorem dX12_keep_4 : decode cX12_keep 4 = .ok (.invokestatic 81, 3) := by decide +kernel
theorem dX12_keep_7 : decode cX12_keep 7 = .ok (.ifCond .ne 6, 3) := by decide +kernel
theorem dX12_keep_10 : decode cX12_keep 10 = .ok (.ldc 225, 2) := by decide +kernel
theorem dX12_keep_12 : decode cX12_keep 12 = .ok (.ireturn, 1) := by decide +kernel
theorem dX12_keep_13 : decode cX12_keep 13 = .ok (.iconst 0, 1) := by decide +kernel
theorem dX12_keep_14 : decode cX12_keep 14 = .ok (.istore_n 2, 1) := by decide +kernel
theorem dX12_keep_15 : decode cX12_keep 15 = .ok (.iload_n 2, 1) := by decide +kernel
theorem dX12_keep_16 : decode cX12_keep 16 = .ok (.bipush 106, 2) := by decide +kernel
theorem dX12_keep_18 : decode cX12_keep 18 = .ok (.if_icmp .ge 26, 3) := by decide +kernel
theorem dX12_keep_21 : decode cX12_keep 21 = .ok (.aload_n 0, 1) := by decide +kernel
theorem dX12_keep_22 : decode cX12_keep 22 = .ok (.getfield 71, 3) := by decide +kernel
theorem dX12_keep_25 : decode cX12_keep 25 = .ok (.bipush 107, 2) := by decide +kernel
theorem dX12_keep_27 : decode cX12_keep 27 = .ok (.iload_n 1, 1) := by decide +kernel
theorem dX12_keep_28 : decode cX12_keep 28 = .ok (.imul, 1) := by decide +kernel
theorem dX12_keep_29 : decode cX12_keep 29 = .ok (.iload_n 2, 1) := by decide +kernel
theorem dX12_keep_30 : decode cX12_keep 30 = .ok (.iadd, 1) := by decide +kernel
theorem dX12_keep_31 : decode cX12_keep 31 = .ok (.aload_n 0, 1) := by decide +kernel
theorem dX12_keep_32 : decode cX12_keep 32 = .ok (.getfield 25, 3) := by decide +kernel
theorem dX12_keep_35 : decode cX12_keep 35 = .ok (.iload_n 2, 1) := by decide +kernel
theorem dX12_keep_36 : decode cX12_keep 36 = .ok (.iaload, 1) := by decide +kernel
theorem dX12_keep_37 : decode cX12_keep 37 = .ok (.iastore, 1) := by decide +kernel
theorem dX12_keep_38 : decode cX12_keep 38 = .ok (.iinc 2 1, 3) := by decide +kernel
theorem dX12_keep_41 : decode cX12_keep 41 = .ok (.goto (-26), 3) := by decide +kernel
theorem dX12_keep_44 : decode cX12_keep 44 = .ok (.aload_n 0, 1) := by decide +kernel
theorem dX12_keep_45 : decode cX12_keep 45 = .ok (.getfield 71, 3) := by decide +kernel
theorem dX12_keep_48 : decode cX12_keep 48 = .ok (.bipush 107, 2) := by decide +kernel
theorem dX12_keep_50 : decode cX12_keep 50 = .ok (.iload_n 1, 1) := by decide +kernel
theorem dX12_keep_51 : decode cX12_keep 51 = .ok (.imul, 1) := by decide +kernel
theorem dX12_keep_52 : decode cX12_keep 52 = .ok (.bipush 106, 2) := by decide +kernel
theorem dX12_keep_54 : decode cX12_keep 54 = .ok (.iadd, 1) := by decide +kernel
theorem dX12_keep_55 : decode cX12_keep 55 = .ok (.aload_n 0, 1) := by decide +kernel
theorem dX12_keep_56 : decode cX12_keep 56 = .ok (.getfield 256, 3) := by decide +kernel
theorem dX12_keep_59 : decode cX12_keep 59 = .ok (.iastore, 1) := by decide +kernel
theorem dX12_keep_60 : decode cX12_keep 60 = .ok (.aload_n 0, 1) := by decide +kernel
theorem dX12_keep_61 : decode cX12_keep 61 = .ok (.getfield 74, 3) := by decide +kernel
theorem dX12_keep_64 : decode cX12_keep 64 = .ok (.iload_n 1, 1) := by decide +kernel
theorem dX12_keep_65 : decode cX12_keep 65 = .ok (.iconst 1, 1) := by decide +kernel
theorem dX12_keep_66 : decode cX12_keep 66 = .ok (.bastore, 1) := by decide +kernel
theorem dX12_keep_67 : decode cX12_keep 67 = .ok (.aload_n 0, 1) := by decide +kernel
theorem dX12_keep_68 : decode cX12_keep 68 = .ok (.iconst 0, 1) := by decide +kernel
theorem dX12_keep_69 : decode cX12_keep 69 = .ok (.putfield 160, 3) := by decide +kernel
theorem dX12_keep_72 : decode cX12_keep 72 = .ok (.iconst 1, 1) := by decide +kernel
theorem dX12_keep_73 : decode cX12_keep 73 = .ok (.ireturn, 1) := by decide +kernel
theorem dX12_goBack_0 : decode cX12_goBack 0 = .ok (.iload_n 1, 1) := by decide +kernel
theorem dX12_goBack_1 : decode cX12_goBack 1 = .ok (.i2l, 1) := by decide +kernel
theorem dX12_goBack_2 : decode cX12_goBack 2 = .ok (.lconst 0, 1) := by decide +kernel
theorem dX12_goBack_3 : decode cX12_goBack 3 = .ok (.lconst 1, 1) := by decide +kernel
theorem dX12_goBack_4 : decode cX12_goBack 4 = .ok (.invokestatic 81, 3) := by decide +kernel
theorem dX12_goBack_7 : decode cX12_goBack 7 = .ok (.ifCond .ne 6, 3) := by decide +kernel
theorem dX12_goBack_10 : decode cX12_goBack 10 = .ok (.ldc 225, 2) := by decide +kernel
theorem dX12_goBack_12 : decode cX12_goBack 12 = .ok (.ireturn, 1) := by decide +kernel
theorem dX12_goBack_13 : decode cX12_goBack 13 = .ok (.aload_n 0, 1) := by decide +kernel
theorem dX12_goBack_14 : decode cX12_goBack 14 = .ok (.getfield 74, 3) := by decide +kernel
theorem dX12_goBack_17 : decode cX12_goBack 17 = .ok (.iload_n 1, 1) := by decide +kernel
theorem dX12_goBack_18 : decode cX12_goBack 18 = .ok (.baload, 1) := by decide +kernel
theorem dX12_goBack_19 : decode cX12_goBack 19 = .ok (.ifCond .ne 6, 3) := by decide +kernel
theorem dX12_goBack_22 : decode cX12_goBack 22 = .ok (.ldc 232, 2) := by decide +kernel
theorem dX12_goBack_24 : decode cX12_goBack 24 = .ok (.ireturn, 1) := by decide +kernel
theorem dX12_goBack_25 : decode cX12_goBack 25 = .ok (.iconst 0, 1) := by decide +kernel
theorem dX12_goBack_26 : decode cX12_goBack 26 = .ok (.istore_n 2, 1) := by decide +kernel
theorem dX12_goBack_27 : decode cX12_goBack 27 = .ok (.iload_n 2, 1) := by decide +kernel
theorem dX12_goBack_28 : decode cX12_goBack 28 = .ok (.bipush 106, 2) := by decide +kernel
theorem dX12_goBack_30 : decode cX12_goBack 30 = .ok (.if_icmp .ge 26, 3) := by decide +kernel
theorem dX12_goBack_33 : decode cX12_goBack 33 = .ok (.aload_n 0, 1) := by decide +kernel
theorem dX12_goBack_34 : decode cX12_goBack 34 = .ok (.getfield 25, 3) := by decide +kernel
theorem dX12_goBack_37 : decode cX12_goBack 37 = .ok (.iload_n 2, 1) := by decide +kernel
theorem dX12_goBack_38 : decode cX12_goBack 38 = .ok (.aload_n 0, 1) := by decide +kernel
theorem dX12_goBack_39 : decode cX12_goBack 39 = .ok (.getfield 71, 3) := by decide +kernel
theorem dX12_goBack_42 : decode cX12_goBack 42 = .ok (.bipush 107, 2) := by decide +kernel
theorem dX12_goBack_44 : decode cX12_goBack 44 = .ok (.iload_n 1, 1) := by decide +kernel
theorem dX12_goBack_45 : decode cX12_goBack 45 = .ok (.imul, 1) := by decide +kernel
theorem dX12_goBack_46 : decode cX12_goBack 46 = .ok (.iload_n 2, 1) := by decide +kernel
theorem dX12_goBack_47 : decode cX12_goBack 47 = .ok (.iadd, 1) := by decide +kernel
theorem dX12_goBack_48 : decode cX12_goBack 48 = .ok (.iaload, 1) := by decide +kernel
theorem dX12_goBack_49 : decode cX12_goBack 49 = .ok (.iastore, 1) := by decide +kernel
theorem dX12_goBack_50 : decode cX12_goBack 50 = .ok (.iinc 2 1, 3) := by decide +kernel
theorem dX12_goBack_53 : decode cX12_goBack 53 = .ok (.goto (-26), 3) := by decide +kernel
theorem dX12_goBack_56 : decode cX12_goBack 56 = .ok (.aload_n 0, 1) := by decide +kernel
theorem dX12_goBack_57 : decode cX12_goBack 57 = .ok (.aload_n 0, 1) := by decide +kernel
theorem dX12_goBack_58 : decode cX12_goBack 58 = .ok (.getfield 71, 3) := by decide +kernel
theorem dX12_goBack_61 : decode cX12_goBack 61 = .ok (.bipush 107, 2) := by decide +kernel
theorem dX12_goBack_63 : decode cX12_goBack 63 = .ok (.iload_n 1, 1) := by decide +kernel
theorem dX12_goBack_64 : decode cX12_goBack 64 = .ok (.imul, 1) := by decide +kernel
theorem dX12_goBack_65 : decode cX12_goBack 65 = .ok (.bipush 106, 2) := by decide +kernel
theorem dX12_goBack_67 : decode cX12_goBack 67 = .ok (.iadd, 1) := by decide +kernel
theorem dX12_goBack_68 : decode cX12_goBack 68 = .ok (.iaload, 1) := by decide +kernel
theorem dX12_goBack_69 : decode cX12_goBack 69 = .ok (.putfield 256, 3) := by decide +kernel
theorem dX12_goBack_72 : decode cX12_goBack 72 = .ok (.aload_n 0, 1) := by decide +kernel
theorem dX12_goBack_73 : decode cX12_goBack 73 = .ok (.iconst 0, 1) := by decide +kernel
theorem dX12_goBack_74 : decode cX12_goBack 74 = .ok (.putfield 160, 3) := by decide +kernel
theorem dX12_goBack_77 : decode cX12_goBack 77 = .ok (.iconst 1, 1) := by decide +kernel
theorem dX12_goBack_78 : decode cX12_goBack 78 = .ok (.ireturn, 1) := by decide +kernel
theorem dJ6_bitCount_0f7a4_0 : decode cJ6_bitCount_0f7a4 0 = .ok (.iload_n 0, 1) := by decide +kernel
theorem dJ6_bitCount_0f7a4_1 : decode cJ6_bitCount_0f7a4 1 = .ok (.iload_n 0, 1) := by decide +kernel
theorem dJ6_bitCount_0f7a4_2 : decode cJ6_bitCount_0f7a4 2 = .ok (.iconst 1, 1) := by decide +kernel
theorem dJ6_bitCount_0f7a4_3 : decode cJ6_bitCount_0f7a4 3 = .ok (.iushr, 1) := by decide +kernel
theorem dJ6_bitCount_0f7a4_4 : decode cJ6_bitCount_0f7a4 4 = .ok (.ldc_w 265, 3) := by decide +kernel
theorem dJ6_bitCount_0f7a4_7 : decode cJ6_bitCount_0f7a4 7 = .ok (.iand, 1) := by decide +kernel
theorem dJ6_bitCount_0f7a4_8 : decode cJ6_bitCount_0f7a4 8 = .ok (.isub, 1) := by decide +kernel
theorem dJ6_bitCount_0f7a4_9 : decode cJ6_bitCount_0f7a4 9 = .ok (.istore_n 0, 1) := by decide +kernel
theorem dJ6_bitCount_0f7a4_10 : decode cJ6_bitCount_0f7a4 10 = .ok (.iload_n 0, 1) := by decide +kernel
theorem dJ6_bitCount_0f7a4_11 : decode cJ6_bitCount_0f7a4 11 = .ok (.ldc_w 266, 3) := by decide +kernel
theorem dJ6_bitCount_0f7a4_14 : decode cJ6_bitCount_0f7a4 14 = .ok (.iand, 1) := by decide +kernel
theorem dJ6_bitCount_0f7a4_15 : decode cJ6_bitCount_0f7a4 15 = .ok (.iload_n 0, 1) := by decide +kernel
theorem dJ6_bitCount_0f7a4_16 : decode cJ6_bitCount_0f7a4 16 = .ok (.iconst 2, 1) := by decide +kernel
theorem dJ6_bitCount_0f7a4_17 : decode cJ6_bitCount_0f7a4 17 = .ok (.iushr, 1) := by decide +kernel
theorem dJ6_bitCount_0f7a4_18 : decode cJ6_bitCount_0f7a4 18 = .ok (.ldc_w 266, 3) := by decide +kernel
theorem dJ6_bitCount_0f7a4_21 : decode cJ6_bitCount_0f7a4 21 = .ok (.iand, 1) := by decide +kernel
theorem dJ6_bitCount_0f7a4_22 : decode cJ6_bitCount_0f7a4 22 = .ok (.iadd, 1) := by decide +kernel
theorem dJ6_bitCount_0f7a4_23 : decode cJ6_bitCount_0f7a4 23 = .ok (.istore_n 0, 1) := by decide +kernel
theorem dJ6_bitCount_0f7a4_24 : decode cJ6_bitCount_0f7a4 24 = .ok (.iload_n 0, 1) := by decide +kernel
theorem dJ6_bitCount_0f7a4_25 : decode cJ6_bitCount_0f7a4 25 = .ok (.iload_n 0, 1) := by decide +kernel
theorem dJ6_bitCount_0f7a4_26 : decode cJ6_bitCount_0f7a4 26 = .ok (.iconst 4, 1) := by decide +kernel
theorem dJ6_bitCount_0f7a4_27 : decode cJ6_bitCount_0f7a4 27 = .ok (.iushr, 1) := by decide +kernel
theorem dJ6_bitCount_0f7a4_28 : decode cJ6_bitCount_0f7a4 28 = .ok (.iadd, 1) := by decide +kernel
theorem dJ6_bitCount_0f7a4_29 : decode cJ6_bitCount_0f7a4 29 = .ok (.ldc_w 267, 3) := by decide +kernel
theorem dJ6_bitCount_0f7a4_32 : decode cJ6_bitCount_0f7a4 32 = .ok (.iand, 1) := by decide +kernel
theorem dJ6_bitCount_0f7a4_33 : decode cJ6_bitCount_0f7a4 33 = .ok (.istore_n 0, 1) := by decide +kernel
theorem dJ6_bitCount_0f7a4_34 : decode cJ6_bitCount_0f7a4 34 = .ok (.iload_n 0, 1) := by decide +kernel
theorem dJ6_bitCount_0f7a4_35 : decode cJ6_bitCount_0f7a4 35 = .ok (.iload_n 0, 1) := by decide +kernel
theorem dJ6_bitCount_0f7a4_36 : decode cJ6_bitCount_0f7a4 36 = .ok (.bipush 8, 2) := by decide +kernel
theorem dJ6_bitCount_0f7a4_38 : decode cJ6_bitCount_0f7a4 38 = .ok (.iushr, 1) := by decide +kernel
theorem dJ6_bitCount_0f7a4_39 : decode cJ6_bitCount_0f7a4 39 = .ok (.iadd, 1) := by decide +kernel
theorem dJ6_bitCount_0f7a4_40 : decode cJ6_bitCount_0f7a4 40 = .ok (.istore_n 0, 1) := by decide +kernel
theorem dJ6_bitCount_0f7a4_41 : decode cJ6_bitCount_0f7a4 41 = .ok (.iload_n 0, 1) := by decide +kernel
theorem dJ6_bitCount_0f7a4_42 : decode cJ6_bitCount_0f7a4 42 = .ok (.iload_n 0, 1) := by decide +kernel
theorem dJ6_bitCount_0f7a4_43 : decode cJ6_bitCount_0f7a4 43 = .ok (.bipush 16, 2) := by decide +kernel
theorem dJ6_bitCount_0f7a4_45 : decode cJ6_bitCount_0f7a4 45 = .ok (.iushr, 1) := by decide +kernel
theorem dJ6_bitCount_0f7a4_46 : decode cJ6_bitCount_0f7a4 46 = .ok (.iadd, 1) := by decide +kernel
theorem dJ6_bitCount_0f7a4_47 : decode cJ6_bitCount_0f7a4 47 = .ok (.istore_n 0, 1) := by decide +kernel
theorem dJ6_bitCount_0f7a4_48 : decode cJ6_bitCount_0f7a4 48 = .ok (.iload_n 0, 1) := by decide +kernel
theorem dJ6_bitCount_0f7a4_49 : decode cJ6_bitCount_0f7a4 49 = .ok (.bipush 63, 2) := by decide +kernel
theorem dJ6_bitCount_0f7a4_51 : decode cJ6_bitCount_0f7a4 51 = .ok (.iand, 1) := by decide +kernel
theorem dJ6_bitCount_0f7a4_52 : decode cJ6_bitCount_0f7a4 52 = .ok (.ireturn, 1) := by decide +kernel
theorem dJ9_abs_0f7a4_0 : decode cJ9_abs_0f7a4 0 = .ok (.iload_n 0, 1) := by decide +kernel
theorem dJ9_abs_0f7a4_1 : decode cJ9_abs_0f7a4 1 = .ok (.ifCond .ge 8, 3) := by decide +kernel
theorem dJ9_abs_0f7a4_4 : decode cJ9_abs_0f7a4 4 = .ok (.iload_n 0, 1) := by decide +kernel
theorem dJ9_abs_0f7a4_5 : decode cJ9_abs_0f7a4 5 = .ok (.ineg, 1) := by decide +kernel
theorem dJ9_abs_0f7a4_6 : decode cJ9_abs_0f7a4 6 = .ok (.goto 4, 3) := by decide +kernel
theorem dJ9_abs_0f7a4_9 : decode cJ9_abs_0f7a4 9 = .ok (.iload_n 0, 1) := by decide +kernel
theorem dJ9_abs_0f7a4_10 : decode cJ9_abs_0f7a4 10 = .ok (.ireturn, 1) := by decide +kernel
theorem dJ9_max_7cf53_0 : decode cJ9_max_7cf53 0 = .ok (.iload_n 0, 1) := by decide +kernel
theorem dJ9_max_7cf53_1 : decode cJ9_max_7cf53 1 = .ok (.iload_n 1, 1) := by decide +kernel
theorem dJ9_max_7cf53_2 : decode cJ9_max_7cf53 2 = .ok (.if_icmp .lt 7, 3) := by decide +kernel
theorem dJ9_max_7cf53_5 : decode cJ9_max_7cf53 5 = .ok (.iload_n 0, 1) := by decide +kernel
theorem dJ9_max_7cf53_6 : decode cJ9_max_7cf53 6 = .ok (.goto 4, 3) := by decide +kernel
theorem dJ9_max_7cf53_9 : decode cJ9_max_7cf53 9 = .ok (.iload_n 1, 1) := by decide +kernel
theorem dJ9_max_7cf53_10 : decode cJ9_max_7cf53 10 = .ok (.ireturn, 1) := by decide +kernel
theorem dJ9_min_7cf53_0 : decode cJ9_min_7cf53 0 = .ok (.iload_n 0, 1) := by decide +kernel
theorem dJ9_min_7cf53_1 : decode cJ9_min_7cf53 1 = .ok (.iload_n 1, 1) := by decide +kernel
theorem dJ9_min_7cf53_2 : decode cJ9_min_7cf53 2 = .ok (.if_icmp .gt 7, 3) := by decide +kernel
theorem dJ9_min_7cf53_5 : decode cJ9_min_7cf53 5 = .ok (.iload_n 0, 1) := by decide +kernel
theorem dJ9_min_7cf53_6 : decode cJ9_min_7cf53 6 = .ok (.goto 4, 3) := by decide +kernel
theorem dJ9_min_7cf53_9 : decode cJ9_min_7cf53 9 = .ok (.iload_n 1, 1) := by decide +kernel
theorem dJ9_min_7cf53_10 : decode cJ9_min_7cf53 10 = .ok (.ireturn, 1) := by decide +kernel
theorem dJ7_fill_53178_0 : decode cJ7_fill_53178 0 = .ok (.iconst 0, 1) := by decide +kernel
theorem dJ7_fill_53178_1 : decode cJ7_fill_53178 1 = .ok (.istore_n 2, 1) := by decide +kernel
theorem dJ7_fill_53178_2 : decode cJ7_fill_53178 2 = .ok (.aload_n 0, 1) := by decide +kernel
theorem dJ7_fill_53178_3 : decode cJ7_fill_53178 3 = .ok (.arraylength, 1) := by decide +kernel
theorem dJ7_fill_53178_4 : decode cJ7_fill_53178 4 = .ok (.istore_n 3, 1) := by decide +kernel
theorem dJ7_fill_53178_5 : decode cJ7_fill_53178 5 = .ok (.iload_n 2, 1) := by decide +kernel
theorem dJ7_fill_53178_6 : decode cJ7_fill_53178 6 = .ok (.iload_n 3, 1) := by decide +kernel
theorem dJ7_fill_53178_7 : decode cJ7_fill_53178 7 = .ok (.if_icmp .ge 13, 3) := by decide +kernel
theorem dJ7_fill_53178_10 : decode cJ7_fill_53178 10 = .ok (.aload_n 0, 1) := by decide +kernel
theorem dJ7_fill_53178_11 : decode cJ7_fill_53178 11 = .ok (.iload_n 2, 1) := by decide +kernel
theorem dJ7_fill_53178_12 : decode cJ7_fill_53178 12 = .ok (.iload_n 1, 1) := by decide +kernel
theorem dJ7_fill_53178_13 : decode cJ7_fill_53178 13 = .ok (.iastore, 1) := by decide +kernel
theorem dJ7_fill_53178_14 : decode cJ7_fill_53178 14 = .ok (.iinc 2 1, 3) := by decide +kernel
theorem dJ7_fill_53178_17 : decode cJ7_fill_53178 17 = .ok (.goto (-12), 3) := by decide +kernel
theorem dJ7_fill_53178_20 : decode cJ7_fill_53178 20 = .ok (.return_, 1) := by decide +kernel
theorem dL_law_0 : decode cL_law 0 = .ok (.new 7, 3) := by decide +kernel
theorem dL_law_3 : decode cL_law 3 = .ok (.dup, 1) := by decide +kernel
theorem dL_law_4 : decode cL_law 4 = .ok (.invokespecial 9, 3) := by decide +kernel
theorem dL_law_7 : decode cL_law 7 = .ok (.astore_n 1, 1) := by decide +kernel
theorem dL_law_8 : decode cL_law 8 = .ok (.new 10, 3) := by decide +kernel
theorem dL_law_11 : decode cL_law 11 = .ok (.dup, 1) := by decide +kernel
theorem dL_law_12 : decode cL_law 12 = .ok (.invokespecial 12, 3) := by decide +kernel
theorem dL_law_15 : decode cL_law 15 = .ok (.astore_n 2, 1) := by decide +kernel
theorem dL_law_16 : decode cL_law 16 = .ok (.iconst 0, 1) := by decide +kernel
theorem dL_law_17 : decode cL_law 17 = .ok (.istore_n 3, 1) := by decide +kernel
theorem dL_law_18 : decode cL_law 18 = .ok (.iload_n 3, 1) := by decide +kernel
theorem dL_law_19 : decode cL_law 19 = .ok (.aload_n 0, 1) := by decide +kernel
theorem dL_law_20 : decode cL_law 20 = .ok (.arraylength, 1) := by decide +kernel
theorem dL_law_21 : decode cL_law 21 = .ok (.iconst 4, 1) := by decide +kernel
theorem dL_law_22 : decode cL_law 22 = .ok (.isub, 1) := by decide +kernel
theorem dL_law_23 : decode cL_law 23 = .ok (.if_icmp .gt 1029, 3) := by decide +kernel
theorem dL_law_26 : decode cL_law 26 = .ok (.aload_n 0, 1) := by decide +kernel
theorem dL_law_27 : decode cL_law 27 = .ok (.iload_n 3, 1) := by decide +kernel
theorem dL_law_28 : decode cL_law 28 = .ok (.iaload, 1) := by decide +kernel
theorem dL_law_29 : decode cL_law 29 = .ok (.bipush 63, 2) := by decide +kernel
theorem dL_law_31 : decode cL_law 31 = .ok (.iand, 1) := by decide +kernel
theorem dL_law_32 : decode cL_law 32 = .ok (.tableswitch 1014 0 33 #[152, 175, 188, 201, 224, 257, 290, 323, 346, 369, 392, 425, 458, 481, 504, 527, 540, 573, 606, 649, 682, 705, 738, 761, 784, 817, 850, 873, 886, 919, 932, 945, 968, 991], 152) := by decide +kernel
theorem dL_law_184 : decode cL_law 184 = .ok (.aload_n 1, 1) := by decide +kernel
theorem dL_law_185 : decode cL_law 185 = .ok (.aload_n 0, 1) := by decide +kernel
theorem dL_law_186 : decode cL_law 186 = .ok (.iload_n 3, 1) := by decide +kernel
theorem dL_law_187 : decode cL_law 187 = .ok (.iconst 1, 1) := by decide +kernel
theorem dL_law_188 : decode cL_law 188 = .ok (.iadd, 1) := by decide +kernel
theorem dL_law_189 : decode cL_law 189 = .ok (.iaload, 1) := by decide +kernel
theorem dL_law_190 : decode cL_law 190 = .ok (.invokevirtual 13, 3) := by decide +kernel
theorem dL_law_193 : decode cL_law 193 = .ok (.aload_n 2, 1) := by decide +kernel
theorem dL_law_194 : decode cL_law 194 = .ok (.aload_n 0, 1) := by decide +kernel
theorem dL_law_195 : decode cL_law 195 = .ok (.iload_n 3, 1) := by decide +kernel
theorem dL_law_196 : decode cL_law 196 = .ok (.iconst 1, 1) := by decide +kernel
theorem dL_law_197 : decode cL_law 197 = .ok (.iadd, 1) := by decide +kernel
theorem dL_law_198 : decode cL_law 198 = .ok (.iaload, 1) := by decide +kernel
theorem dL_law_199 : decode cL_law 199 = .ok (.invokevirtual 17, 3) := by decide +kernel
theorem dL_law_202 : decode cL_law 202 = .ok (.if_icmp .eq 844, 3) := by decide +kernel
theorem dL_law_205 : decode cL_law 205 = .ok (.iconst 0, 1) := by decide +kernel
theorem dL_law_206 : decode cL_law 206 = .ok (.ireturn, 1) := by decide +kernel
theorem dL_law_207 : decode cL_law 207 = .ok (.aload_n 1, 1) := by decide +kernel
theorem dL_law_208 : decode cL_law 208 = .ok (.invokevirtual 18, 3) := by decide +kernel
theorem dL_law_211 : decode cL_law 211 = .ok (.aload_n 2, 1) := by decide +kernel
theorem dL_law_212 : decode cL_law 212 = .ok (.invokevirtual 22, 3) := by decide +kernel
theorem dL_law_215 : decode cL_law 215 = .ok (.if_icmp .eq 831, 3) := by decide +kernel
theorem dL_law_218 : decode cL_law 218 = .ok (.iconst 0, 1) := by decide +kernel
theorem dL_law_219 : decode cL_law 219 = .ok (.ireturn, 1) := by decide +kernel
theorem dL_law_220 : decode cL_law 220 = .ok (.aload_n 1, 1) := by decide +kernel
theorem dL_law_221 : decode cL_law 221 = .ok (.invokevirtual 23, 3) := by decide +kernel
theorem dL_law_224 : decode cL_law 224 = .ok (.aload_n 2, 1) := by decide +kernel
theorem dL_law_225 : decode cL_law 225 = .ok (.invokevirtual 26, 3) := by decide +kernel
theorem dL_law_228 : decode cL_law 228 = .ok (.if_icmp .eq 818, 3) := by decide +kernel
theorem dL_law_231 : decode cL_law 231 = .ok (.iconst 0, 1) := by decide +kernel
theorem dL_law_232 : decode cL_law 232 = .ok (.ireturn, 1) := by decide +kernel
theorem dL_law_233 : decode cL_law 233 = .ok (.aload_n 1, 1) := by decide +kernel
theorem dL_law_234 : decode cL_law 234 = .ok (.aload_n 0, 1) := by decide +kernel
theorem dL_law_235 : decode cL_law 235 = .ok (.iload_n 3, 1) := by decide +kernel
theorem dL_law_236 : decode cL_law 236 = .ok (.iconst 1, 1) := by decide +kernel
theorem dL_law_237 : decode cL_law 237 = .ok (.iadd, 1) := by decide +kernel
theorem dL_law_238 : decode cL_law 238 = .ok (.iaload, 1) := by decide +kernel
theorem dL_law_239 : decode cL_law 239 = .ok (.invokevirtual 27, 3) := by decide +kernel
theorem dL_law_242 : decode cL_law 242 = .ok (.aload_n 2, 1) := by decide +kernel
theorem dL_law_243 : decode cL_law 243 = .ok (.aload_n 0, 1) := by decide +kernel
theorem dL_law_244 : decode cL_law 244 = .ok (.iload_n 3, 1) := by decide +kernel
theorem dL_law_245 : decode cL_law 245 = .ok (.iconst 1, 1) := by decide +kernel
theorem dL_law_246 : decode cL_law 246 = .ok (.iadd, 1) := by decide +kernel
theorem dL_law_247 : decode cL_law 247 = .ok (.iaload, 1) := by decide +kernel
theorem dL_law_248 : decode cL_law 248 = .ok (.invokevirtual 30, 3) := by decide +kernel
theorem dL_law_251 : decode cL_law 251 = .ok (.if_icmp .eq 795, 3) := by decide +kernel
theorem dL_law_254 : decode cL_law 254 = .ok (.iconst 0, 1) := by decide +kernel
theorem dL_law_255 : decode cL_law 255 = .ok (.ireturn, 1) := by decide +kernel
theorem dL_law_256 : decode cL_law 256 = .ok (.aload_n 1, 1) := by decide +kernel
theorem dL_law_257 : decode cL_law 257 = .ok (.aload_n 0, 1) := by decide +kernel
theorem dL_law_258 : decode cL_law 258 = .ok (.iload_n 3, 1) := by decide +kernel
theorem dL_law_259 : decode cL_law 259 = .ok (.iconst 1, 1) := by decide +kernel
theorem dL_law_260 : decode cL_law 260 = .ok (.iadd, 1) := by decide +kernel
theorem dL_law_261 : decode cL_law 261 = .ok (.iaload, 1) := by decide +kernel
theorem dL_law_262 : decode cL_law 262 = .ok (.aload_n 0, 1) := by decide +kernel
theorem dL_law_263 : decode cL_law 263 = .ok (.iload_n 3, 1) := by decide +kernel
theorem dL_law_264 : decode cL_law 264 = .ok (.iconst 2, 1) := by decide +kernel
theorem dL_law_265 : decode cL_law 265 = .ok (.iadd, 1) := by decide +kernel
theorem dL_law_266 : decode cL_law 266 = .ok (.iaload, 1) := by decide +kernel
theorem dL_law_267 : decode cL_law 267 = .ok (.invokevirtual 31, 3) := by decide +kernel
theorem dL_law_270 : decode cL_law 270 = .ok (.aload_n 2, 1) := by decide +kernel
theorem dL_law_271 : decode cL_law 271 = .ok (.aload_n 0, 1) := by decide +kernel
theorem dL_law_272 : decode cL_law 272 = .ok (.iload_n 3, 1) := by decide +kernel
theorem dL_law_273 : decode cL_law 273 = .ok (.iconst 1, 1) := by decide +kernel
theorem dL_law_274 : decode cL_law 274 = .ok (.iadd, 1) := by decide +kernel
theorem dL_law_275 : decode cL_law 275 = .ok (.iaload, 1) := by decide +kernel
theorem dL_law_276 : decode cL_law 276 = .ok (.aload_n 0, 1) := by decide +kernel
theorem dL_law_277 : decode cL_law 277 = .ok (.iload_n 3, 1) := by decide +kernel
theorem dL_law_278 : decode cL_law 278 = .ok (.iconst 2, 1) := by decide +kernel
theorem dL_law_279 : decode cL_law 279 = .ok (.iadd, 1) := by decide +kernel
theorem dL_law_280 : decode cL_law 280 = .ok (.iaload, 1) := by decide +kernel
theorem dL_law_281 : decode cL_law 281 = .ok (.invokevirtual 35, 3) := by decide +kernel
theorem dL_law_284 : decode cL_law 284 = .ok (.if_icmp .eq 762, 3) := by decide +kernel
theorem dL_law_287 : decode cL_law 287 = .ok (.iconst 0, 1) := by decide +kernel
theorem dL_law_288 : decode cL_law 288 = .ok (.ireturn, 1) := by decide +kernel
theorem dL_law_289 : decode cL_law 289 = .ok (.aload_n 1, 1) := by decide +kernel
theorem dL_law_290 : decode cL_law 290 = .ok (.aload_n 0, 1) := by decide +kernel
theorem dL_law_291 : decode cL_law 291 = .ok (.iload_n 3, 1) := by decide +kernel
theorem dL_law_292 : decode cL_law 292 = .ok (.iconst 1, 1) := by decide +kernel
theorem dL_law_293 : decode cL_law 293 = .ok (.iadd, 1) := by decide +kernel
theorem dL_law_294 : decode cL_law 294 = .ok (.iaload, 1) := by decide +kernel
theorem dL_law_295 : decode cL_law 295 = .ok (.aload_n 0, 1) := by decide +kernel
theorem dL_law_296 : decode cL_law 296 = .ok (.iload_n 3, 1) := by decide +kernel
theorem dL_law_297 : decode cL_law 297 = .ok (.iconst 2, 1) := by decide +kernel
theorem dL_law_298 : decode cL_law 298 = .ok (.iadd, 1) := by decide +kernel
theorem dL_law_299 : decode cL_law 299 = .ok (.iaload, 1) := by decide +kernel
theorem dL_law_300 : decode cL_law 300 = .ok (.invokevirtual 36, 3) := by decide +kernel
theorem dL_law_303 : decode cL_law 303 = .ok (.aload_n 2, 1) := by decide +kernel
theorem dL_law_304 : decode cL_law 304 = .ok (.aload_n 0, 1) := by decide +kernel
theorem dL_law_305 : decode cL_law 305 = .ok (.iload_n 3, 1) := by decide +kernel
theorem dL_law_306 : decode cL_law 306 = .ok (.iconst 1, 1) := by decide +kernel
theorem dL_law_307 : decode cL_law 307 = .ok (.iadd, 1) := by decide +kernel
theorem dL_law_308 : decode cL_law 308 = .ok (.iaload, 1) := by decide +kernel
theorem dL_law_309 : decode cL_law 309 = .ok (.aload_n 0, 1) := by decide +kernel
theorem dL_law_310 : decode cL_law 310 = .ok (.iload_n 3, 1) := by decide +kernel
theorem dL_law_311 : decode cL_law 311 = .ok (.iconst 2, 1) := by decide +kernel
theorem dL_law_312 : decode cL_law 312 = .ok (.iadd, 1) := by decide +kernel
theorem dL_law_313 : decode cL_law 313 = .ok (.iaload, 1) := by decide +kernel
theorem dL_law_314 : decode cL_law 314 = .ok (.invokevirtual 39, 3) := by decide +kernel
theorem dL_law_317 : decode cL_law 317 = .ok (.if_icmp .eq 729, 3) := by decide +kernel
theorem dL_law_320 : decode cL_law 320 = .ok (.iconst 0, 1) := by decide +kernel
theorem dL_law_321 : decode cL_law 321 = .ok (.ireturn, 1) := by decide +kernel
theorem dL_law_322 : decode cL_law 322 = .ok (.aload_n 1, 1) := by decide +kernel
theorem dL_law_323 : decode cL_law 323 = .ok (.aload_n 0, 1) := by decide +kernel
theorem dL_law_324 : decode cL_law 324 = .ok (.iload_n 3, 1) := by decide +kernel
theorem dL_law_325 : decode cL_law 325 = .ok (.iconst 1, 1) := by decide +kernel
theorem dL_law_326 : decode cL_law 326 = .ok (.iadd, 1) := by decide +kernel
theorem dL_law_327 : decode cL_law 327 = .ok (.iaload, 1) := by decide +kernel
theorem dL_law_328 : decode cL_law 328 = .ok (.aload_n 0, 1) := by decide +kernel
theorem dL_law_329 : decode cL_law 329 = .ok (.iload_n 3, 1) := by decide +kernel
theorem dL_law_330 : decode cL_law 330 = .ok (.iconst 2, 1) := by decide +kernel
theorem dL_law_331 : decode cL_law 331 = .ok (.iadd, 1) := by decide +kernel
theorem dL_law_332 : decode cL_law 332 = .ok (.iaload, 1) := by decide +kernel
theorem dL_law_333 : decode cL_law 333 = .ok (.invokevirtual 40, 3) := by decide +kernel
theorem dL_law_336 : decode cL_law 336 = .ok (.aload_n 2, 1) := by decide +kernel
theorem dL_law_337 : decode cL_law 337 = .ok (.aload_n 0, 1) := by decide +kernel
theorem dL_law_338 : decode cL_law 338 = .ok (.iload_n 3, 1) := by decide +kernel
theorem dL_law_339 : decode cL_law 339 = .ok (.iconst 1, 1) := by decide +kernel
theorem dL_law_340 : decode cL_law 340 = .ok (.iadd, 1) := by decide +kernel
theorem dL_law_341 : decode cL_law 341 = .ok (.iaload, 1) := by decide +kernel
theorem dL_law_342 : decode cL_law 342 = .ok (.aload_n 0, 1) := by decide +kernel
theorem dL_law_343 : decode cL_law 343 = .ok (.iload_n 3, 1) := by decide +kernel
theorem dL_law_344 : decode cL_law 344 = .ok (.iconst 2, 1) := by decide +kernel
theorem dL_law_345 : decode cL_law 345 = .ok (.iadd, 1) := by decide +kernel
theorem dL_law_346 : decode cL_law 346 = .ok (.iaload, 1) := by decide +kernel
theorem dL_law_347 : decode cL_law 347 = .ok (.invokevirtual 43, 3) := by decide +kernel
theorem dL_law_350 : decode cL_law 350 = .ok (.if_icmp .eq 696, 3) := by decide +kernel
theorem dL_law_353 : decode cL_law 353 = .ok (.iconst 0, 1) := by decide +kernel
theorem dL_law_354 : decode cL_law 354 = .ok (.ireturn, 1) := by decide +kernel
theorem dL_law_355 : decode cL_law 355 = .ok (.aload_n 1, 1) := by decide +kernel
theorem dL_law_356 : decode cL_law 356 = .ok (.aload_n 0, 1) := by decide +kernel
theorem dL_law_357 : decode cL_law 357 = .ok (.iload_n 3, 1) := by decide +kernel
theorem dL_law_358 : decode cL_law 358 = .ok (.iconst 1, 1) := by decide +kernel
theorem dL_law_359 : decode cL_law 359 = .ok (.iadd, 1) := by decide +kernel
theorem dL_law_360 : decode cL_law 360 = .ok (.iaload, 1) := by decide +kernel
theorem dL_law_361 : decode cL_law 361 = .ok (.invokevirtual 44, 3) := by decide +kernel
theorem dL_law_364 : decode cL_law 364 = .ok (.aload_n 2, 1) := by decide +kernel
theorem dL_law_365 : decode cL_law 365 = .ok (.aload_n 0, 1) := by decide +kernel
theorem dL_law_366 : decode cL_law 366 = .ok (.iload_n 3, 1) := by decide +kernel
theorem dL_law_367 : decode cL_law 367 = .ok (.iconst 1, 1) := by decide +kernel
theorem dL_law_368 : decode cL_law 368 = .ok (.iadd, 1) := by decide +kernel
theorem dL_law_369 : decode cL_law 369 = .ok (.iaload, 1) := by decide +kernel
theorem dL_law_370 : decode cL_law 370 = .ok (.invokevirtual 47, 3) := by decide +kernel
theorem dL_law_373 : decode cL_law 373 = .ok (.if_icmp .eq 673, 3) := by decide +kernel
theorem dL_law_376 : decode cL_law 376 = .ok (.iconst 0, 1) := by decide +kernel
theorem dL_law_377 : decode cL_law 377 = .ok (.ireturn, 1) := by decide +kernel
theorem dL_law_378 : decode cL_law 378 = .ok (.aload_n 1, 1) := by decide +kernel
theorem dL_law_379 : decode cL_law 379 = .ok (.aload_n 0, 1) := by decide +kernel
theorem dL_law_380 : decode cL_law 380 = .ok (.iload_n 3, 1) := by decide +kernel
theorem dL_law_381 : decode cL_law 381 = .ok (.iconst 1, 1) := by decide +kernel
theorem dL_law_382 : decode cL_law 382 = .ok (.iadd, 1) := by decide +kernel
theorem dL_law_383 : decode cL_law 383 = .ok (.iaload, 1) := by decide +kernel
theorem dL_law_384 : decode cL_law 384 = .ok (.invokevirtual 48, 3) := by decide +kernel
theorem dL_law_387 : decode cL_law 387 = .ok (.aload_n 2, 1) := by decide +kernel
theorem dL_law_388 : decode cL_law 388 = .ok (.aload_n 0, 1) := by decide +kernel
theorem dL_law_389 : decode cL_law 389 = .ok (.iload_n 3, 1) := by decide +kernel
theorem dL_law_390 : decode cL_law 390 = .ok (.iconst 1, 1) := by decide +kernel
theorem dL_law_391 : decode cL_law 391 = .ok (.iadd, 1) := by decide +kernel
theorem dL_law_392 : decode cL_law 392 = .ok (.iaload, 1) := by decide +kernel
theorem dL_law_393 : decode cL_law 393 = .ok (.invokevirtual 51, 3) := by decide +kernel
theorem dL_law_396 : decode cL_law 396 = .ok (.if_icmp .eq 650, 3) := by decide +kernel
theorem dL_law_399 : decode cL_law 399 = .ok (.iconst 0, 1) := by decide +kernel
theorem dL_law_400 : decode cL_law 400 = .ok (.ireturn, 1) := by decide +kernel
theorem dL_law_401 : decode cL_law 401 = .ok (.aload_n 1, 1) := by decide +kernel
theorem dL_law_402 : decode cL_law 402 = .ok (.aload_n 0, 1) := by decide +kernel
theorem dL_law_403 : decode cL_law 403 = .ok (.iload_n 3, 1) := by decide +kernel
theorem dL_law_404 : decode cL_law 404 = .ok (.iconst 1, 1) := by decide +kernel
theorem dL_law_405 : decode cL_law 405 = .ok (.iadd, 1) := by decide +kernel
theorem dL_law_406 : decode cL_law 406 = .ok (.iaload, 1) := by decide +kernel
theorem dL_law_407 : decode cL_law 407 = .ok (.invokevirtual 52, 3) := by decide +kernel
theorem dL_law_410 : decode cL_law 410 = .ok (.aload_n 2, 1) := by decide +kernel
theorem dL_law_411 : decode cL_law 411 = .ok (.aload_n 0, 1) := by decide +kernel
theorem dL_law_412 : decode cL_law 412 = .ok (.iload_n 3, 1) := by decide +kernel
theorem dL_law_413 : decode cL_law 413 = .ok (.iconst 1, 1) := by decide +kernel
theorem dL_law_414 : decode cL_law 414 = .ok (.iadd, 1) := by decide +kernel
theorem dL_law_415 : decode cL_law 415 = .ok (.iaload, 1) := by decide +kernel
theorem dL_law_416 : decode cL_law 416 = .ok (.invokevirtual 55, 3) := by decide +kernel
theorem dL_law_419 : decode cL_law 419 = .ok (.if_icmp .eq 627, 3) := by decide +kernel
theorem dL_law_422 : decode cL_law 422 = .ok (.iconst 0, 1) := by decide +kernel
theorem dL_law_423 : decode cL_law 423 = .ok (.ireturn, 1) := by decide +kernel
theorem dL_law_424 : decode cL_law 424 = .ok (.aload_n 1, 1) := by decide +kernel
theorem dL_law_425 : decode cL_law 425 = .ok (.aload_n 0, 1) := by decide +kernel
theorem dL_law_426 : decode cL_law 426 = .ok (.iload_n 3, 1) := by decide +kernel
theorem dL_law_427 : decode cL_law 427 = .ok (.iconst 1, 1) := by decide +kernel
theorem dL_law_428 : decode cL_law 428 = .ok (.iadd, 1) := by decide +kernel
theorem dL_law_429 : decode cL_law 429 = .ok (.iaload, 1) := by decide +kernel
theorem dL_law_430 : decode cL_law 430 = .ok (.aload_n 0, 1) := by decide +kernel
theorem dL_law_431 : decode cL_law 431 = .ok (.iload_n 3, 1) := by decide +kernel
theorem dL_law_432 : decode cL_law 432 = .ok (.iconst 2, 1) := by decide +kernel
theorem dL_law_433 : decode cL_law 433 = .ok (.iadd, 1) := by decide +kernel
theorem dL_law_434 : decode cL_law 434 = .ok (.iaload, 1) := by decide +kernel
theorem dL_law_435 : decode cL_law 435 = .ok (.invokevirtual 56, 3) := by decide +kernel
theorem dL_law_438 : decode cL_law 438 = .ok (.aload_n 2, 1) := by decide +kernel
theorem dL_law_439 : decode cL_law 439 = .ok (.aload_n 0, 1) := by decide +kernel
theorem dL_law_440 : decode cL_law 440 = .ok (.iload_n 3, 1) := by decide +kernel
theorem dL_law_441 : decode cL_law 441 = .ok (.iconst 1, 1) := by decide +kernel
theorem dL_law_442 : decode cL_law 442 = .ok (.iadd, 1) := by decide +kernel
theorem dL_law_443 : decode cL_law 443 = .ok (.iaload, 1) := by decide +kernel
theorem dL_law_444 : decode cL_law 444 = .ok (.aload_n 0, 1) := by decide +kernel
theorem dL_law_445 : decode cL_law 445 = .ok (.iload_n 3, 1) := by decide +kernel
theorem dL_law_446 : decode cL_law 446 = .ok (.iconst 2, 1) := by decide +kernel
theorem dL_law_447 : decode cL_law 447 = .ok (.iadd, 1) := by decide +kernel
theorem dL_law_448 : decode cL_law 448 = .ok (.iaload, 1) := by decide +kernel
theorem dL_law_449 : decode cL_law 449 = .ok (.invokevirtual 59, 3) := by decide +kernel
theorem dL_law_452 : decode cL_law 452 = .ok (.if_icmp .eq 594, 3) := by decide +kernel
theorem dL_law_455 : decode cL_law 455 = .ok (.iconst 0, 1) := by decide +kernel
theorem dL_law_456 : decode cL_law 456 = .ok (.ireturn, 1) := by decide +kernel
theorem dL_law_457 : decode cL_law 457 = .ok (.aload_n 1, 1) := by decide +kernel
theorem dL_law_458 : decode cL_law 458 = .ok (.aload_n 0, 1) := by decide +kernel
theorem dL_law_459 : decode cL_law 459 = .ok (.iload_n 3, 1) := by decide +kernel
theorem dL_law_460 : decode cL_law 460 = .ok (.iconst 1, 1) := by decide +kernel
theorem dL_law_461 : decode cL_law 461 = .ok (.iadd, 1) := by decide +kernel
theorem dL_law_462 : decode cL_law 462 = .ok (.iaload, 1) := by decide +kernel
theorem dL_law_463 : decode cL_law 463 = .ok (.aload_n 0, 1) := by decide +kernel
theorem dL_law_464 : decode cL_law 464 = .ok (.iload_n 3, 1) := by decide +kernel
theorem dL_law_465 : decode cL_law 465 = .ok (.iconst 2, 1) := by decide +kernel
theorem dL_law_466 : decode cL_law 466 = .ok (.iadd, 1) := by decide +kernel
theorem dL_law_467 : decode cL_law 467 = .ok (.iaload, 1) := by decide +kernel
theorem dL_law_468 : decode cL_law 468 = .ok (.invokevirtual 60, 3) := by decide +kernel
theorem dL_law_471 : decode cL_law 471 = .ok (.aload_n 2, 1) := by decide +kernel
theorem dL_law_472 : decode cL_law 472 = .ok (.aload_n 0, 1) := by decide +kernel
theorem dL_law_473 : decode cL_law 473 = .ok (.iload_n 3, 1) := by decide +kernel
theorem dL_law_474 : decode cL_law 474 = .ok (.iconst 1, 1) := by decide +kernel
theorem dL_law_475 : decode cL_law 475 = .ok (.iadd, 1) := by decide +kernel
theorem dL_law_476 : decode cL_law 476 = .ok (.iaload, 1) := by decide +kernel
theorem dL_law_477 : decode cL_law 477 = .ok (.aload_n 0, 1) := by decide +kernel
theorem dL_law_478 : decode cL_law 478 = .ok (.iload_n 3, 1) := by decide +kernel
theorem dL_law_479 : decode cL_law 479 = .ok (.iconst 2, 1) := by decide +kernel
theorem dL_law_480 : decode cL_law 480 = .ok (.iadd, 1) := by decide +kernel
theorem dL_law_481 : decode cL_law 481 = .ok (.iaload, 1) := by decide +kernel
theorem dL_law_482 : decode cL_law 482 = .ok (.invokevirtual 63, 3) := by decide +kernel
theorem dL_law_485 : decode cL_law 485 = .ok (.if_icmp .eq 561, 3) := by decide +kernel
theorem dL_law_488 : decode cL_law 488 = .ok (.iconst 0, 1) := by decide +kernel
theorem dL_law_489 : decode cL_law 489 = .ok (.ireturn, 1) := by decide +kernel
theorem dL_law_490 : decode cL_law 490 = .ok (.aload_n 1, 1) := by decide +kernel
theorem dL_law_491 : decode cL_law 491 = .ok (.aload_n 0, 1) := by decide +kernel
theorem dL_law_492 : decode cL_law 492 = .ok (.iload_n 3, 1) := by decide +kernel
theorem dL_law_493 : decode cL_law 493 = .ok (.iconst 1, 1) := by decide +kernel
theorem dL_law_494 : decode cL_law 494 = .ok (.iadd, 1) := by decide +kernel
theorem dL_law_495 : decode cL_law 495 = .ok (.iaload, 1) := by decide +kernel
theorem dL_law_496 : decode cL_law 496 = .ok (.invokevirtual 64, 3) := by decide +kernel
theorem dL_law_499 : decode cL_law 499 = .ok (.aload_n 2, 1) := by decide +kernel
theorem dL_law_500 : decode cL_law 500 = .ok (.aload_n 0, 1) := by decide +kernel
theorem dL_law_501 : decode cL_law 501 = .ok (.iload_n 3, 1) := by decide +kernel
theorem dL_law_502 : decode cL_law 502 = .ok (.iconst 1, 1) := by decide +kernel
theorem dL_law_503 : decode cL_law 503 = .ok (.iadd, 1) := by decide +kernel
theorem dL_law_504 : decode cL_law 504 = .ok (.iaload, 1) := by decide +kernel
theorem dL_law_505 : decode cL_law 505 = .ok (.invokevirtual 67, 3) := by decide +kernel
theorem dL_law_508 : decode cL_law 508 = .ok (.if_icmp .eq 538, 3) := by decide +kernel
theorem dL_law_511 : decode cL_law 511 = .ok (.iconst 0, 1) := by decide +kernel
theorem dL_law_512 : decode cL_law 512 = .ok (.ireturn, 1) := by decide +kernel
theorem dL_law_513 : decode cL_law 513 = .ok (.aload_n 1, 1) := by decide +kernel
theorem dL_law_514 : decode cL_law 514 = .ok (.aload_n 0, 1) := by decide +kernel
theorem dL_law_515 : decode cL_law 515 = .ok (.iload_n 3, 1) := by decide +kernel
theorem dL_law_516 : decode cL_law 516 = .ok (.iconst 1, 1) := by decide +kernel
theorem dL_law_517 : decode cL_law 517 = .ok (.iadd, 1) := by decide +kernel
theorem dL_law_518 : decode cL_law 518 = .ok (.iaload, 1) := by decide +kernel
theorem dL_law_519 : decode cL_law 519 = .ok (.invokevirtual 68, 3) := by decide +kernel
theorem dL_law_522 : decode cL_law 522 = .ok (.aload_n 2, 1) := by decide +kernel
theorem dL_law_523 : decode cL_law 523 = .ok (.aload_n 0, 1) := by decide +kernel
theorem dL_law_524 : decode cL_law 524 = .ok (.iload_n 3, 1) := by decide +kernel
theorem dL_law_525 : decode cL_law 525 = .ok (.iconst 1, 1) := by decide +kernel
theorem dL_law_526 : decode cL_law 526 = .ok (.iadd, 1) := by decide +kernel
theorem dL_law_527 : decode cL_law 527 = .ok (.iaload, 1) := by decide +kernel
theorem dL_law_528 : decode cL_law 528 = .ok (.invokevirtual 71, 3) := by decide +kernel
theorem dL_law_531 : decode cL_law 531 = .ok (.if_icmp .eq 515, 3) := by decide +kernel
theorem dL_law_534 : decode cL_law 534 = .ok (.iconst 0, 1) := by decide +kernel
theorem dL_law_535 : decode cL_law 535 = .ok (.ireturn, 1) := by decide +kernel
theorem dL_law_536 : decode cL_law 536 = .ok (.aload_n 1, 1) := by decide +kernel
theorem dL_law_537 : decode cL_law 537 = .ok (.aload_n 0, 1) := by decide +kernel
theorem dL_law_538 : decode cL_law 538 = .ok (.iload_n 3, 1) := by decide +kernel
theorem dL_law_539 : decode cL_law 539 = .ok (.iconst 1, 1) := by decide +kernel
theorem dL_law_540 : decode cL_law 540 = .ok (.iadd, 1) := by decide +kernel
theorem dL_law_541 : decode cL_law 541 = .ok (.iaload, 1) := by decide +kernel
theorem dL_law_542 : decode cL_law 542 = .ok (.invokevirtual 72, 3) := by decide +kernel
theorem dL_law_545 : decode cL_law 545 = .ok (.aload_n 2, 1) := by decide +kernel
theorem dL_law_546 : decode cL_law 546 = .ok (.aload_n 0, 1) := by decide +kernel
theorem dL_law_547 : decode cL_law 547 = .ok (.iload_n 3, 1) := by decide +kernel
theorem dL_law_548 : decode cL_law 548 = .ok (.iconst 1, 1) := by decide +kernel
theorem dL_law_549 : decode cL_law 549 = .ok (.iadd, 1) := by decide +kernel
theorem dL_law_550 : decode cL_law 550 = .ok (.iaload, 1) := by decide +kernel
theorem dL_law_551 : decode cL_law 551 = .ok (.invokevirtual 75, 3) := by decide +kernel
theorem dL_law_554 : decode cL_law 554 = .ok (.if_icmp .eq 492, 3) := by decide +kernel
theorem dL_law_557 : decode cL_law 557 = .ok (.iconst 0, 1) := by decide +kernel
theorem dL_law_558 : decode cL_law 558 = .ok (.ireturn, 1) := by decide +kernel
theorem dL_law_559 : decode cL_law 559 = .ok (.aload_n 1, 1) := by decide +kernel
theorem dL_law_560 : decode cL_law 560 = .ok (.invokevirtual 76, 3) := by decide +kernel
theorem dL_law_563 : decode cL_law 563 = .ok (.aload_n 2, 1) := by decide +kernel
theorem dL_law_564 : decode cL_law 564 = .ok (.invokevirtual 79, 3) := by decide +kernel
theorem dL_law_567 : decode cL_law 567 = .ok (.if_icmp .eq 479, 3) := by decide +kernel
theorem dL_law_570 : decode cL_law 570 = .ok (.iconst 0, 1) := by decide +kernel
theorem dL_law_571 : decode cL_law 571 = .ok (.ireturn, 1) := by decide +kernel
theorem dL_law_572 : decode cL_law 572 = .ok (.aload_n 1, 1) := by decide +kernel
theorem dL_law_573 : decode cL_law 573 = .ok (.aload_n 0, 1) := by decide +kernel
theorem dL_law_574 : decode cL_law 574 = .ok (.iload_n 3, 1) := by decide +kernel
theorem dL_law_575 : decode cL_law 575 = .ok (.iconst 1, 1) := by decide +kernel
theorem dL_law_576 : decode cL_law 576 = .ok (.iadd, 1) := by decide +kernel
theorem dL_law_577 : decode cL_law 577 = .ok (.iaload, 1) := by decide +kernel
theorem dL_law_578 : decode cL_law 578 = .ok (.aload_n 0, 1) := by decide +kernel
theorem dL_law_579 : decode cL_law 579 = .ok (.iload_n 3, 1) := by decide +kernel
theorem dL_law_580 : decode cL_law 580 = .ok (.iconst 2, 1) := by decide +kernel
theorem dL_law_581 : decode cL_law 581 = .ok (.iadd, 1) := by decide +kernel
theorem dL_law_582 : decode cL_law 582 = .ok (.iaload, 1) := by decide +kernel
theorem dL_law_583 : decode cL_law 583 = .ok (.invokevirtual 80, 3) := by decide +kernel
theorem dL_law_586 : decode cL_law 586 = .ok (.aload_n 2, 1) := by decide +kernel
theorem dL_law_587 : decode cL_law 587 = .ok (.aload_n 0, 1) := by decide +kernel
theorem dL_law_588 : decode cL_law 588 = .ok (.iload_n 3, 1) := by decide +kernel
theorem dL_law_589 : decode cL_law 589 = .ok (.iconst 1, 1) := by decide +kernel
theorem dL_law_590 : decode cL_law 590 = .ok (.iadd, 1) := by decide +kernel
theorem dL_law_591 : decode cL_law 591 = .ok (.iaload, 1) := by decide +kernel
theorem dL_law_592 : decode cL_law 592 = .ok (.aload_n 0, 1) := by decide +kernel
theorem dL_law_593 : decode cL_law 593 = .ok (.iload_n 3, 1) := by decide +kernel
theorem dL_law_594 : decode cL_law 594 = .ok (.iconst 2, 1) := by decide +kernel
theorem dL_law_595 : decode cL_law 595 = .ok (.iadd, 1) := by decide +kernel
theorem dL_law_596 : decode cL_law 596 = .ok (.iaload, 1) := by decide +kernel
theorem dL_law_597 : decode cL_law 597 = .ok (.invokevirtual 83, 3) := by decide +kernel
theorem dL_law_600 : decode cL_law 600 = .ok (.if_icmp .eq 446, 3) := by decide +kernel
theorem dL_law_603 : decode cL_law 603 = .ok (.iconst 0, 1) := by decide +kernel
theorem dL_law_604 : decode cL_law 604 = .ok (.ireturn, 1) := by decide +kernel
theorem dL_law_605 : decode cL_law 605 = .ok (.aload_n 1, 1) := by decide +kernel
theorem dL_law_606 : decode cL_law 606 = .ok (.aload_n 0, 1) := by decide +kernel
theorem dL_law_607 : decode cL_law 607 = .ok (.iload_n 3, 1) := by decide +kernel
theorem dL_law_608 : decode cL_law 608 = .ok (.iconst 1, 1) := by decide +kernel
theorem dL_law_609 : decode cL_law 609 = .ok (.iadd, 1) := by decide +kernel
theorem dL_law_610 : decode cL_law 610 = .ok (.iaload, 1) := by decide +kernel
theorem dL_law_611 : decode cL_law 611 = .ok (.aload_n 0, 1) := by decide +kernel
theorem dL_law_612 : decode cL_law 612 = .ok (.iload_n 3, 1) := by decide +kernel
theorem dL_law_613 : decode cL_law 613 = .ok (.iconst 2, 1) := by decide +kernel
theorem dL_law_614 : decode cL_law 614 = .ok (.iadd, 1) := by decide +kernel
theorem dL_law_615 : decode cL_law 615 = .ok (.iaload, 1) := by decide +kernel
theorem dL_law_616 : decode cL_law 616 = .ok (.invokevirtual 84, 3) := by decide +kernel
theorem dL_law_619 : decode cL_law 619 = .ok (.aload_n 2, 1) := by decide +kernel
theorem dL_law_620 : decode cL_law 620 = .ok (.aload_n 0, 1) := by decide +kernel
theorem dL_law_621 : decode cL_law 621 = .ok (.iload_n 3, 1) := by decide +kernel
theorem dL_law_622 : decode cL_law 622 = .ok (.iconst 1, 1) := by decide +kernel
theorem dL_law_623 : decode cL_law 623 = .ok (.iadd, 1) := by decide +kernel
theorem dL_law_624 : decode cL_law 624 = .ok (.iaload, 1) := by decide +kernel
theorem dL_law_625 : decode cL_law 625 = .ok (.aload_n 0, 1) := by decide +kernel
theorem dL_law_626 : decode cL_law 626 = .ok (.iload_n 3, 1) := by decide +kernel
theorem dL_law_627 : decode cL_law 627 = .ok (.iconst 2, 1) := by decide +kernel
theorem dL_law_628 : decode cL_law 628 = .ok (.iadd, 1) := by decide +kernel
theorem dL_law_629 : decode cL_law 629 = .ok (.iaload, 1) := by decide +kernel
theorem dL_law_630 : decode cL_law 630 = .ok (.invokevirtual 87, 3) := by decide +kernel
theorem dL_law_633 : decode cL_law 633 = .ok (.if_icmp .eq 413, 3) := by decide +kernel
theorem dL_law_636 : decode cL_law 636 = .ok (.iconst 0, 1) := by decide +kernel
theorem dL_law_637 : decode cL_law 637 = .ok (.ireturn, 1) := by decide +kernel
theorem dL_law_638 : decode cL_law 638 = .ok (.aload_n 1, 1) := by decide +kernel
theorem dL_law_639 : decode cL_law 639 = .ok (.aload_n 0, 1) := by decide +kernel
theorem dL_law_640 : decode cL_law 640 = .ok (.iload_n 3, 1) := by decide +kernel
theorem dL_law_641 : decode cL_law 641 = .ok (.iconst 1, 1) := by decide +kernel
theorem dL_law_642 : decode cL_law 642 = .ok (.iadd, 1) := by decide +kernel
theorem dL_law_643 : decode cL_law 643 = .ok (.iaload, 1) := by decide +kernel
theorem dL_law_644 : decode cL_law 644 = .ok (.aload_n 0, 1) := by decide +kernel
theorem dL_law_645 : decode cL_law 645 = .ok (.iload_n 3, 1) := by decide +kernel
theorem dL_law_646 : decode cL_law 646 = .ok (.iconst 2, 1) := by decide +kernel
theorem dL_law_647 : decode cL_law 647 = .ok (.iadd, 1) := by decide +kernel
theorem dL_law_648 : decode cL_law 648 = .ok (.iaload, 1) := by decide +kernel
theorem dL_law_649 : decode cL_law 649 = .ok (.aload_n 0, 1) := by decide +kernel
theorem dL_law_650 : decode cL_law 650 = .ok (.iload_n 3, 1) := by decide +kernel
theorem dL_law_651 : decode cL_law 651 = .ok (.iconst 3, 1) := by decide +kernel
theorem dL_law_652 : decode cL_law 652 = .ok (.iadd, 1) := by decide +kernel
theorem dL_law_653 : decode cL_law 653 = .ok (.iaload, 1) := by decide +kernel
theorem dL_law_654 : decode cL_law 654 = .ok (.invokevirtual 88, 3) := by decide +kernel
theorem dL_law_657 : decode cL_law 657 = .ok (.aload_n 2, 1) := by decide +kernel
theorem dL_law_658 : decode cL_law 658 = .ok (.aload_n 0, 1) := by decide +kernel
theorem dL_law_659 : decode cL_law 659 = .ok (.iload_n 3, 1) := by decide +kernel
theorem dL_law_660 : decode cL_law 660 = .ok (.iconst 1, 1) := by decide +kernel
theorem dL_law_661 : decode cL_law 661 = .ok (.iadd, 1) := by decide +kernel
theorem dL_law_662 : decode cL_law 662 = .ok (.iaload, 1) := by decide +kernel
theorem dL_law_663 : decode cL_law 663 = .ok (.aload_n 0, 1) := by decide +kernel
theorem dL_law_664 : decode cL_law 664 = .ok (.iload_n 3, 1) := by decide +kernel
theorem dL_law_665 : decode cL_law 665 = .ok (.iconst 2, 1) := by decide +kernel
theorem dL_law_666 : decode cL_law 666 = .ok (.iadd, 1) := by decide +kernel
theorem dL_law_667 : decode cL_law 667 = .ok (.iaload, 1) := by decide +kernel
theorem dL_law_668 : decode cL_law 668 = .ok (.aload_n 0, 1) := by decide +kernel
theorem dL_law_669 : decode cL_law 669 = .ok (.iload_n 3, 1) := by decide +kernel
theorem dL_law_670 : decode cL_law 670 = .ok (.iconst 3, 1) := by decide +kernel
theorem dL_law_671 : decode cL_law 671 = .ok (.iadd, 1) := by decide +kernel
theorem dL_law_672 : decode cL_law 672 = .ok (.iaload, 1) := by decide +kernel
theorem dL_law_673 : decode cL_law 673 = .ok (.invokevirtual 92, 3) := by decide +kernel
theorem dL_law_676 : decode cL_law 676 = .ok (.if_icmp .eq 370, 3) := by decide +kernel
theorem dL_law_679 : decode cL_law 679 = .ok (.iconst 0, 1) := by decide +kernel
theorem dL_law_680 : decode cL_law 680 = .ok (.ireturn, 1) := by decide +kernel
theorem dL_law_681 : decode cL_law 681 = .ok (.aload_n 1, 1) := by decide +kernel
theorem dL_law_682 : decode cL_law 682 = .ok (.aload_n 0, 1) := by decide +kernel
theorem dL_law_683 : decode cL_law 683 = .ok (.iload_n 3, 1) := by decide +kernel
theorem dL_law_684 : decode cL_law 684 = .ok (.iconst 1, 1) := by decide +kernel
theorem dL_law_685 : decode cL_law 685 = .ok (.iadd, 1) := by decide +kernel
theorem dL_law_686 : decode cL_law 686 = .ok (.iaload, 1) := by decide +kernel
theorem dL_law_687 : decode cL_law 687 = .ok (.aload_n 0, 1) := by decide +kernel
theorem dL_law_688 : decode cL_law 688 = .ok (.iload_n 3, 1) := by decide +kernel
theorem dL_law_689 : decode cL_law 689 = .ok (.iconst 2, 1) := by decide +kernel
theorem dL_law_690 : decode cL_law 690 = .ok (.iadd, 1) := by decide +kernel
theorem dL_law_691 : decode cL_law 691 = .ok (.iaload, 1) := by decide +kernel
theorem dL_law_692 : decode cL_law 692 = .ok (.invokevirtual 93, 3) := by decide +kernel
theorem dL_law_695 : decode cL_law 695 = .ok (.aload_n 2, 1) := by decide +kernel
theorem dL_law_696 : decode cL_law 696 = .ok (.aload_n 0, 1) := by decide +kernel
theorem dL_law_697 : decode cL_law 697 = .ok (.iload_n 3, 1) := by decide +kernel
theorem dL_law_698 : decode cL_law 698 = .ok (.iconst 1, 1) := by decide +kernel
theorem dL_law_699 : decode cL_law 699 = .ok (.iadd, 1) := by decide +kernel
theorem dL_law_700 : decode cL_law 700 = .ok (.iaload, 1) := by decide +kernel
theorem dL_law_701 : decode cL_law 701 = .ok (.aload_n 0, 1) := by decide +kernel
theorem dL_law_702 : decode cL_law 702 = .ok (.iload_n 3, 1) := by decide +kernel
theorem dL_law_703 : decode cL_law 703 = .ok (.iconst 2, 1) := by decide +kernel
theorem dL_law_704 : decode cL_law 704 = .ok (.iadd, 1) := by decide +kernel
theorem dL_law_705 : decode cL_law 705 = .ok (.iaload, 1) := by decide +kernel
theorem dL_law_706 : decode cL_law 706 = .ok (.invokevirtual 96, 3) := by decide +kernel
theorem dL_law_709 : decode cL_law 709 = .ok (.if_icmp .eq 337, 3) := by decide +kernel
theorem dL_law_712 : decode cL_law 712 = .ok (.iconst 0, 1) := by decide +kernel
theorem dL_law_713 : decode cL_law 713 = .ok (.ireturn, 1) := by decide +kernel
theorem dL_law_714 : decode cL_law 714 = .ok (.aload_n 1, 1) := by decide +kernel
theorem dL_law_715 : decode cL_law 715 = .ok (.aload_n 0, 1) := by decide +kernel
theorem dL_law_716 : decode cL_law 716 = .ok (.iload_n 3, 1) := by decide +kernel
theorem dL_law_717 : decode cL_law 717 = .ok (.iconst 1, 1) := by decide +kernel
theorem dL_law_718 : decode cL_law 718 = .ok (.iadd, 1) := by decide +kernel
theorem dL_law_719 : decode cL_law 719 = .ok (.iaload, 1) := by decide +kernel
theorem dL_law_720 : decode cL_law 720 = .ok (.invokevirtual 97, 3) := by decide +kernel
theorem dL_law_723 : decode cL_law 723 = .ok (.aload_n 2, 1) := by decide +kernel
theorem dL_law_724 : decode cL_law 724 = .ok (.aload_n 0, 1) := by decide +kernel
theorem dL_law_725 : decode cL_law 725 = .ok (.iload_n 3, 1) := by decide +kernel
theorem dL_law_726 : decode cL_law 726 = .ok (.iconst 1, 1) := by decide +kernel
theorem dL_law_727 : decode cL_law 727 = .ok (.iadd, 1) := by decide +kernel
theorem dL_law_728 : decode cL_law 728 = .ok (.iaload, 1) := by decide +kernel
theorem dL_law_729 : decode cL_law 729 = .ok (.invokevirtual 100, 3) := by decide +kernel
theorem dL_law_732 : decode cL_law 732 = .ok (.if_icmp .eq 314, 3) := by decide +kernel
theorem dL_law_735 : decode cL_law 735 = .ok (.iconst 0, 1) := by decide +kernel
theorem dL_law_736 : decode cL_law 736 = .ok (.ireturn, 1) := by decide +kernel
theorem dL_law_737 : decode cL_law 737 = .ok (.aload_n 1, 1) := by decide +kernel
theorem dL_law_738 : decode cL_law 738 = .ok (.aload_n 0, 1) := by decide +kernel
theorem dL_law_739 : decode cL_law 739 = .ok (.iload_n 3, 1) := by decide +kernel
theorem dL_law_740 : decode cL_law 740 = .ok (.iconst 1, 1) := by decide +kernel
theorem dL_law_741 : decode cL_law 741 = .ok (.iadd, 1) := by decide +kernel
theorem dL_law_742 : decode cL_law 742 = .ok (.iaload, 1) := by decide +kernel
theorem dL_law_743 : decode cL_law 743 = .ok (.aload_n 0, 1) := by decide +kernel
theorem dL_law_744 : decode cL_law 744 = .ok (.iload_n 3, 1) := by decide +kernel
theorem dL_law_745 : decode cL_law 745 = .ok (.iconst 2, 1) := by decide +kernel
theorem dL_law_746 : decode cL_law 746 = .ok (.iadd, 1) := by decide +kernel
theorem dL_law_747 : decode cL_law 747 = .ok (.iaload, 1) := by decide +kernel
theorem dL_law_748 : decode cL_law 748 = .ok (.invokevirtual 101, 3) := by decide +kernel
theorem dL_law_751 : decode cL_law 751 = .ok (.aload_n 2, 1) := by decide +kernel
theorem dL_law_752 : decode cL_law 752 = .ok (.aload_n 0, 1) := by decide +kernel
theorem dL_law_753 : decode cL_law 753 = .ok (.iload_n 3, 1) := by decide +kernel
theorem dL_law_754 : decode cL_law 754 = .ok (.iconst 1, 1) := by decide +kernel
theorem dL_law_755 : decode cL_law 755 = .ok (.iadd, 1) := by decide +kernel
theorem dL_law_756 : decode cL_law 756 = .ok (.iaload, 1) := by decide +kernel
theorem dL_law_757 : decode cL_law 757 = .ok (.aload_n 0, 1) := by decide +kernel
theorem dL_law_758 : decode cL_law 758 = .ok (.iload_n 3, 1) := by decide +kernel
theorem dL_law_759 : decode cL_law 759 = .ok (.iconst 2, 1) := by decide +kernel
theorem dL_law_760 : decode cL_law 760 = .ok (.iadd, 1) := by decide +kernel
theorem dL_law_761 : decode cL_law 761 = .ok (.iaload, 1) := by decide +kernel
theorem dL_law_762 : decode cL_law 762 = .ok (.invokevirtual 104, 3) := by decide +kernel
theorem dL_law_765 : decode cL_law 765 = .ok (.if_icmp .eq 281, 3) := by decide +kernel
theorem dL_law_768 : decode cL_law 768 = .ok (.iconst 0, 1) := by decide +kernel
theorem dL_law_769 : decode cL_law 769 = .ok (.ireturn, 1) := by decide +kernel
theorem dL_law_770 : decode cL_law 770 = .ok (.aload_n 1, 1) := by decide +kernel
theorem dL_law_771 : decode cL_law 771 = .ok (.aload_n 0, 1) := by decide +kernel
theorem dL_law_772 : decode cL_law 772 = .ok (.iload_n 3, 1) := by decide +kernel
theorem dL_law_773 : decode cL_law 773 = .ok (.iconst 1, 1) := by decide +kernel
theorem dL_law_774 : decode cL_law 774 = .ok (.iadd, 1) := by decide +kernel
theorem dL_law_775 : decode cL_law 775 = .ok (.iaload, 1) := by decide +kernel
theorem dL_law_776 : decode cL_law 776 = .ok (.invokevirtual 105, 3) := by decide +kernel
theorem dL_law_779 : decode cL_law 779 = .ok (.aload_n 2, 1) := by decide +kernel
theorem dL_law_780 : decode cL_law 780 = .ok (.aload_n 0, 1) := by decide +kernel
theorem dL_law_781 : decode cL_law 781 = .ok (.iload_n 3, 1) := by decide +kernel
theorem dL_law_782 : decode cL_law 782 = .ok (.iconst 1, 1) := by decide +kernel
theorem dL_law_783 : decode cL_law 783 = .ok (.iadd, 1) := by decide +kernel
theorem dL_law_784 : decode cL_law 784 = .ok (.iaload, 1) := by decide +kernel
theorem dL_law_785 : decode cL_law 785 = .ok (.invokevirtual 108, 3) := by decide +kernel
theorem dL_law_788 : decode cL_law 788 = .ok (.if_icmp .eq 258, 3) := by decide +kernel
theorem dL_law_791 : decode cL_law 791 = .ok (.iconst 0, 1) := by decide +kernel
theorem dL_law_792 : decode cL_law 792 = .ok (.ireturn, 1) := by decide +kernel
theorem dL_law_793 : decode cL_law 793 = .ok (.aload_n 1, 1) := by decide +kernel
theorem dL_law_794 : decode cL_law 794 = .ok (.aload_n 0, 1) := by decide +kernel
theorem dL_law_795 : decode cL_law 795 = .ok (.iload_n 3, 1) := by decide +kernel
theorem dL_law_796 : decode cL_law 796 = .ok (.iconst 1, 1) := by decide +kernel
theorem dL_law_797 : decode cL_law 797 = .ok (.iadd, 1) := by decide +kernel
theorem dL_law_798 : decode cL_law 798 = .ok (.iaload, 1) := by decide +kernel
theorem dL_law_799 : decode cL_law 799 = .ok (.invokevirtual 109, 3) := by decide +kernel
theorem dL_law_802 : decode cL_law 802 = .ok (.aload_n 2, 1) := by decide +kernel
theorem dL_law_803 : decode cL_law 803 = .ok (.aload_n 0, 1) := by decide +kernel
theorem dL_law_804 : decode cL_law 804 = .ok (.iload_n 3, 1) := by decide +kernel
theorem dL_law_805 : decode cL_law 805 = .ok (.iconst 1, 1) := by decide +kernel
theorem dL_law_806 : decode cL_law 806 = .ok (.iadd, 1) := by decide +kernel
theorem dL_law_807 : decode cL_law 807 = .ok (.iaload, 1) := by decide +kernel
theorem dL_law_808 : decode cL_law 808 = .ok (.invokevirtual 112, 3) := by decide +kernel
theorem dL_law_811 : decode cL_law 811 = .ok (.if_icmp .eq 235, 3) := by decide +kernel
theorem dL_law_814 : decode cL_law 814 = .ok (.iconst 0, 1) := by decide +kernel
theorem dL_law_815 : decode cL_law 815 = .ok (.ireturn, 1) := by decide +kernel
theorem dL_law_816 : decode cL_law 816 = .ok (.aload_n 1, 1) := by decide +kernel
theorem dL_law_817 : decode cL_law 817 = .ok (.aload_n 0, 1) := by decide +kernel
theorem dL_law_818 : decode cL_law 818 = .ok (.iload_n 3, 1) := by decide +kernel
theorem dL_law_819 : decode cL_law 819 = .ok (.iconst 1, 1) := by decide +kernel
theorem dL_law_820 : decode cL_law 820 = .ok (.iadd, 1) := by decide +kernel
theorem dL_law_821 : decode cL_law 821 = .ok (.iaload, 1) := by decide +kernel
theorem dL_law_822 : decode cL_law 822 = .ok (.aload_n 0, 1) := by decide +kernel
theorem dL_law_823 : decode cL_law 823 = .ok (.iload_n 3, 1) := by decide +kernel
theorem dL_law_824 : decode cL_law 824 = .ok (.iconst 2, 1) := by decide +kernel
theorem dL_law_825 : decode cL_law 825 = .ok (.iadd, 1) := by decide +kernel
theorem dL_law_826 : decode cL_law 826 = .ok (.iaload, 1) := by decide +kernel
theorem dL_law_827 : decode cL_law 827 = .ok (.invokevirtual 113, 3) := by decide +kernel
theorem dL_law_830 : decode cL_law 830 = .ok (.aload_n 2, 1) := by decide +kernel
theorem dL_law_831 : decode cL_law 831 = .ok (.aload_n 0, 1) := by decide +kernel
theorem dL_law_832 : decode cL_law 832 = .ok (.iload_n 3, 1) := by decide +kernel
theorem dL_law_833 : decode cL_law 833 = .ok (.iconst 1, 1) := by decide +kernel
theorem dL_law_834 : decode cL_law 834 = .ok (.iadd, 1) := by decide +kernel
theorem dL_law_835 : decode cL_law 835 = .ok (.iaload, 1) := by decide +kernel
theorem dL_law_836 : decode cL_law 836 = .ok (.aload_n 0, 1) := by decide +kernel
theorem dL_law_837 : decode cL_law 837 = .ok (.iload_n 3, 1) := by decide +kernel
theorem dL_law_838 : decode cL_law 838 = .ok (.iconst 2, 1) := by decide +kernel
theorem dL_law_839 : decode cL_law 839 = .ok (.iadd, 1) := by decide +kernel
theorem dL_law_840 : decode cL_law 840 = .ok (.iaload, 1) := by decide +kernel
theorem dL_law_841 : decode cL_law 841 = .ok (.invokevirtual 116, 3) := by decide +kernel
theorem dL_law_844 : decode cL_law 844 = .ok (.if_icmp .eq 202, 3) := by decide +kernel
theorem dL_law_847 : decode cL_law 847 = .ok (.iconst 0, 1) := by decide +kernel
theorem dL_law_848 : decode cL_law 848 = .ok (.ireturn, 1) := by decide +kernel
theorem dL_law_849 : decode cL_law 849 = .ok (.aload_n 1, 1) := by decide +kernel
theorem dL_law_850 : decode cL_law 850 = .ok (.aload_n 0, 1) := by decide +kernel
theorem dL_law_851 : decode cL_law 851 = .ok (.iload_n 3, 1) := by decide +kernel
theorem dL_law_852 : decode cL_law 852 = .ok (.iconst 1, 1) := by decide +kernel
theorem dL_law_853 : decode cL_law 853 = .ok (.iadd, 1) := by decide +kernel
theorem dL_law_854 : decode cL_law 854 = .ok (.iaload, 1) := by decide +kernel
theorem dL_law_855 : decode cL_law 855 = .ok (.aload_n 0, 1) := by decide +kernel
theorem dL_law_856 : decode cL_law 856 = .ok (.iload_n 3, 1) := by decide +kernel
theorem dL_law_857 : decode cL_law 857 = .ok (.iconst 2, 1) := by decide +kernel
theorem dL_law_858 : decode cL_law 858 = .ok (.iadd, 1) := by decide +kernel
theorem dL_law_859 : decode cL_law 859 = .ok (.iaload, 1) := by decide +kernel
theorem dL_law_860 : decode cL_law 860 = .ok (.invokevirtual 117, 3) := by decide +kernel
theorem dL_law_863 : decode cL_law 863 = .ok (.aload_n 2, 1) := by decide +kernel
theorem dL_law_864 : decode cL_law 864 = .ok (.aload_n 0, 1) := by decide +kernel
theorem dL_law_865 : decode cL_law 865 = .ok (.iload_n 3, 1) := by decide +kernel
theorem dL_law_866 : decode cL_law 866 = .ok (.iconst 1, 1) := by decide +kernel
theorem dL_law_867 : decode cL_law 867 = .ok (.iadd, 1) := by decide +kernel
theorem dL_law_868 : decode cL_law 868 = .ok (.iaload, 1) := by decide +kernel
theorem dL_law_869 : decode cL_law 869 = .ok (.aload_n 0, 1) := by decide +kernel
theorem dL_law_870 : decode cL_law 870 = .ok (.iload_n 3, 1) := by decide +kernel
theorem dL_law_871 : decode cL_law 871 = .ok (.iconst 2, 1) := by decide +kernel
theorem dL_law_872 : decode cL_law 872 = .ok (.iadd, 1) := by decide +kernel
theorem dL_law_873 : decode cL_law 873 = .ok (.iaload, 1) := by decide +kernel
theorem dL_law_874 : decode cL_law 874 = .ok (.invokevirtual 120, 3) := by decide +kernel
theorem dL_law_877 : decode cL_law 877 = .ok (.if_icmp .eq 169, 3) := by decide +kernel
theorem dL_law_880 : decode cL_law 880 = .ok (.iconst 0, 1) := by decide +kernel
theorem dL_law_881 : decode cL_law 881 = .ok (.ireturn, 1) := by decide +kernel
theorem dL_law_882 : decode cL_law 882 = .ok (.aload_n 1, 1) := by decide +kernel
theorem dL_law_883 : decode cL_law 883 = .ok (.aload_n 0, 1) := by decide +kernel
theorem dL_law_884 : decode cL_law 884 = .ok (.iload_n 3, 1) := by decide +kernel
theorem dL_law_885 : decode cL_law 885 = .ok (.iconst 1, 1) := by decide +kernel
theorem dL_law_886 : decode cL_law 886 = .ok (.iadd, 1) := by decide +kernel
theorem dL_law_887 : decode cL_law 887 = .ok (.iaload, 1) := by decide +kernel
theorem dL_law_888 : decode cL_law 888 = .ok (.invokevirtual 121, 3) := by decide +kernel
theorem dL_law_891 : decode cL_law 891 = .ok (.aload_n 2, 1) := by decide +kernel
theorem dL_law_892 : decode cL_law 892 = .ok (.aload_n 0, 1) := by decide +kernel
theorem dL_law_893 : decode cL_law 893 = .ok (.iload_n 3, 1) := by decide +kernel
theorem dL_law_894 : decode cL_law 894 = .ok (.iconst 1, 1) := by decide +kernel
theorem dL_law_895 : decode cL_law 895 = .ok (.iadd, 1) := by decide +kernel
theorem dL_law_896 : decode cL_law 896 = .ok (.iaload, 1) := by decide +kernel
theorem dL_law_897 : decode cL_law 897 = .ok (.invokevirtual 124, 3) := by decide +kernel
theorem dL_law_900 : decode cL_law 900 = .ok (.if_icmp .eq 146, 3) := by decide +kernel
theorem dL_law_903 : decode cL_law 903 = .ok (.iconst 0, 1) := by decide +kernel
theorem dL_law_904 : decode cL_law 904 = .ok (.ireturn, 1) := by decide +kernel
theorem dL_law_905 : decode cL_law 905 = .ok (.aload_n 1, 1) := by decide +kernel
theorem dL_law_906 : decode cL_law 906 = .ok (.invokevirtual 125, 3) := by decide +kernel
theorem dL_law_909 : decode cL_law 909 = .ok (.aload_n 2, 1) := by decide +kernel
theorem dL_law_910 : decode cL_law 910 = .ok (.invokevirtual 128, 3) := by decide +kernel
theorem dL_law_913 : decode cL_law 913 = .ok (.if_icmp .eq 133, 3) := by decide +kernel
theorem dL_law_916 : decode cL_law 916 = .ok (.iconst 0, 1) := by decide +kernel
theorem dL_law_917 : decode cL_law 917 = .ok (.ireturn, 1) := by decide +kernel
theorem dL_law_918 : decode cL_law 918 = .ok (.aload_n 1, 1) := by decide +kernel
theorem dL_law_919 : decode cL_law 919 = .ok (.aload_n 0, 1) := by decide +kernel
theorem dL_law_920 : decode cL_law 920 = .ok (.iload_n 3, 1) := by decide +kernel
theorem dL_law_921 : decode cL_law 921 = .ok (.iconst 1, 1) := by decide +kernel
theorem dL_law_922 : decode cL_law 922 = .ok (.iadd, 1) := by decide +kernel
theorem dL_law_923 : decode cL_law 923 = .ok (.iaload, 1) := by decide +kernel
theorem dL_law_924 : decode cL_law 924 = .ok (.aload_n 0, 1) := by decide +kernel
theorem dL_law_925 : decode cL_law 925 = .ok (.iload_n 3, 1) := by decide +kernel
theorem dL_law_926 : decode cL_law 926 = .ok (.iconst 2, 1) := by decide +kernel
theorem dL_law_927 : decode cL_law 927 = .ok (.iadd, 1) := by decide +kernel
theorem dL_law_928 : decode cL_law 928 = .ok (.iaload, 1) := by decide +kernel
theorem dL_law_929 : decode cL_law 929 = .ok (.invokevirtual 129, 3) := by decide +kernel
theorem dL_law_932 : decode cL_law 932 = .ok (.aload_n 2, 1) := by decide +kernel
theorem dL_law_933 : decode cL_law 933 = .ok (.aload_n 0, 1) := by decide +kernel
theorem dL_law_934 : decode cL_law 934 = .ok (.iload_n 3, 1) := by decide +kernel
theorem dL_law_935 : decode cL_law 935 = .ok (.iconst 1, 1) := by decide +kernel
theorem dL_law_936 : decode cL_law 936 = .ok (.iadd, 1) := by decide +kernel
theorem dL_law_937 : decode cL_law 937 = .ok (.iaload, 1) := by decide +kernel
theorem dL_law_938 : decode cL_law 938 = .ok (.aload_n 0, 1) := by decide +kernel
theorem dL_law_939 : decode cL_law 939 = .ok (.iload_n 3, 1) := by decide +kernel
theorem dL_law_940 : decode cL_law 940 = .ok (.iconst 2, 1) := by decide +kernel
theorem dL_law_941 : decode cL_law 941 = .ok (.iadd, 1) := by decide +kernel
theorem dL_law_942 : decode cL_law 942 = .ok (.iaload, 1) := by decide +kernel
theorem dL_law_943 : decode cL_law 943 = .ok (.invokevirtual 132, 3) := by decide +kernel
theorem dL_law_946 : decode cL_law 946 = .ok (.if_icmp .eq 100, 3) := by decide +kernel
theorem dL_law_949 : decode cL_law 949 = .ok (.iconst 0, 1) := by decide +kernel
theorem dL_law_950 : decode cL_law 950 = .ok (.ireturn, 1) := by decide +kernel
theorem dL_law_951 : decode cL_law 951 = .ok (.aload_n 1, 1) := by decide +kernel
theorem dL_law_952 : decode cL_law 952 = .ok (.invokevirtual 133, 3) := by decide +kernel
theorem dL_law_955 : decode cL_law 955 = .ok (.aload_n 2, 1) := by decide +kernel
theorem dL_law_956 : decode cL_law 956 = .ok (.invokevirtual 136, 3) := by decide +kernel
theorem dL_law_959 : decode cL_law 959 = .ok (.if_icmp .eq 87, 3) := by decide +kernel
theorem dL_law_962 : decode cL_law 962 = .ok (.iconst 0, 1) := by decide +kernel
theorem dL_law_963 : decode cL_law 963 = .ok (.ireturn, 1) := by decide +kernel
theorem dL_law_964 : decode cL_law 964 = .ok (.aload_n 1, 1) := by decide +kernel
theorem dL_law_965 : decode cL_law 965 = .ok (.invokevirtual 137, 3) := by decide +kernel
theorem dL_law_968 : decode cL_law 968 = .ok (.aload_n 2, 1) := by decide +kernel
theorem dL_law_969 : decode cL_law 969 = .ok (.invokevirtual 140, 3) := by decide +kernel
theorem dL_law_972 : decode cL_law 972 = .ok (.if_icmp .eq 74, 3) := by decide +kernel
theorem dL_law_975 : decode cL_law 975 = .ok (.iconst 0, 1) := by decide +kernel
theorem dL_law_976 : decode cL_law 976 = .ok (.ireturn, 1) := by decide +kernel
theorem dL_law_977 : decode cL_law 977 = .ok (.aload_n 1, 1) := by decide +kernel
theorem dL_law_978 : decode cL_law 978 = .ok (.aload_n 0, 1) := by decide +kernel
theorem dL_law_979 : decode cL_law 979 = .ok (.iload_n 3, 1) := by decide +kernel
theorem dL_law_980 : decode cL_law 980 = .ok (.iconst 1, 1) := by decide +kernel
theorem dL_law_981 : decode cL_law 981 = .ok (.iadd, 1) := by decide +kernel
theorem dL_law_982 : decode cL_law 982 = .ok (.iaload, 1) := by decide +kernel
theorem dL_law_983 : decode cL_law 983 = .ok (.invokevirtual 141, 3) := by decide +kernel
theorem dL_law_986 : decode cL_law 986 = .ok (.aload_n 2, 1) := by decide +kernel
theorem dL_law_987 : decode cL_law 987 = .ok (.aload_n 0, 1) := by decide +kernel
theorem dL_law_988 : decode cL_law 988 = .ok (.iload_n 3, 1) := by decide +kernel
theorem dL_law_989 : decode cL_law 989 = .ok (.iconst 1, 1) := by decide +kernel
theorem dL_law_990 : decode cL_law 990 = .ok (.iadd, 1) := by decide +kernel
theorem dL_law_991 : decode cL_law 991 = .ok (.iaload, 1) := by decide +kernel
theorem dL_law_992 : decode cL_law 992 = .ok (.invokevirtual 144, 3) := by decide +kernel
theorem dL_law_995 : decode cL_law 995 = .ok (.if_icmp .eq 51, 3) := by decide +kernel
theorem dL_law_998 : decode cL_law 998 = .ok (.iconst 0, 1) := by decide +kernel
theorem dL_law_999 : decode cL_law 999 = .ok (.ireturn, 1) := by decide +kernel
theorem dL_law_1000 : decode cL_law 1000 = .ok (.aload_n 1, 1) := by decide +kernel
theorem dL_law_1001 : decode cL_law 1001 = .ok (.aload_n 0, 1) := by decide +kernel
theorem dL_law_1002 : decode cL_law 1002 = .ok (.iload_n 3, 1) := by decide +kernel
theorem dL_law_1003 : decode cL_law 1003 = .ok (.iconst 1, 1) := by decide +kernel
theorem dL_law_1004 : decode cL_law 1004 = .ok (.iadd, 1) := by decide +kernel
theorem dL_law_1005 : decode cL_law 1005 = .ok (.iaload, 1) := by decide +kernel
theorem dL_law_1006 : decode cL_law 1006 = .ok (.invokevirtual 145, 3) := by decide +kernel
theorem dL_law_1009 : decode cL_law 1009 = .ok (.aload_n 2, 1) := by decide +kernel
theorem dL_law_1010 : decode cL_law 1010 = .ok (.aload_n 0, 1) := by decide +kernel
theorem dL_law_1011 : decode cL_law 1011 = .ok (.iload_n 3, 1) := by decide +kernel
theorem dL_law_1012 : decode cL_law 1012 = .ok (.iconst 1, 1) := by decide +kernel
theorem dL_law_1013 : decode cL_law 1013 = .ok (.iadd, 1) := by decide +kernel
theorem dL_law_1014 : decode cL_law 1014 = .ok (.iaload, 1) := by decide +kernel
theorem dL_law_1015 : decode cL_law 1015 = .ok (.invokevirtual 148, 3) := by decide +kernel
theorem dL_law_1018 : decode cL_law 1018 = .ok (.if_icmp .eq 28, 3) := by decide +kernel
theorem dL_law_1021 : decode cL_law 1021 = .ok (.iconst 0, 1) := by decide +kernel
theorem dL_law_1022 : decode cL_law 1022 = .ok (.ireturn, 1) := by decide +kernel
theorem dL_law_1023 : decode cL_law 1023 = .ok (.aload_n 1, 1) := by decide +kernel
theorem dL_law_1024 : decode cL_law 1024 = .ok (.aload_n 0, 1) := by decide +kernel
theorem dL_law_1025 : decode cL_law 1025 = .ok (.iload_n 3, 1) := by decide +kernel
theorem dL_law_1026 : decode cL_law 1026 = .ok (.iconst 1, 1) := by decide +kernel
theorem dL_law_1027 : decode cL_law 1027 = .ok (.iadd, 1) := by decide +kernel
theorem dL_law_1028 : decode cL_law 1028 = .ok (.iaload, 1) := by decide +kernel
theorem dL_law_1029 : decode cL_law 1029 = .ok (.invokevirtual 149, 3) := by decide +kernel
theorem dL_law_1032 : decode cL_law 1032 = .ok (.aload_n 2, 1) := by decide +kernel
theorem dL_law_1033 : decode cL_law 1033 = .ok (.aload_n 0, 1) := by decide +kernel
theorem dL_law_1034 : decode cL_law 1034 = .ok (.iload_n 3, 1) := by decide +kernel
theorem dL_law_1035 : decode cL_law 1035 = .ok (.iconst 1, 1) := by decide +kernel
theorem dL_law_1036 : decode cL_law 1036 = .ok (.iadd, 1) := by decide +kernel
theorem dL_law_1037 : decode cL_law 1037 = .ok (.iaload, 1) := by decide +kernel
theorem dL_law_1038 : decode cL_law 1038 = .ok (.invokevirtual 152, 3) := by decide +kernel
theorem dL_law_1041 : decode cL_law 1041 = .ok (.if_icmp .eq 5, 3) := by decide +kernel
theorem dL_law_1044 : decode cL_law 1044 = .ok (.iconst 0, 1) := by decide +kernel
theorem dL_law_1045 : decode cL_law 1045 = .ok (.ireturn, 1) := by decide +kernel
theorem dL_law_1046 : decode cL_law 1046 = .ok (.iinc 3 4, 3) := by decide +kernel
theorem dL_law_1049 : decode cL_law 1049 = .ok (.goto (-1031), 3) := by decide +kernel
theorem dL_law_1052 : decode cL_law 1052 = .ok (.iconst 1, 1) := by decide +kernel
theorem dL_law_1053 : decode cL_law 1053 = .ok (.ireturn, 1) := by decide +kernel
