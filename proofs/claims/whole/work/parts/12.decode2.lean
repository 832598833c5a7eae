theorem dX12_here_53 : decode cX12_here 53 = .ok (.aload_n 0, 1) := by decide +kernel
theorem dX12_here_54 : decode cX12_here 54 = .ok (.getfield 95, 3) := by decide +kernel
theorem dX12_here_57 : decode cX12_here 57 = .ok (.iaload, 1) := by decide +kernel
theorem dX12_here_58 : decode cX12_here 58 = .ok (.goto 4, 3) := by decide +kernel
theorem dX12_here_61 : decode cX12_here 61 = .ok (.iconst (-1), 1) := by decide +kernel
theorem dX12_here_62 : decode cX12_here 62 = .ok (.ireturn, 1) := by decide +kernel
theorem dX12_fails_0 : decode cX12_fails 0 = .ok (.aload_n 0, 1) := by decide +kernel
theorem dX12_fails_1 : decode cX12_fails 1 = .ok (.iload_n 2, 1) := by decide +kernel
theorem dX12_fails_2 : decode cX12_fails 2 = .ok (.putfield 31, 3) := by decide +kernel
theorem dX12_fails_5 : decode cX12_fails 5 = .ok (.iload_n 1, 1) := by decide +kernel
theorem dX12_fails_6 : decode cX12_fails 6 = .ok (.ireturn, 1) := by decide +kernel
theorem dX12_takeNumber_0 : decode cX12_takeNumber 0 = .ok (.aload_n 0, 1) := by decide +kernel
theorem dX12_takeNumber_1 : decode cX12_takeNumber 1 = .ok (.invokevirtual 98, 3) := by decide +kernel
theorem dX12_takeNumber_4 : decode cX12_takeNumber 4 = .ok (.istore_n 3, 1) := by decide +kernel
theorem dX12_takeNumber_5 : decode cX12_takeNumber 5 = .ok (.iload_n 3, 1) := by decide +kernel
theorem dX12_takeNumber_6 : decode cX12_takeNumber 6 = .ok (.i2l, 1) := by decide +kernel
theorem dX12_takeNumber_7 : decode cX12_takeNumber 7 = .ok (.ldc2_w 102, 3) := by decide +kernel
theorem dX12_takeNumber_10 : decode cX12_takeNumber 10 = .ok (.ldc2_w 104, 3) := by decide +kernel
theorem dX12_takeNumber_13 : decode cX12_takeNumber 13 = .ok (.invokestatic 81, 3) := by decide +kernel
theorem dX12_takeNumber_16 : decode cX12_takeNumber 16 = .ok (.ifCond .ne 13, 3) := by decide +kernel
theorem dX12_takeNumber_19 : decode cX12_takeNumber 19 = .ok (.aload_n 0, 1) := by decide +kernel
theorem dX12_takeNumber_20 : decode cX12_takeNumber 20 = .ok (.iconst 1, 1) := by decide +kernel
theorem dX12_takeNumber_21 : decode cX12_takeNumber 21 = .ok (.aload_n 0, 1) := by decide +kernel
theorem dX12_takeNumber_22 : decode cX12_takeNumber 22 = .ok (.getfield 95, 3) := by decide +kernel
theorem dX12_takeNumber_25 : decode cX12_takeNumber 25 = .ok (.invokevirtual 106, 3) := by decide +kernel
theorem dX12_takeNumber_28 : decode cX12_takeNumber 28 = .ok (.ireturn, 1) := by decide +kernel
theorem dX12_takeNumber_29 : decode cX12_takeNumber 29 = .ok (.aload_n 0, 1) := by decide +kernel
theorem dX12_takeNumber_30 : decode cX12_takeNumber 30 = .ok (.aload_n 0, 1) := by decide +kernel
theorem dX12_takeNumber_31 : decode cX12_takeNumber 31 = .ok (.getfield 95, 3) := by decide +kernel
theorem dX12_takeNumber_34 : decode cX12_takeNumber 34 = .ok (.putfield 110, 3) := by decide +kernel
theorem dX12_takeNumber_37 : decode cX12_takeNumber 37 = .ok (.aload_n 0, 1) := by decide +kernel
theorem dX12_takeNumber_38 : decode cX12_takeNumber 38 = .ok (.iconst 0, 1) := by decide +kernel
theorem dX12_takeNumber_39 : decode cX12_takeNumber 39 = .ok (.putfield 113, 3) := by decide +kernel
theorem dX12_takeNumber_42 : decode cX12_takeNumber 42 = .ok (.aload_n 0, 1) := by decide +kernel
theorem dX12_takeNumber_43 : decode cX12_takeNumber 43 = .ok (.getfield 95, 3) := by decide +kernel
theorem dX12_takeNumber_46 : decode cX12_takeNumber 46 = .ok (.aload_n 0, 1) := by decide +kernel
theorem dX12_takeNumber_47 : decode cX12_takeNumber 47 = .ok (.getfield 91, 3) := by decide +kernel
theorem dX12_takeNumber_50 : decode cX12_takeNumber 50 = .ok (.if_icmp .ge 79, 3) := by decide +kernel
theorem dX12_takeNumber_53 : decode cX12_takeNumber 53 = .ok (.aload_n 0, 1) := by decide +kernel
theorem dX12_takeNumber_54 : decode cX12_takeNumber 54 = .ok (.getfield 28, 3) := by decide +kernel
theorem dX12_takeNumber_57 : decode cX12_takeNumber 57 = .ok (.aload_n 0, 1) := by decide +kernel
theorem dX12_takeNumber_58 : decode cX12_takeNumber 58 = .ok (.getfield 95, 3) := by decide +kernel
theorem dX12_takeNumber_61 : decode cX12_takeNumber 61 = .ok (.iaload, 1) := by decide +kernel
theorem dX12_takeNumber_62 : decode cX12_takeNumber 62 = .ok (.i2l, 1) := by decide +kernel
theorem dX12_takeNumber_63 : decode cX12_takeNumber 63 = .ok (.ldc2_w 102, 3) := by decide +kernel
theorem dX12_takeNumber_66 : decode cX12_takeNumber 66 = .ok (.ldc2_w 104, 3) := by decide +kernel
theorem dX12_takeNumber_69 : decode cX12_takeNumber 69 = .ok (.invokestatic 81, 3) := by decide +kernel
theorem dX12_takeNumber_72 : decode cX12_takeNumber 72 = .ok (.ifCond .eq 57, 3) := by decide +kernel
theorem dX12_takeNumber_75 : decode cX12_takeNumber 75 = .ok (.aload_n 0, 1) := by decide +kernel
theorem dX12_takeNumber_76 : decode cX12_takeNumber 76 = .ok (.aload_n 0, 1) := by decide +kernel
theorem dX12_takeNumber_77 : decode cX12_takeNumber 77 = .ok (.getfield 113, 3) := by decide +kernel
theorem dX12_takeNumber_80 : decode cX12_takeNumber 80 = .ok (.sipush 10000, 3) := by decide +kernel
theorem dX12_takeNumber_83 : decode cX12_takeNumber 83 = .ok (.if_icmp .le 10, 3) := by decide +kernel
theorem dX12_takeNumber_86 : decode cX12_takeNumber 86 = .ok (.aload_n 0, 1) := by decide +kernel
theorem dX12_takeNumber_87 : decode cX12_takeNumber 87 = .ok (.getfield 113, 3) := by decide +kernel
theorem dX12_takeNumber_90 : decode cX12_takeNumber 90 = .ok (.goto 23, 3) := by decide +kernel
theorem dX12_takeNumber_93 : decode cX12_takeNumber 93 = .ok (.bipush 10, 2) := by decide +kernel
theorem dX12_takeNumber_95 : decode cX12_takeNumber 95 = .ok (.aload_n 0, 1) := by decide +kernel
theorem dX12_takeNumber_96 : decode cX12_takeNumber 96 = .ok (.getfield 113, 3) := by decide +kernel
theorem dX12_takeNumber_99 : decode cX12_takeNumber 99 = .ok (.imul, 1) := by decide +kernel
theorem dX12_takeNumber_100 : decode cX12_takeNumber 100 = .ok (.aload_n 0, 1) := by decide +kernel
theorem dX12_takeNumber_101 : decode cX12_takeNumber 101 = .ok (.getfield 28, 3) := by decide +kernel
theorem dX12_takeNumber_104 : decode cX12_takeNumber 104 = .ok (.aload_n 0, 1) := by decide +kernel
theorem dX12_takeNumber_105 : decode cX12_takeNumber 105 = .ok (.getfield 95, 3) := by decide +kernel
theorem dX12_takeNumber_108 : decode cX12_takeNumber 108 = .ok (.iaload, 1) := by decide +kernel
theorem dX12_takeNumber_109 : decode cX12_takeNumber 109 = .ok (.iadd, 1) := by decide +kernel
theorem dX12_takeNumber_110 : decode cX12_takeNumber 110 = .ok (.bipush 48, 2) := by decide +kernel
theorem dX12_takeNumber_112 : decode cX12_takeNumber 112 = .ok (.isub, 1) := by decide +kernel
theorem dX12_takeNumber_113 : decode cX12_takeNumber 113 = .ok (.putfield 113, 3) := by decide +kernel
theorem dX12_takeNumber_116 : decode cX12_takeNumber 116 = .ok (.aload_n 0, 1) := by decide +kernel
theorem dX12_takeNumber_117 : decode cX12_takeNumber 117 = .ok (.dup, 1) := by decide +kernel
theorem dX12_takeNumber_118 : decode cX12_takeNumber 118 = .ok (.getfield 95, 3) := by decide +kernel
theorem dX12_takeNumber_121 : decode cX12_takeNumber 121 = .ok (.iconst 1, 1) := by decide +kernel
theorem dX12_takeNumber_122 : decode cX12_takeNumber 122 = .ok (.iadd, 1) := by decide +kernel
theorem dX12_takeNumber_123 : decode cX12_takeNumber 123 = .ok (.putfield 95, 3) := by decide +kernel
theorem dX12_takeNumber_126 : decode cX12_takeNumber 126 = .ok (.goto (-84), 3) := by decide +kernel
theorem dX12_takeNumber_129 : decode cX12_takeNumber 129 = .ok (.aload_n 0, 1) := by decide +kernel
theorem dX12_takeNumber_130 : decode cX12_takeNumber 130 = .ok (.getfield 95, 3) := by decide +kernel
theorem dX12_takeNumber_133 : decode cX12_takeNumber 133 = .ok (.aload_n 0, 1) := by decide +kernel
theorem dX12_takeNumber_134 : decode cX12_takeNumber 134 = .ok (.getfield 110, 3) := by decide +kernel
theorem dX12_takeNumber_137 : decode cX12_takeNumber 137 = .ok (.isub, 1) := by decide +kernel
theorem dX12_takeNumber_138 : decode cX12_takeNumber 138 = .ok (.iconst 3, 1) := by decide +kernel
theorem dX12_takeNumber_139 : decode cX12_takeNumber 139 = .ok (.if_icmp .gt 18, 3) := by decide +kernel
theorem dX12_takeNumber_142 : decode cX12_takeNumber 142 = .ok (.aload_n 0, 1) := by decide +kernel
theorem dX12_takeNumber_143 : decode cX12_takeNumber 143 = .ok (.getfield 113, 3) := by decide +kernel
theorem dX12_takeNumber_146 : decode cX12_takeNumber 146 = .ok (.i2l, 1) := by decide +kernel
theorem dX12_takeNumber_147 : decode cX12_takeNumber 147 = .ok (.iload_n 1, 1) := by decide +kernel
theorem dX12_takeNumber_148 : decode cX12_takeNumber 148 = .ok (.i2l, 1) := by decide +kernel
theorem dX12_takeNumber_149 : decode cX12_takeNumber 149 = .ok (.iload_n 2, 1) := by decide +kernel
theorem dX12_takeNumber_150 : decode cX12_takeNumber 150 = .ok (.i2l, 1) := by decide +kernel
theorem dX12_takeNumber_151 : decode cX12_takeNumber 151 = .ok (.invokestatic 81, 3) := by decide +kernel
theorem dX12_takeNumber_154 : decode cX12_takeNumber 154 = .ok (.ifCond .ne 15, 3) := by decide +kernel
theorem dX12_takeNumber_157 : decode cX12_takeNumber 157 = .ok (.aload_n 0, 1) := by decide +kernel
theorem dX12_takeNumber_158 : decode cX12_takeNumber 158 = .ok (.iconst 2, 1) := by decide +kernel
theorem dX12_takeNumber_159 : decode cX12_takeNumber 159 = .ok (.aload_n 0, 1) := by decide +kernel
theorem dX12_takeNumber_160 : decode cX12_takeNumber 160 = .ok (.getfield 110, 3) := by decide +kernel
theorem dX12_takeNumber_163 : decode cX12_takeNumber 163 = .ok (.invokevirtual 106, 3) := by decide +kernel
theorem dX12_takeNumber_166 : decode cX12_takeNumber 166 = .ok (.goto 4, 3) := by decide +kernel
theorem dX12_takeNumber_169 : decode cX12_takeNumber 169 = .ok (.iconst 0, 1) := by decide +kernel
theorem dX12_takeNumber_170 : decode cX12_takeNumber 170 = .ok (.ireturn, 1) := by decide +kernel
theorem dX12_into_0 : decode cX12_into 0 = .ok (.aload_n 0, 1) := by decide +kernel
theorem dX12_into_1 : decode cX12_into 1 = .ok (.iload_n 3, 1) := by decide +kernel
theorem dX12_into_2 : decode cX12_into 2 = .ok (.iload 4, 2) := by decide +kernel
theorem dX12_into_4 : decode cX12_into 4 = .ok (.invokevirtual 116, 3) := by decide +kernel
theorem dX12_into_7 : decode cX12_into 7 = .ok (.istore 5, 2) := by decide +kernel
theorem dX12_into_9 : decode cX12_into 9 = .ok (.aload_n 1, 1) := by decide +kernel
theorem dX12_into_10 : decode cX12_into 10 = .ok (.iload_n 2, 1) := by decide +kernel
theorem dX12_into_11 : decode cX12_into 11 = .ok (.aload_n 0, 1) := by decide +kernel
theorem dX12_into_12 : decode cX12_into 12 = .ok (.getfield 113, 3) := by decide +kernel
theorem dX12_into_15 : decode cX12_into 15 = .ok (.iastore, 1) := by decide +kernel
theorem dX12_into_16 : decode cX12_into 16 = .ok (.iload 5, 2) := by decide +kernel
theorem dX12_into_18 : decode cX12_into 18 = .ok (.ireturn, 1) := by decide +kernel
theorem dX12_takeRoad_0 : decode cX12_takeRoad 0 = .ok (.aload_n 0, 1) := by decide +kernel
theorem dX12_takeRoad_1 : decode cX12_takeRoad 1 = .ok (.aload_n 0, 1) := by decide +kernel
theorem dX12_takeRoad_2 : decode cX12_takeRoad 2 = .ok (.getfield 35, 3) := by decide +kernel
theorem dX12_takeRoad_5 : decode cX12_takeRoad 5 = .ok (.iconst 0, 1) := by decide +kernel
theorem dX12_takeRoad_6 : decode cX12_takeRoad 6 = .ok (.iconst 0, 1) := by decide +kernel
theorem dX12_takeRoad_7 : decode cX12_takeRoad 7 = .ok (.bipush 60, 2) := by decide +kernel
theorem dX12_takeRoad_9 : decode cX12_takeRoad 9 = .ok (.invokevirtual 119, 3) := by decide +kernel
theorem dX12_takeRoad_12 : decode cX12_takeRoad 12 = .ok (.istore_n 1, 1) := by decide +kernel
theorem dX12_takeRoad_13 : decode cX12_takeRoad 13 = .ok (.aload_n 0, 1) := by decide +kernel
theorem dX12_takeRoad_14 : decode cX12_takeRoad 14 = .ok (.iconst 1, 1) := by decide +kernel
theorem dX12_takeRoad_15 : decode cX12_takeRoad 15 = .ok (.putfield 123, 3) := by decide +kernel
theorem dX12_takeRoad_18 : decode cX12_takeRoad 18 = .ok (.iload_n 1, 1) := by decide +kernel
theorem dX12_takeRoad_19 : decode cX12_takeRoad 19 = .ok (.ifCond .ne 70, 3) := by decide +kernel
theorem dX12_takeRoad_22 : decode cX12_takeRoad 22 = .ok (.aload_n 0, 1) := by decide +kernel
theorem dX12_takeRoad_23 : decode cX12_takeRoad 23 = .ok (.invokevirtual 98, 3) := by decide +kernel
theorem dX12_takeRoad_26 : decode cX12_takeRoad 26 = .ok (.bipush 44, 2) := by decide +kernel
theorem dX12_takeRoad_28 : decode cX12_takeRoad 28 = .ok (.if_icmp .ne 61, 3) := by decide +kernel
theorem dX12_takeRoad_31 : decode cX12_takeRoad 31 = .ok (.aload_n 0, 1) := by decide +kernel
theorem dX12_takeRoad_32 : decode cX12_takeRoad 32 = .ok (.getfield 123, 3) := by decide +kernel
theorem dX12_takeRoad_35 : decode cX12_takeRoad 35 = .ok (.bipush 20, 2) := by decide +kernel
theorem dX12_takeRoad_37 : decode cX12_takeRoad 37 = .ok (.if_icmp .ne 13, 3) := by decide +kernel
theorem dX12_takeRoad_40 : decode cX12_takeRoad 40 = .ok (.aload_n 0, 1) := by decide +kernel
theorem dX12_takeRoad_41 : decode cX12_takeRoad 41 = .ok (.iconst 1, 1) := by decide +kernel
theorem dX12_takeRoad_42 : decode cX12_takeRoad 42 = .ok (.aload_n 0, 1) := by decide +kernel
theorem dX12_takeRoad_43 : decode cX12_takeRoad 43 = .ok (.getfield 95, 3) := by decide +kernel
theorem dX12_takeRoad_46 : decode cX12_takeRoad 46 = .ok (.invokevirtual 106, 3) := by decide +kernel
theorem dX12_takeRoad_49 : decode cX12_takeRoad 49 = .ok (.ireturn, 1) := by decide +kernel
theorem dX12_takeRoad_50 : decode cX12_takeRoad 50 = .ok (.aload_n 0, 1) := by decide +kernel
theorem dX12_takeRoad_51 : decode cX12_takeRoad 51 = .ok (.dup, 1) := by decide +kernel
theorem dX12_takeRoad_52 : decode cX12_takeRoad 52 = .ok (.getfield 95, 3) := by decide +kernel
theorem dX12_takeRoad_55 : decode cX12_takeRoad 55 = .ok (.iconst 1, 1) := by decide +kernel
theorem dX12_takeRoad_56 : decode cX12_takeRoad 56 = .ok (.iadd, 1) := by decide +kernel
theorem dX12_takeRoad_57 : decode cX12_takeRoad 57 = .ok (.putfield 95, 3) := by decide +kernel
theorem dX12_takeRoad_60 : decode cX12_takeRoad 60 = .ok (.aload_n 0, 1) := by decide +kernel
theorem dX12_takeRoad_61 : decode cX12_takeRoad 61 = .ok (.aload_n 0, 1) := by decide +kernel
theorem dX12_takeRoad_62 : decode cX12_takeRoad 62 = .ok (.getfield 35, 3) := by decide +kernel
theorem dX12_takeRoad_65 : decode cX12_takeRoad 65 = .ok (.aload_n 0, 1) := by decide +kernel
theorem dX12_takeRoad_66 : decode cX12_takeRoad 66 = .ok (.getfield 123, 3) := by decide +kernel
theorem dX12_takeRoad_69 : decode cX12_takeRoad 69 = .ok (.iconst 0, 1) := by decide +kernel
theorem dX12_takeRoad_70 : decode cX12_takeRoad 70 = .ok (.bipush 60, 2) := by decide +kernel
theorem dX12_takeRoad_72 : decode cX12_takeRoad 72 = .ok (.invokevirtual 119, 3) := by decide +kernel
theorem dX12_takeRoad_75 : decode cX12_takeRoad 75 = .ok (.istore_n 1, 1) := by decide +kernel
theorem dX12_takeRoad_76 : decode cX12_takeRoad 76 = .ok (.aload_n 0, 1) := by decide +kernel
theorem dX12_takeRoad_77 : decode cX12_takeRoad 77 = .ok (.dup, 1) := by decide +kernel
theorem dX12_takeRoad_78 : decode cX12_takeRoad 78 = .ok (.getfield 123, 3) := by decide +kernel
theorem dX12_takeRoad_81 : decode cX12_takeRoad 81 = .ok (.iconst 1, 1) := by decide +kernel
theorem dX12_takeRoad_82 : decode cX12_takeRoad 82 = .ok (.iadd, 1) := by decide +kernel
theorem dX12_takeRoad_83 : decode cX12_takeRoad 83 = .ok (.putfield 123, 3) := by decide +kernel
theorem dX12_takeRoad_86 : decode cX12_takeRoad 86 = .ok (.goto (-68), 3) := by decide +kernel
theorem dX12_takeRoad_89 : decode cX12_takeRoad 89 = .ok (.iload_n 1, 1) := by decide +kernel
theorem dX12_takeRoad_90 : decode cX12_takeRoad 90 = .ok (.ifCond .ne 23, 3) := by decide +kernel
theorem dX12_takeRoad_93 : decode cX12_takeRoad 93 = .ok (.aload_n 0, 1) := by decide +kernel
theorem dX12_takeRoad_94 : decode cX12_takeRoad 94 = .ok (.getfield 123, 3) := by decide +kernel
theorem dX12_takeRoad_97 : decode cX12_takeRoad 97 = .ok (.iconst 1, 1) := by decide +kernel
theorem dX12_takeRoad_98 : decode cX12_takeRoad 98 = .ok (.if_icmp .ne 15, 3) := by decide +kernel
theorem dX12_takeRoad_101 : decode cX12_takeRoad 101 = .ok (.aload_n 0, 1) := by decide +kernel
theorem dX12_takeRoad_102 : decode cX12_takeRoad 102 = .ok (.iconst 1, 1) := by decide +kernel
theorem dX12_takeRoad_103 : decode cX12_takeRoad 103 = .ok (.aload_n 0, 1) := by decide +kernel
theorem dX12_takeRoad_104 : decode cX12_takeRoad 104 = .ok (.getfield 95, 3) := by decide +kernel
theorem dX12_takeRoad_107 : decode cX12_takeRoad 107 = .ok (.invokevirtual 106, 3) := by decide +kernel
theorem dX12_takeRoad_110 : decode cX12_takeRoad 110 = .ok (.goto 4, 3) := by decide +kernel
theorem dX12_takeRoad_113 : decode cX12_takeRoad 113 = .ok (.iload_n 1, 1) := by decide +kernel
theorem dX12_takeRoad_114 : decode cX12_takeRoad 114 = .ok (.ireturn, 1) := by decide +kernel
theorem dX12_takeWeather_0 : decode cX12_takeWeather 0 = .ok (.aload_n 0, 1) := by decide +kernel
theorem dX12_takeWeather_1 : decode cX12_takeWeather 1 = .ok (.aload_n 0, 1) := by decide +kernel
theorem dX12_takeWeather_2 : decode cX12_takeWeather 2 = .ok (.getfield 38, 3) := by decide +kernel
theorem dX12_takeWeather_5 : decode cX12_takeWeather 5 = .ok (.iconst 0, 1) := by decide +kernel
theorem dX12_takeWeather_6 : decode cX12_takeWeather 6 = .ok (.iconst 0, 1) := by decide +kernel
theorem dX12_takeWeather_7 : decode cX12_takeWeather 7 = .ok (.bipush 30, 2) := by decide +kernel
theorem dX12_takeWeather_9 : decode cX12_takeWeather 9 = .ok (.invokevirtual 119, 3) := by decide +kernel
theorem dX12_takeWeather_12 : decode cX12_takeWeather 12 = .ok (.istore_n 1, 1) := by decide +kernel
theorem dX12_takeWeather_13 : decode cX12_takeWeather 13 = .ok (.aload_n 0, 1) := by decide +kernel
theorem dX12_takeWeather_14 : decode cX12_takeWeather 14 = .ok (.iconst 1, 1) := by decide +kernel
theorem dX12_takeWeather_15 : decode cX12_takeWeather 15 = .ok (.putfield 126, 3) := by decide +kernel
theorem dX12_takeWeather_18 : decode cX12_takeWeather 18 = .ok (.iload_n 1, 1) := by decide +kernel
theorem dX12_takeWeather_19 : decode cX12_takeWeather 19 = .ok (.ifCond .ne 70, 3) := by decide +kernel
theorem dX12_takeWeather_22 : decode cX12_takeWeather 22 = .ok (.aload_n 0, 1) := by decide +kernel
theorem dX12_takeWeather_23 : decode cX12_takeWeather 23 = .ok (.invokevirtual 98, 3) := by decide +kernel
theorem dX12_takeWeather_26 : decode cX12_takeWeather 26 = .ok (.bipush 44, 2) := by decide +kernel
theorem dX12_takeWeather_28 : decode cX12_takeWeather 28 = .ok (.if_icmp .ne 61, 3) := by decide +kernel
theorem dX12_takeWeather_31 : decode cX12_takeWeather 31 = .ok (.aload_n 0, 1) := by decide +kernel
theorem dX12_takeWeather_32 : decode cX12_takeWeather 32 = .ok (.getfield 126, 3) := by decide +kernel
theorem dX12_takeWeather_35 : decode cX12_takeWeather 35 = .ok (.bipush 12, 2) := by decide +kernel
theorem dX12_takeWeather_37 : decode cX12_takeWeather 37 = .ok (.if_icmp .ne 13, 3) := by decide +kernel
theorem dX12_takeWeather_40 : decode cX12_takeWeather 40 = .ok (.aload_n 0, 1) := by decide +kernel
theorem dX12_takeWeather_41 : decode cX12_takeWeather 41 = .ok (.iconst 1, 1) := by decide +kernel
theorem dX12_takeWeather_42 : decode cX12_takeWeather 42 = .ok (.aload_n 0, 1) := by decide +kernel
theorem dX12_takeWeather_43 : decode cX12_takeWeather 43 = .ok (.getfield 95, 3) := by decide +kernel
theorem dX12_takeWeather_46 : decode cX12_takeWeather 46 = .ok (.invokevirtual 106, 3) := by decide +kernel
theorem dX12_takeWeather_49 : decode cX12_takeWeather 49 = .ok (.ireturn, 1) := by decide +kernel
theorem dX12_takeWeather_50 : decode cX12_takeWeather 50 = .ok (.aload_n 0, 1) := by decide +kernel
theorem dX12_takeWeather_51 : decode cX12_takeWeather 51 = .ok (.dup, 1) := by decide +kernel
theorem dX12_takeWeather_52 : decode cX12_takeWeather 52 = .ok (.getfield 95, 3) := by decide +kernel
theorem dX12_takeWeather_55 : decode cX12_takeWeather 55 = .ok (.iconst 1, 1) := by decide +kernel
theorem dX12_takeWeather_56 : decode cX12_takeWeather 56 = .ok (.iadd, 1) := by decide +kernel
theorem dX12_takeWeather_57 : decode cX12_takeWeather 57 = .ok (.putfield 95, 3) := by decide +kernel
theorem dX12_takeWeather_60 : decode cX12_takeWeather 60 = .ok (.aload_n 0, 1) := by decide +kernel
theorem dX12_takeWeather_61 : decode cX12_takeWeather 61 = .ok (.aload_n 0, 1) := by decide +kernel
theorem dX12_takeWeather_62 : decode cX12_takeWeather 62 = .ok (.getfield 38, 3) := by decide +kernel
theorem dX12_takeWeather_65 : decode cX12_takeWeather 65 = .ok (.aload_n 0, 1) := by decide +kernel
theorem dX12_takeWeather_66 : decode cX12_takeWeather 66 = .ok (.getfield 126, 3) := by decide +kernel
theorem dX12_takeWeather_69 : decode cX12_takeWeather 69 = .ok (.iconst 0, 1) := by decide +kernel
theorem dX12_takeWeather_70 : decode cX12_takeWeather 70 = .ok (.bipush 30, 2) := by decide +kernel
theorem dX12_takeWeather_72 : decode cX12_takeWeather 72 = .ok (.invokevirtual 119, 3) := by decide +kernel
theorem dX12_takeWeather_75 : decode cX12_takeWeather 75 = .ok (.istore_n 1, 1) := by decide +kernel
theorem dX12_takeWeather_76 : decode cX12_takeWeather 76 = .ok (.aload_n 0, 1) := by decide +kernel
theorem dX12_takeWeather_77 : decode cX12_takeWeather 77 = .ok (.dup, 1) := by decide +kernel
theorem dX12_takeWeather_78 : decode cX12_takeWeather 78 = .ok (.getfield 126, 3) := by decide +kernel
theorem dX12_takeWeather_81 : decode cX12_takeWeather 81 = .ok (.iconst 1, 1) := by decide +kernel
theorem dX12_takeWeather_82 : decode cX12_takeWeather 82 = .ok (.iadd, 1) := by decide +kernel
theorem dX12_takeWeather_83 : decode cX12_takeWeather 83 = .ok (.putfield 126, 3) := by decide +kernel
theorem dX12_takeWeather_86 : decode cX12_takeWeather 86 = .ok (.goto (-68), 3) := by decide +kernel
theorem dX12_takeWeather_89 : decode cX12_takeWeather 89 = .ok (.iload_n 1, 1) := by decide +kernel
theorem dX12_takeWeather_90 : decode cX12_takeWeather 90 = .ok (.ireturn, 1) := by decide +kernel
theorem dX12_takeCart_0 : decode cX12_takeCart 0 = .ok (.aload_n 0, 1) := by decide +kernel
theorem dX12_takeCart_1 : decode cX12_takeCart 1 = .ok (.getfield 129, 3) := by decide +kernel
theorem dX12_takeCart_4 : decode cX12_takeCart 4 = .ok (.istore_n 1, 1) := by decide +kernel
theorem dX12_takeCart_5 : decode cX12_takeCart 5 = .ok (.aload_n 0, 1) := by decide +kernel
theorem dX12_takeCart_6 : decode cX12_takeCart 6 = .ok (.dup, 1) := by decide +kernel
theorem dX12_takeCart_7 : decode cX12_takeCart 7 = .ok (.getfield 129, 3) := by decide +kernel
theorem dX12_takeCart_10 : decode cX12_takeCart 10 = .ok (.iconst 1, 1) := by decide +kernel
theorem dX12_takeCart_11 : decode cX12_takeCart 11 = .ok (.iadd, 1) := by decide +kernel
theorem dX12_takeCart_12 : decode cX12_takeCart 12 = .ok (.putfield 129, 3) := by decide +kernel
theorem dX12_takeCart_15 : decode cX12_takeCart 15 = .ok (.aload_n 0, 1) := by decide +kernel
theorem dX12_takeCart_16 : decode cX12_takeCart 16 = .ok (.aload_n 0, 1) := by decide +kernel
theorem dX12_takeCart_17 : decode cX12_takeCart 17 = .ok (.getfield 41, 3) := by decide +kernel
theorem dX12_takeCart_20 : decode cX12_takeCart 20 = .ok (.iload_n 1, 1) := by decide +kernel
theorem dX12_takeCart_21 : decode cX12_takeCart 21 = .ok (.iconst 0, 1) := by decide +kernel
theorem dX12_takeCart_22 : decode cX12_takeCart 22 = .ok (.iconst 3, 1) := by decide +kernel
theorem dX12_takeCart_23 : decode cX12_takeCart 23 = .ok (.invokevirtual 119, 3) := by decide +kernel
theorem dX12_takeCart_26 : decode cX12_takeCart 26 = .ok (.istore_n 2, 1) := by decide +kernel
theorem dX12_takeCart_27 : decode cX12_takeCart 27 = .ok (.iload_n 2, 1) := by decide +kernel
theorem dX12_takeCart_28 : decode cX12_takeCart 28 = .ok (.ifCond .le 7, 3) := by decide +kernel
theorem dX12_takeCart_31 : decode cX12_takeCart 31 = .ok (.iload_n 2, 1) := by decide +kernel
theorem dX12_takeCart_32 : decode cX12_takeCart 32 = .ok (.goto 15, 3) := by decide +kernel
theorem dX12_takeCart_35 : decode cX12_takeCart 35 = .ok (.aload_n 0, 1) := by decide +kernel
theorem dX12_takeCart_36 : decode cX12_takeCart 36 = .ok (.aload_n 0, 1) := by decide +kernel
theorem dX12_takeCart_37 : decode cX12_takeCart 37 = .ok (.getfield 44, 3) := by decide +kernel
theorem dX12_takeCart_40 : decode cX12_takeCart 40 = .ok (.iload_n 1, 1) := by decide +kernel
theorem dX12_takeCart_41 : decode cX12_takeCart 41 = .ok (.iconst 1, 1) := by decide +kernel
theorem dX12_takeCart_42 : decode cX12_takeCart 42 = .ok (.bipush 60, 2) := by decide +kernel
theorem dX12_takeCart_44 : decode cX12_takeCart 44 = .ok (.invokevirtual 119, 3) := by decide +kernel
theorem dX12_takeCart_47 : decode cX12_takeCart 47 = .ok (.istore_n 2, 1) := by decide +kernel
theorem dX12_takeCart_48 : decode cX12_takeCart 48 = .ok (.iload_n 2, 1) := by decide +kernel
theorem dX12_takeCart_49 : decode cX12_takeCart 49 = .ok (.ifCond .le 7, 3) := by decide +kernel
theorem dX12_takeCart_52 : decode cX12_takeCart 52 = .ok (.iload_n 2, 1) := by decide +kernel
theorem dX12_takeCart_53 : decode cX12_takeCart 53 = .ok (.goto 15, 3) := by decide +kernel
theorem dX12_takeCart_56 : decode cX12_takeCart 56 = .ok (.aload_n 0, 1) := by decide +kernel
theorem dX12_takeCart_57 : decode cX12_takeCart 57 = .ok (.aload_n 0, 1) := by decide +kernel
theorem dX12_takeCart_58 : decode cX12_takeCart 58 = .ok (.getfield 47, 3) := by decide +kernel
theorem dX12_takeCart_61 : decode cX12_takeCart 61 = .ok (.iload_n 1, 1) := by decide +kernel
theorem dX12_takeCart_62 : decode cX12_takeCart 62 = .ok (.iconst 0, 1) := by decide +kernel
theorem dX12_takeCart_63 : decode cX12_takeCart 63 = .ok (.bipush 9, 2) := by decide +kernel
theorem dX12_takeCart_65 : decode cX12_takeCart 65 = .ok (.invokevirtual 119, 3) := by decide +kernel
theorem dX12_takeCart_68 : decode cX12_takeCart 68 = .ok (.ireturn, 1) := by decide +kernel
theorem dX12_takeClause_0 : decode cX12_takeClause 0 = .ok (.aload_n 0, 1) := by decide +kernel
theorem dX12_takeClause_1 : decode cX12_takeClause 1 = .ok (.invokevirtual 98, 3) := by decide +kernel
theorem dX12_takeClause_4 : decode cX12_takeClause 4 = .ok (.istore_n 1, 1) := by decide +kernel
theorem dX12_takeClause_5 : decode cX12_takeClause 5 = .ok (.iload_n 1, 1) := by decide +kernel
theorem dX12_takeClause_6 : decode cX12_takeClause 6 = .ok (.bipush 114, 2) := by decide +kernel
theorem dX12_takeClause_8 : decode cX12_takeClause 8 = .ok (.if_icmp .ne 7, 3) := by decide +kernel
theorem dX12_takeClause_11 : decode cX12_takeClause 11 = .ok (.iconst 0, 1) := by decide +kernel
theorem dX12_takeClause_12 : decode cX12_takeClause 12 = .ok (.goto 24, 3) := by decide +kernel
theorem dX12_takeClause_15 : decode cX12_takeClause 15 = .ok (.iload_n 1, 1) := by decide +kernel
theorem dX12_takeClause_16 : decode cX12_takeClause 16 = .ok (.bipush 119, 2) := by decide +kernel
theorem dX12_takeClause_18 : decode cX12_takeClause 18 = .ok (.if_icmp .ne 7, 3) := by decide +kernel
theorem dX12_takeClause_21 : decode cX12_takeClause 21 = .ok (.iconst 1, 1) := by decide +kernel
theorem dX12_takeClause_22 : decode cX12_takeClause 22 = .ok (.goto 14, 3) := by decide +kernel
theorem dX12_takeClause_25 : decode cX12_takeClause 25 = .ok (.iload_n 1, 1) := by decide +kernel
theorem dX12_takeClause_26 : decode cX12_takeClause 26 = .ok (.bipush 99, 2) := by decide +kernel
theorem dX12_takeClause_28 : decode cX12_takeClause 28 = .ok (.if_icmp .ne 7, 3) := by decide +kernel
theorem dX12_takeClause_31 : decode cX12_takeClause 31 = .ok (.iconst 2, 1) := by decide +kernel
theorem dX12_takeClause_32 : decode cX12_takeClause 32 = .ok (.goto 4, 3) := by decide +kernel
theorem dX12_takeClause_35 : decode cX12_takeClause 35 = .ok (.iconst (-1), 1) := by decide +kernel
theorem dX12_takeClause_36 : decode cX12_takeClause 36 = .ok (.istore_n 2, 1) := by decide +kernel
theorem dX12_takeClause_37 : decode cX12_takeClause 37 = .ok (.iload_n 2, 1) := by decide +kernel
theorem dX12_takeClause_38 : decode cX12_takeClause 38 = .ok (.ifCond .lt 14, 3) := by decide +kernel
theorem dX12_takeClause_41 : decode cX12_takeClause 41 = .ok (.iload_n 2, 1) := by decide +kernel
theorem dX12_takeClause_42 : decode cX12_takeClause 42 = .ok (.ifCond .le 20, 3) := by decide +kernel
theorem dX12_takeClause_45 : decode cX12_takeClause 45 = .ok (.aload_n 0, 1) := by decide +kernel
theorem dX12_takeClause_46 : decode cX12_takeClause 46 = .ok (.getfield 123, 3) := by decide +kernel
theorem dX12_takeClause_49 : decode cX12_takeClause 49 = .ok (.ifCond .ne 13, 3) := by decide +kernel
theorem dX12_takeClause_52 : decode cX12_takeClause 52 = .ok (.aload_n 0, 1) := by decide +kernel
theorem dX12_takeClause_53 : decode cX12_takeClause 53 = .ok (.iconst 1, 1) := by decide +kernel
theorem dX12_takeClause_54 : decode cX12_takeClause 54 = .ok (.aload_n 0, 1) := by decide +kernel
theorem dX12_takeClause_55 : decode cX12_takeClause 55 = .ok (.getfield 95, 3) := by decide +kernel
theorem dX12_takeClause_58 : decode cX12_takeClause 58 = .ok (.invokevirtual 106, 3) := by decide +kernel
theorem dX12_takeClause_61 : decode cX12_takeClause 61 = .ok (.ireturn, 1) := by decide +kernel
theorem dX12_takeClause_62 : decode cX12_takeClause 62 = .ok (.iload_n 2, 1) := by decide +kernel
theorem dX12_takeClause_63 : decode cX12_takeClause 63 = .ok (.ifCond .ne 18, 3) := by decide +kernel
theorem dX12_takeClause_66 : decode cX12_takeClause 66 = .ok (.aload_n 0, 1) := by decide +kernel
theorem dX12_takeClause_67 : decode cX12_takeClause 67 = .ok (.getfield 123, 3) := by decide +kernel
theorem dX12_takeClause_70 : decode cX12_takeClause 70 = .ok (.ifCond .le 7, 3) := by decide +kernel
theorem dX12_takeClause_73 : decode cX12_takeClause 73 = .ok (.iconst 1, 1) := by decide +kernel
theorem dX12_takeClause_74 : decode cX12_takeClause 74 = .ok (.goto 41, 3) := by decide +kernel
theorem dX12_takeClause_77 : decode cX12_takeClause 77 = .ok (.iconst 0, 1) := by decide +kernel
theorem dX12_takeClause_78 : decode cX12_takeClause 78 = .ok (.goto 37, 3) := by decide +kernel
theorem dX12_takeClause_81 : decode cX12_takeClause 81 = .ok (.iload_n 2, 1) := by decide +kernel
theorem dX12_takeClause_82 : decode cX12_takeClause 82 = .ok (.iconst 1, 1) := by decide +kernel
theorem dX12_takeClause_83 : decode cX12_takeClause 83 = .ok (.if_icmp .ne 18, 3) := by decide +kernel
theorem dX12_takeClause_86 : decode cX12_takeClause 86 = .ok (.aload_n 0, 1) := by decide +kernel
theorem dX12_takeClause_87 : decode cX12_takeClause 87 = .ok (.getfield 126, 3) := by decide +kernel
theorem dX12_takeClause_90 : decode cX12_takeClause 90 = .ok (.ifCond .le 7, 3) := by decide +kernel
theorem dX12_takeClause_93 : decode cX12_takeClause 93 = .ok (.iconst 1, 1) := by decide +kernel
theorem dX12_takeClause_94 : decode cX12_takeClause 94 = .ok (.goto 21, 3) := by decide +kernel
theorem dX12_takeClause_97 : decode cX12_takeClause 97 = .ok (.iconst 0, 1) := by decide +kernel
theorem dX12_takeClause_98 : decode cX12_takeClause 98 = .ok (.goto 17, 3) := by decide +kernel
theorem dX12_takeClause_101 : decode cX12_takeClause 101 = .ok (.aload_n 0, 1) := by decide +kernel
theorem dX12_takeClause_102 : decode cX12_takeClause 102 = .ok (.getfield 129, 3) := by decide +kernel
theorem dX12_takeClause_105 : decode cX12_takeClause 105 = .ok (.bipush 8, 2) := by decide +kernel
theorem dX12_takeClause_107 : decode cX12_takeClause 107 = .ok (.if_icmp .ne 7, 3) := by decide +kernel
theorem dX12_takeClause_110 : decode cX12_takeClause 110 = .ok (.iconst 1, 1) := by decide +kernel
theorem dX12_takeClause_111 : decode cX12_takeClause 111 = .ok (.goto 4, 3) := by decide +kernel
theorem dX12_takeClause_114 : decode cX12_takeClause 114 = .ok (.iconst 0, 1) := by decide +kernel
theorem dX12_takeClause_115 : decode cX12_takeClause 115 = .ok (.istore_n 3, 1) := by decide +kernel
theorem dX12_takeClause_116 : decode cX12_takeClause 116 = .ok (.iload_n 3, 1) := by decide +kernel
theorem dX12_takeClause_117 : decode cX12_takeClause 117 = .ok (.ifCond .eq 13, 3) := by decide +kernel
theorem dX12_takeClause_120 : decode cX12_takeClause 120 = .ok (.aload_n 0, 1) := by decide +kernel
theorem dX12_takeClause_121 : decode cX12_takeClause 121 = .ok (.iconst 3, 1) := by decide +kernel
theorem dX12_takeClause_122 : decode cX12_takeClause 122 = .ok (.aload_n 0, 1) := by decide +kernel
theorem dX12_takeClause_123 : decode cX12_takeClause 123 = .ok (.getfield 95, 3) := by decide +kernel
theorem dX12_takeClause_126 : decode cX12_takeClause 126 = .ok (.invokevirtual 106, 3) := by decide +kernel
theorem dX12_takeClause_129 : decode cX12_takeClause 129 = .ok (.ireturn, 1) := by decide +kernel
theorem dX12_takeClause_130 : decode cX12_takeClause 130 = .ok (.aload_n 0, 1) := by decide +kernel
theorem dX12_takeClause_131 : decode cX12_takeClause 131 = .ok (.dup, 1) := by decide +kernel
theorem dX12_takeClause_132 : decode cX12_takeClause 132 = .ok (.getfield 95, 3) := by decide +kernel
theorem dX12_takeClause_135 : decode cX12_takeClause 135 = .ok (.iconst 1, 1) := by decide +kernel
theorem dX12_takeClause_136 : decode cX12_takeClause 136 = .ok (.iadd, 1) := by decide +kernel
theorem dX12_takeClause_137 : decode cX12_takeClause 137 = .ok (.putfield 95, 3) := by decide +kernel
theorem dX12_takeClause_140 : decode cX12_takeClause 140 = .ok (.iload_n 2, 1) := by decide +kernel
theorem dX12_takeClause_141 : decode cX12_takeClause 141 = .ok (.ifCond .ne 10, 3) := by decide +kernel
theorem dX12_takeClause_144 : decode cX12_takeClause 144 = .ok (.aload_n 0, 1) := by decide +kernel
theorem dX12_takeClause_145 : decode cX12_takeClause 145 = .ok (.invokevirtual 132, 3) := by decide +kernel
theorem dX12_takeClause_148 : decode cX12_takeClause 148 = .ok (.goto 19, 3) := by decide +kernel
theorem dX12_takeClause_151 : decode cX12_takeClause 151 = .ok (.iload_n 2, 1) := by decide +kernel
theorem dX12_takeClause_152 : decode cX12_takeClause 152 = .ok (.iconst 1, 1) := by decide +kernel
theorem dX12_takeClause_153 : decode cX12_takeClause 153 = .ok (.if_icmp .ne 10, 3) := by decide +kernel
theorem dX12_takeClause_156 : decode cX12_takeClause 156 = .ok (.aload_n 0, 1) := by decide +kernel
theorem dX12_takeClause_157 : decode cX12_takeClause 157 = .ok (.invokevirtual 135, 3) := by decide +kernel
theorem dX12_takeClause_160 : decode cX12_takeClause 160 = .ok (.goto 7, 3) := by decide +kernel
theorem dX12_takeClause_163 : decode cX12_takeClause 163 = .ok (.aload_n 0, 1) := by decide +kernel
theorem dX12_takeClause_164 : decode cX12_takeClause 164 = .ok (.invokevirtual 138, 3) := by decide +kernel
theorem dX12_takeClause_167 : decode cX12_takeClause 167 = .ok (.istore 4, 2) := by decide +kernel
theorem dX12_takeClause_169 : decode cX12_takeClause 169 = .ok (.iload 4, 2) := by decide +kernel
theorem dX12_takeClause_171 : decode cX12_takeClause 171 = .ok (.ifCond .ne 22, 3) := by decide +kernel
theorem dX12_takeClause_174 : decode cX12_takeClause 174 = .ok (.aload_n 0, 1) := by decide +kernel
theorem dX12_takeClause_175 : decode cX12_takeClause 175 = .ok (.invokevirtual 98, 3) := by decide +kernel
theorem dX12_takeClause_178 : decode cX12_takeClause 178 = .ok (.bipush 59, 2) := by decide +kernel
theorem dX12_takeClause_180 : decode cX12_takeClause 180 = .ok (.if_icmp .eq 13, 3) := by decide +kernel
theorem dX12_takeClause_183 : decode cX12_takeClause 183 = .ok (.aload_n 0, 1) := by decide +kernel
theorem dX12_takeClause_184 : decode cX12_takeClause 184 = .ok (.iconst 1, 1) := by decide +kernel
theorem dX12_takeClause_185 : decode cX12_takeClause 185 = .ok (.aload_n 0, 1) := by decide +kernel
theorem dX12_takeClause_186 : decode cX12_takeClause 186 = .ok (.getfield 95, 3) := by decide +kernel
theorem dX12_takeClause_189 : decode cX12_takeClause 189 = .ok (.invokevirtual 106, 3) := by decide +kernel
theorem dX12_takeClause_192 : decode cX12_takeClause 192 = .ok (.ireturn, 1) := by decide +kernel
theorem dX12_takeClause_193 : decode cX12_takeClause 193 = .ok (.aload_n 0, 1) := by decide +kernel
theorem dX12_takeClause_194 : decode cX12_takeClause 194 = .ok (.dup, 1) := by decide +kernel
theorem dX12_takeClause_195 : decode cX12_takeClause 195 = .ok (.getfield 95, 3) := by decide +kernel
theorem dX12_takeClause_198 : decode cX12_takeClause 198 = .ok (.iconst 1, 1) := by decide +kernel
theorem dX12_takeClause_199 : decode cX12_takeClause 199 = .ok (.iadd, 1) := by decide +kernel
theorem dX12_takeClause_200 : decode cX12_takeClause 200 = .ok (.putfield 95, 3) := by decide +kernel
theorem dX12_takeClause_203 : decode cX12_takeClause 203 = .ok (.iload 4, 2) := by decide +kernel
theorem dX12_takeClause_205 : decode cX12_takeClause 205 = .ok (.ireturn, 1) := by decide +kernel
theorem dX12_copyRow_0 : decode cX12_copyRow 0 = .ok (.iconst 0, 1) := by decide +kernel
theorem dX12_copyRow_1 : decode cX12_copyRow 1 = .ok (.istore_n 3, 1) := by decide +kernel
theorem dX12_copyRow_2 : decode cX12_copyRow 2 = .ok (.iload_n 3, 1) := by decide +kernel
theorem dX12_copyRow_3 : decode cX12_copyRow 3 = .ok (.iload_n 2, 1) := by decide +kernel
theorem dX12_copyRow_4 : decode cX12_copyRow 4 = .ok (.if_icmp .ge 15, 3) := by decide +kernel
theorem dX12_copyRow_7 : decode cX12_copyRow 7 = .ok (.aload_n 1, 1) := by decide +kernel
theorem dX12_copyRow_8 : decode cX12_copyRow 8 = .ok (.iload_n 3, 1) := by decide +kernel
theorem dX12_copyRow_9 : decode cX12_copyRow 9 = .ok (.aload_n 0, 1) := by decide +kernel
theorem dX12_copyRow_10 : decode cX12_copyRow 10 = .ok (.iload_n 3, 1) := by decide +kernel
theorem dX12_copyRow_11 : decode cX12_copyRow 11 = .ok (.iaload, 1) := by decide +kernel
theorem dX12_copyRow_12 : decode cX12_copyRow 12 = .ok (.iastore, 1) := by decide +kernel
theorem dX12_copyRow_13 : decode cX12_copyRow 13 = .ok (.iinc 3 1, 3) := by decide +kernel
theorem dX12_copyRow_16 : decode cX12_copyRow 16 = .ok (.goto (-14), 3) := by decide +kernel
theorem dX12_copyRow_19 : decode cX12_copyRow 19 = .ok (.return_, 1) := by decide +kernel
theorem dX12_takeRead_0 : decode cX12_takeRead 0 = .ok (.aload_n 0, 1) := by decide +kernel
theorem dX12_takeRead_1 : decode cX12_takeRead 1 = .ok (.aload_n 0, 1) := by decide +kernel
theorem dX12_takeRead_2 : decode cX12_takeRead 2 = .ok (.getfield 123, 3) := by decide +kernel
theorem dX12_takeRead_5 : decode cX12_takeRead 5 = .ok (.putfield 78, 3) := by decide +kernel
theorem dX12_takeRead_8 : decode cX12_takeRead 8 = .ok (.aload_n 0, 1) := by decide +kernel
theorem dX12_takeRead_9 : decode cX12_takeRead 9 = .ok (.aload_n 0, 1) := by decide +kernel
theorem dX12_takeRead_10 : decode cX12_takeRead 10 = .ok (.getfield 126, 3) := by decide +kernel
theorem dX12_takeRead_13 : decode cX12_takeRead 13 = .ok (.putfield 141, 3) := by decide +kernel
theorem dX12_takeRead_16 : decode cX12_takeRead 16 = .ok (.aload_n 0, 1) := by decide +kernel
theorem dX12_takeRead_17 : decode cX12_takeRead 17 = .ok (.aload_n 0, 1) := by decide +kernel
theorem dX12_takeRead_18 : decode cX12_takeRead 18 = .ok (.getfield 129, 3) := by decide +kernel
theorem dX12_takeRead_21 : decode cX12_takeRead 21 = .ok (.putfield 85, 3) := by decide +kernel
theorem dX12_takeRead_24 : decode cX12_takeRead 24 = .ok (.aload_n 0, 1) := by decide +kernel
theorem dX12_takeRead_25 : decode cX12_takeRead 25 = .ok (.getfield 35, 3) := by decide +kernel
theorem dX12_takeRead_28 : decode cX12_takeRead 28 = .ok (.aload_n 0, 1) := by decide +kernel
theorem dX12_takeRead_29 : decode cX12_takeRead 29 = .ok (.getfield 7, 3) := by decide +kernel
theorem dX12_takeRead_32 : decode cX12_takeRead 32 = .ok (.aload_n 0, 1) := by decide +kernel
theorem dX12_takeRead_33 : decode cX12_takeRead 33 = .ok (.getfield 78, 3) := by decide +kernel
theorem dX12_takeRead_36 : decode cX12_takeRead 36 = .ok (.invokestatic 144, 3) := by decide +kernel
theorem dX12_takeRead_39 : decode cX12_takeRead 39 = .ok (.aload_n 0, 1) := by decide +kernel
theorem dX12_takeRead_40 : decode cX12_takeRead 40 = .ok (.getfield 38, 3) := by decide +kernel
theorem dX12_takeRead_43 : decode cX12_takeRead 43 = .ok (.aload_n 0, 1) := by decide +kernel
theorem dX12_takeRead_44 : decode cX12_takeRead 44 = .ok (.getfield 13, 3) := by decide +kernel
theorem dX12_takeRead_47 : decode cX12_takeRead 47 = .ok (.aload_n 0, 1) := by decide +kernel
theorem dX12_takeRead_48 : decode cX12_takeRead 48 = .ok (.getfield 141, 3) := by decide +kernel
theorem dX12_takeRead_51 : decode cX12_takeRead 51 = .ok (.invokestatic 144, 3) := by decide +kernel
theorem dX12_takeRead_54 : decode cX12_takeRead 54 = .ok (.aload_n 0, 1) := by decide +kernel
theorem dX12_takeRead_55 : decode cX12_takeRead 55 = .ok (.getfield 41, 3) := by decide +kernel
theorem dX12_takeRead_58 : decode cX12_takeRead 58 = .ok (.aload_n 0, 1) := by decide +kernel
theorem dX12_takeRead_59 : decode cX12_takeRead 59 = .ok (.getfield 16, 3) := by decide +kernel
theorem dX12_takeRead_62 : decode cX12_takeRead 62 = .ok (.aload_n 0, 1) := by decide +kernel
theorem dX12_takeRead_63 : decode cX12_takeRead 63 = .ok (.getfield 85, 3) := by decide +kernel
theorem dX12_takeRead_66 : decode cX12_takeRead 66 = .ok (.invokestatic 144, 3) := by decide +kernel
theorem dX12_takeRead_69 : decode cX12_takeRead 69 = .ok (.aload_n 0, 1) := by decide +kernel
theorem dX12_takeRead_70 : decode cX12_takeRead 70 = .ok (.getfield 44, 3) := by decide +kernel
theorem dX12_takeRead_73 : decode cX12_takeRead 73 = .ok (.aload_n 0, 1) := by decide +kernel
theorem dX12_takeRead_74 : decode cX12_takeRead 74 = .ok (.getfield 19, 3) := by decide +kernel
theorem dX12_takeRead_77 : decode cX12_takeRead 77 = .ok (.aload_n 0, 1) := by decide +kernel
theorem dX12_takeRead_78 : decode cX12_takeRead 78 = .ok (.getfield 85, 3) := by decide +kernel
theorem dX12_takeRead_81 : decode cX12_takeRead 81 = .ok (.invokestatic 144, 3) := by decide +kernel
theorem dX12_takeRead_84 : decode cX12_takeRead 84 = .ok (.aload_n 0, 1) := by decide +kernel
theorem dX12_takeRead_85 : decode cX12_takeRead 85 = .ok (.getfield 47, 3) := by decide +kernel
theorem dX12_takeRead_88 : decode cX12_takeRead 88 = .ok (.aload_n 0, 1) := by decide +kernel
theorem dX12_takeRead_89 : decode cX12_takeRead 89 = .ok (.getfield 22, 3) := by decide +kernel
theorem dX12_takeRead_92 : decode cX12_takeRead 92 = .ok (.aload_n 0, 1) := by decide +kernel
theorem dX12_takeRead_93 : decode cX12_takeRead 93 = .ok (.getfield 85, 3) := by decide +kernel
theorem dX12_takeRead_96 : decode cX12_takeRead 96 = .ok (.invokestatic 144, 3) := by decide +kernel
theorem dX12_takeRead_99 : decode cX12_takeRead 99 = .ok (.iconst 0, 1) := by decide +kernel
theorem dX12_takeRead_100 : decode cX12_takeRead 100 = .ok (.istore_n 1, 1) := by decide +kernel
theorem dX12_takeRead_101 : decode cX12_takeRead 101 = .ok (.iload_n 1, 1) := by decide +kernel
theorem dX12_takeRead_102 : decode cX12_takeRead 102 = .ok (.bipush 106, 2) := by decide +kernel
theorem dX12_takeRead_104 : decode cX12_takeRead 104 = .ok (.if_icmp .ge 16, 3) := by decide +kernel
theorem dX12_takeRead_107 : decode cX12_takeRead 107 = .ok (.aload_n 0, 1) := by decide +kernel
theorem dX12_takeRead_108 : decode cX12_takeRead 108 = .ok (.getfield 25, 3) := by decide +kernel
theorem dX12_takeRead_111 : decode cX12_takeRead 111 = .ok (.iload_n 1, 1) := by decide +kernel
theorem dX12_takeRead_112 : decode cX12_takeRead 112 = .ok (.iconst 0, 1) := by decide +kernel
theorem dX12_takeRead_113 : decode cX12_takeRead 113 = .ok (.iastore, 1) := by decide +kernel
theorem dX12_takeRead_114 : decode cX12_takeRead 114 = .ok (.iinc 1 1, 3) := by decide +kernel
theorem dX12_takeRead_117 : decode cX12_takeRead 117 = .ok (.goto (-16), 3) := by decide +kernel
theorem dX12_takeRead_120 : decode cX12_takeRead 120 = .ok (.iconst 0, 1) := by decide +kernel
theorem dX12_takeRead_121 : decode cX12_takeRead 121 = .ok (.istore_n 1, 1) := by decide +kernel
theorem dX12_takeRead_122 : decode cX12_takeRead 122 = .ok (.iload_n 1, 1) := by decide +kernel
theorem dX12_takeRead_123 : decode cX12_takeRead 123 = .ok (.bipush 20, 2) := by decide +kernel
theorem dX12_takeRead_125 : decode cX12_takeRead 125 = .ok (.if_icmp .ge 29, 3) := by decide +kernel
theorem dX12_takeRead_128 : decode cX12_takeRead 128 = .ok (.aload_n 0, 1) := by decide +kernel
theorem dX12_takeRead_129 : decode cX12_takeRead 129 = .ok (.getfield 25, 3) := by decide +kernel
theorem dX12_takeRead_132 : decode cX12_takeRead 132 = .ok (.bipush 20, 2) := by decide +kernel
theorem dX12_takeRead_134 : decode cX12_takeRead 134 = .ok (.iload_n 1, 1) := by decide +kernel
theorem dX12_takeRead_135 : decode cX12_takeRead 135 = .ok (.iadd, 1) := by decide +kernel
theorem dX12_takeRead_136 : decode cX12_takeRead 136 = .ok (.iconst (-1), 1) := by decide +kernel
theorem dX12_takeRead_137 : decode cX12_takeRead 137 = .ok (.iastore, 1) := by decide +kernel
theorem dX12_takeRead_138 : decode cX12_takeRead 138 = .ok (.aload_n 0, 1) := by decide +kernel
theorem dX12_takeRead_139 : decode cX12_takeRead 139 = .ok (.getfield 25, 3) := by decide +kernel
theorem dX12_takeRead_142 : decode cX12_takeRead 142 = .ok (.bipush 40, 2) := by decide +kernel
theorem dX12_takeRead_144 : decode cX12_takeRead 144 = .ok (.iload_n 1, 1) := by decide +kernel
theorem dX12_takeRead_145 : decode cX12_takeRead 145 = .ok (.iadd, 1) := by decide +kernel
theorem dX12_takeRead_146 : decode cX12_takeRead 146 = .ok (.iconst (-1), 1) := by decide +kernel
theorem dX12_takeRead_147 : decode cX12_takeRead 147 = .ok (.iastore, 1) := by decide +kernel
theorem dX12_takeRead_148 : decode cX12_takeRead 148 = .ok (.iinc 1 1, 3) := by decide +kernel
theorem dX12_takeRead_151 : decode cX12_takeRead 151 = .ok (.goto (-29), 3) := by decide +kernel
theorem dX12_takeRead_154 : decode cX12_takeRead 154 = .ok (.iconst 0, 1) := by decide +kernel
theorem dX12_takeRead_155 : decode cX12_takeRead 155 = .ok (.istore_n 1, 1) := by decide +kernel
theorem dX12_takeRead_156 : decode cX12_takeRead 156 = .ok (.iload_n 1, 1) := by decide +kernel
theorem dX12_takeRead_157 : decode cX12_takeRead 157 = .ok (.bipush 8, 2) := by decide +kernel
theorem dX12_takeRead_159 : decode cX12_takeRead 159 = .ok (.if_icmp .ge 46, 3) := by decide +kernel
theorem dX12_takeRead_162 : decode cX12_takeRead 162 = .ok (.aload_n 0, 1) := by decide +kernel
theorem dX12_takeRead_163 : decode cX12_takeRead 163 = .ok (.getfield 25, 3) := by decide +kernel
theorem dX12_takeRead_166 : decode cX12_takeRead 166 = .ok (.bipush 88, 2) := by decide +kernel
theorem dX12_takeRead_168 : decode cX12_takeRead 168 = .ok (.iload_n 1, 1) := by decide +kernel
theorem dX12_takeRead_169 : decode cX12_takeRead 169 = .ok (.iadd, 1) := by decide +kernel
theorem dX12_takeRead_170 : decode cX12_takeRead 170 = .ok (.iconst (-1), 1) := by decide +kernel
theorem dX12_takeRead_171 : decode cX12_takeRead 171 = .ok (.iastore, 1) := by decide +kernel
theorem dX12_takeRead_172 : decode cX12_takeRead 172 = .ok (.aload_n 0, 1) := by decide +kernel
theorem dX12_takeRead_173 : decode cX12_takeRead 173 = .ok (.getfield 25, 3) := by decide +kernel
theorem dX12_takeRead_176 : decode cX12_takeRead 176 = .ok (.bipush 80, 2) := by decide +kernel
theorem dX12_takeRead_178 : decode cX12_takeRead 178 = .ok (.iload_n 1, 1) := by decide +kernel
theorem dX12_takeRead_179 : decode cX12_takeRead 179 = .ok (.iadd, 1) := by decide +kernel
theorem dX12_takeRead_180 : decode cX12_takeRead 180 = .ok (.iload_n 1, 1) := by decide +kernel
theorem dX12_takeRead_181 : decode cX12_takeRead 181 = .ok (.aload_n 0, 1) := by decide +kernel
theorem dX12_takeRead_182 : decode cX12_takeRead 182 = .ok (.getfield 85, 3) := by decide +kernel
theorem dX12_takeRead_185 : decode cX12_takeRead 185 = .ok (.if_icmp .ge 12, 3) := by decide +kernel
theorem dX12_takeRead_188 : decode cX12_takeRead 188 = .ok (.aload_n 0, 1) := by decide +kernel
theorem dX12_takeRead_189 : decode cX12_takeRead 189 = .ok (.getfield 19, 3) := by decide +kernel
theorem dX12_takeRead_192 : decode cX12_takeRead 192 = .ok (.iload_n 1, 1) := by decide +kernel
theorem dX12_takeRead_193 : decode cX12_takeRead 193 = .ok (.iaload, 1) := by decide +kernel
theorem dX12_takeRead_194 : decode cX12_takeRead 194 = .ok (.goto 4, 3) := by decide +kernel
theorem dX12_takeRead_197 : decode cX12_takeRead 197 = .ok (.iconst 0, 1) := by decide +kernel
theorem dX12_takeRead_198 : decode cX12_takeRead 198 = .ok (.iastore, 1) := by decide +kernel
theorem dX12_takeRead_199 : decode cX12_takeRead 199 = .ok (.iinc 1 1, 3) := by decide +kernel
theorem dX12_takeRead_202 : decode cX12_takeRead 202 = .ok (.goto (-46), 3) := by decide +kernel
theorem dX12_takeRead_205 : decode cX12_takeRead 205 = .ok (.return_, 1) := by decide +kernel
theorem dX12_road_0 : decode cX12_road 0 = .ok (.aload_n 0, 1) := by decide +kernel
theorem dX12_road_1 : decode cX12_road 1 = .ok (.iconst (-1), 1) := by decide +kernel
theorem dX12_road_2 : decode cX12_road 2 = .ok (.putfield 31, 3) := by decide +kernel
theorem dX12_road_5 : decode cX12_road 5 = .ok (.aload_n 0, 1) := by decide +kernel
theorem dX12_road_6 : decode cX12_road 6 = .ok (.iconst 0, 1) := by decide +kernel
theorem dX12_road_7 : decode cX12_road 7 = .ok (.putfield 95, 3) := by decide +kernel
theorem dX12_road_10 : decode cX12_road 10 = .ok (.aload_n 0, 1) := by decide +kernel
theorem dX12_road_11 : decode cX12_road 11 = .ok (.iconst 0, 1) := by decide +kernel
theorem dX12_road_12 : decode cX12_road 12 = .ok (.putfield 123, 3) := by decide +kernel
theorem dX12_road_15 : decode cX12_road 15 = .ok (.aload_n 0, 1) := by decide +kernel
theorem dX12_road_16 : decode cX12_road 16 = .ok (.iconst 0, 1) := by decide +kernel
theorem dX12_road_17 : decode cX12_road 17 = .ok (.putfield 126, 3) := by decide +kernel
theorem dX12_road_20 : decode cX12_road 20 = .ok (.aload_n 0, 1) := by decide +kernel
theorem dX12_road_21 : decode cX12_road 21 = .ok (.iconst 0, 1) := by decide +kernel
theorem dX12_road_22 : decode cX12_road 22 = .ok (.putfield 129, 3) := by decide +kernel
theorem dX12_road_25 : decode cX12_road 25 = .ok (.iconst 0, 1) := by decide +kernel
theorem dX12_road_26 : decode cX12_road 26 = .ok (.istore_n 1, 1) := by decide +kernel
theorem dX12_road_27 : decode cX12_road 27 = .ok (.iload_n 1, 1) := by decide +kernel
theorem dX12_road_28 : decode cX12_road 28 = .ok (.ifCond .ne 18, 3) := by decide +kernel
theorem dX12_road_31 : decode cX12_road 31 = .ok (.aload_n 0, 1) := by decide +kernel
theorem dX12_road_32 : decode cX12_road 32 = .ok (.invokevirtual 98, 3) := by decide +kernel
theorem dX12_road_35 : decode cX12_road 35 = .ok (.ifCond .lt 11, 3) := by decide +kernel
theorem dX12_road_38 : decode cX12_road 38 = .ok (.aload_n 0, 1) := by decide +kernel
theorem dX12_road_39 : decode cX12_road 39 = .ok (.invokevirtual 148, 3) := by decide +kernel
theorem dX12_road_42 : decode cX12_road 42 = .ok (.istore_n 1, 1) := by decide +kernel
theorem dX12_road_43 : decode cX12_road 43 = .ok (.goto (-16), 3) := by decide +kernel
theorem dX12_road_46 : decode cX12_road 46 = .ok (.aload_n 0, 1) := by decide +kernel
theorem dX12_road_47 : decode cX12_road 47 = .ok (.iconst 0, 1) := by decide +kernel
theorem dX12_road_48 : decode cX12_road 48 = .ok (.putfield 91, 3) := by decide +kernel
theorem dX12_road_51 : decode cX12_road 51 = .ok (.iload_n 1, 1) := by decide +kernel
theorem dX12_road_52 : decode cX12_road 52 = .ok (.ifCond .le 8, 3) := by decide +kernel
theorem dX12_road_55 : decode cX12_road 55 = .ok (.bipush (-10), 2) := by decide +kernel
theorem dX12_road_57 : decode cX12_road 57 = .ok (.iload_n 1, 1) := by decide +kernel
theorem dX12_road_58 : decode cX12_road 58 = .ok (.isub, 1) := by decide +kernel
theorem dX12_road_59 : decode cX12_road 59 = .ok (.ireturn, 1) := by decide +kernel
theorem dX12_road_60 : decode cX12_road 60 = .ok (.aload_n 0, 1) := by decide +kernel
theorem dX12_road_61 : decode cX12_road 61 = .ok (.invokevirtual 151, 3) := by decide +kernel
theorem dX12_road_64 : decode cX12_road 64 = .ok (.aload_n 0, 1) := by decide +kernel
theorem dX12_road_65 : decode cX12_road 65 = .ok (.iconst 0, 1) := by decide +kernel
theorem dX12_road_66 : decode cX12_road 66 = .ok (.putfield 154, 3) := by decide +kernel
theorem dX12_road_69 : decode cX12_road 69 = .ok (.aload_n 0, 1) := by decide +kernel
theorem dX12_road_70 : decode cX12_road 70 = .ok (.iconst 0, 1) := by decide +kernel
theorem dX12_road_71 : decode cX12_road 71 = .ok (.putfield 157, 3) := by decide +kernel
theorem dX12_road_74 : decode cX12_road 74 = .ok (.aload_n 0, 1) := by decide +kernel
theorem dX12_road_75 : decode cX12_road 75 = .ok (.iconst 0, 1) := by decide +kernel
theorem dX12_road_76 : decode cX12_road 76 = .ok (.putfield 160, 3) := by decide +kernel
theorem dX12_road_79 : decode cX12_road 79 = .ok (.aload_n 0, 1) := by decide +kernel
theorem dX12_road_80 : decode cX12_road 80 = .ok (.getfield 74, 3) := by decide +kernel
theorem dX12_road_83 : decode cX12_road 83 = .ok (.iconst 0, 1) := by decide +kernel
theorem dX12_road_84 : decode cX12_road 84 = .ok (.iconst 0, 1) := by decide +kernel
theorem dX12_road_85 : decode cX12_road 85 = .ok (.bastore, 1) := by decide +kernel
theorem dX12_road_86 : decode cX12_road 86 = .ok (.aload_n 0, 1) := by decide +kernel
theorem dX12_road_87 : decode cX12_road 87 = .ok (.getfield 74, 3) := by decide +kernel
theorem dX12_road_90 : decode cX12_road 90 = .ok (.iconst 1, 1) := by decide +kernel
theorem dX12_road_91 : decode cX12_road 91 = .ok (.iconst 0, 1) := by decide +kernel
theorem dX12_road_92 : decode cX12_road 92 = .ok (.bastore, 1) := by decide +kernel
theorem dX12_road_93 : decode cX12_road 93 = .ok (.aload_n 0, 1) := by decide +kernel
theorem dX12_road_94 : decode cX12_road 94 = .ok (.getfield 78, 3) := by decide +kernel
theorem dX12_road_97 : decode cX12_road 97 = .ok (.ireturn, 1) := by decide +kernel
theorem dX12_fault_0 : decode cX12_fault 0 = .ok (.aload_n 0, 1) := by decide +kernel
theorem dX12_fault_1 : decode cX12_fault 1 = .ok (.getfield 31, 3) := by decide +kernel
theorem dX12_fault_4 : decode cX12_fault 4 = .ok (.ireturn, 1) := by decide +kernel
theorem dX12_weatherOf_0 : decode cX12_weatherOf 0 = .ok (.aload_n 0, 1) := by decide +kernel
theorem dX12_weatherOf_1 : decode cX12_weatherOf 1 = .ok (.getfield 141, 3) := by decide +kernel
theorem dX12_weatherOf_4 : decode cX12_weatherOf 4 = .ok (.ifCond .ne 7, 3) := by decide +kernel
theorem dX12_weatherOf_7 : decode cX12_weatherOf 7 = .ok (.iconst 5, 1) := by decide +kernel
theorem dX12_weatherOf_8 : decode cX12_weatherOf 8 = .ok (.goto 14, 3) := by decide +kernel
theorem dX12_weatherOf_11 : decode cX12_weatherOf 11 = .ok (.aload_n 0, 1) := by decide +kernel
theorem dX12_weatherOf_12 : decode cX12_weatherOf 12 = .ok (.getfield 13, 3) := by decide +kernel
theorem dX12_weatherOf_15 : decode cX12_weatherOf 15 = .ok (.iload_n 1, 1) := by decide +kernel
theorem dX12_weatherOf_16 : decode cX12_weatherOf 16 = .ok (.aload_n 0, 1) := by decide +kernel
theorem dX12_weatherOf_17 : decode cX12_weatherOf 17 = .ok (.getfield 141, 3) := by decide +kernel
theorem dX12_weatherOf_20 : decode cX12_weatherOf 20 = .ok (.irem, 1) := by decide +kernel
theorem dX12_weatherOf_21 : decode cX12_weatherOf 21 = .ok (.iaload, 1) := by decide +kernel
theorem dX12_weatherOf_22 : decode cX12_weatherOf 22 = .ok (.ireturn, 1) := by decide +kernel
theorem dX12_wetBehind_0 : decode cX12_wetBehind 0 = .ok (.aload_n 0, 1) := by decide +kernel
theorem dX12_wetBehind_1 : decode cX12_wetBehind 1 = .ok (.getfield 25, 3) := by decide +kernel
theorem dX12_wetBehind_4 : decode cX12_wetBehind 4 = .ok (.bipush 105, 2) := by decide +kernel
theorem dX12_wetBehind_6 : decode cX12_wetBehind 6 = .ok (.iaload, 1) := by decide +kernel
theorem dX12_wetBehind_7 : decode cX12_wetBehind 7 = .ok (.istore_n 2, 1) := by decide +kernel
theorem dX12_wetBehind_8 : decode cX12_wetBehind 8 = .ok (.iconst 0, 1) := by decide +kernel
theorem dX12_wetBehind_9 : decode cX12_wetBehind 9 = .ok (.istore_n 3, 1) := by decide +kernel
theorem dX12_wetBehind_10 : decode cX12_wetBehind 10 = .ok (.iload_n 3, 1) := by decide +kernel
theorem dX12_wetBehind_11 : decode cX12_wetBehind 11 = .ok (.iload_n 1, 1) := by decide +kernel
theorem dX12_wetBehind_12 : decode cX12_wetBehind 12 = .ok (.if_icmp .ge 17, 3) := by decide +kernel
theorem dX12_wetBehind_15 : decode cX12_wetBehind 15 = .ok (.iload_n 2, 1) := by decide +kernel
theorem dX12_wetBehind_16 : decode cX12_wetBehind 16 = .ok (.ifCond .le 13, 3) := by decide +kernel
theorem dX12_wetBehind_19 : decode cX12_wetBehind 19 = .ok (.iload_n 2, 1) := by decide +kernel
theorem dX12_wetBehind_20 : decode cX12_wetBehind 20 = .ok (.iconst 2, 1) := by decide +kernel
theorem dX12_wetBehind_21 : decode cX12_wetBehind 21 = .ok (.idiv, 1) := by decide +kernel
theorem dX12_wetBehind_22 : decode cX12_wetBehind 22 = .ok (.istore_n 2, 1) := by decide +kernel
theorem dX12_wetBehind_23 : decode cX12_wetBehind 23 = .ok (.iinc 3 1, 3) := by decide +kernel
theorem dX12_wetBehind_26 : decode cX12_wetBehind 26 = .ok (.goto (-16), 3) := by decide +kernel
theorem dX12_wetBehind_29 : decode cX12_wetBehind 29 = .ok (.aload_n 0, 1) := by decide +kernel
theorem dX12_wetBehind_30 : decode cX12_wetBehind 30 = .ok (.aload_n 0, 1) := by decide +kernel
theorem dX12_wetBehind_31 : decode cX12_wetBehind 31 = .ok (.getfield 25, 3) := by decide +kernel
theorem dX12_wetBehind_34 : decode cX12_wetBehind 34 = .ok (.bipush 104, 2) := by decide +kernel
theorem dX12_wetBehind_36 : decode cX12_wetBehind 36 = .ok (.iaload, 1) := by decide +kernel
theorem dX12_wetBehind_37 : decode cX12_wetBehind 37 = .ok (.iload_n 1, 1) := by decide +kernel
theorem dX12_wetBehind_38 : decode cX12_wetBehind 38 = .ok (.iadd, 1) := by decide +kernel
theorem dX12_wetBehind_39 : decode cX12_wetBehind 39 = .ok (.invokevirtual 163, 3) := by decide +kernel
theorem dX12_wetBehind_42 : decode cX12_wetBehind 42 = .ok (.iload_n 2, 1) := by decide +kernel
theorem dX12_wetBehind_43 : decode cX12_wetBehind 43 = .ok (.iadd, 1) := by decide +kernel
theorem dX12_wetBehind_44 : decode cX12_wetBehind 44 = .ok (.ireturn, 1) := by decide +kernel
theorem dX12_wet_0 : decode cX12_wet 0 = .ok (.aload_n 0, 1) := by decide +kernel
theorem dX12_wet_1 : decode cX12_wet 1 = .ok (.getfield 78, 3) := by decide +kernel
theorem dX12_wet_4 : decode cX12_wet 4 = .ok (.ifCond .ne 7, 3) := by decide +kernel
theorem dX12_wet_7 : decode cX12_wet 7 = .ok (.iconst 0, 1) := by decide +kernel
theorem dX12_wet_8 : decode cX12_wet 8 = .ok (.goto 8, 3) := by decide +kernel
theorem dX12_wet_11 : decode cX12_wet 11 = .ok (.aload_n 0, 1) := by decide +kernel
theorem dX12_wet_12 : decode cX12_wet 12 = .ok (.iconst 0, 1) := by decide +kernel
theorem dX12_wet_13 : decode cX12_wet 13 = .ok (.invokevirtual 167, 3) := by decide +kernel
theorem dX12_wet_16 : decode cX12_wet 16 = .ok (.ireturn, 1) := by decide +kernel
theorem dX12_notBelow_0 : decode cX12_notBelow 0 = .ok (.iload_n 0, 1) := by decide +kernel
theorem dX12_notBelow_1 : decode cX12_notBelow 1 = .ok (.ifCond .le 7, 3) := by decide +kernel
theorem dX12_notBelow_4 : decode cX12_notBelow 4 = .ok (.iload_n 0, 1) := by decide +kernel
theorem dX12_notBelow_5 : decode cX12_notBelow 5 = .ok (.goto 4, 3) := by decide +kernel
theorem dX12_notBelow_8 : decode cX12_notBelow 8 = .ok (.iconst 0, 1) := by decide +kernel
theorem dX12_notBelow_9 : decode cX12_notBelow 9 = .ok (.ireturn, 1) := by decide +kernel
theorem dX12_groundOf_0 : decode cX12_groundOf 0 = .ok (.aload_n 0, 1) := by decide +kernel
theorem dX12_groundOf_1 : decode cX12_groundOf 1 = .ok (.getfield 7, 3) := by decide +kernel
theorem dX12_groundOf_4 : decode cX12_groundOf 4 = .ok (.iload_n 2, 1) := by decide +kernel
theorem dX12_groundOf_5 : decode cX12_groundOf 5 = .ok (.iaload, 1) := by decide +kernel
theorem dX12_groundOf_6 : decode cX12_groundOf 6 = .ok (.aload_n 0, 1) := by decide +kernel
theorem dX12_groundOf_7 : decode cX12_groundOf 7 = .ok (.getfield 16, 3) := by decide +kernel
theorem dX12_groundOf_10 : decode cX12_groundOf 10 = .ok (.iload_n 1, 1) := by decide +kernel
theorem dX12_groundOf_11 : decode cX12_groundOf 11 = .ok (.iaload, 1) := by decide +kernel
theorem dX12_groundOf_12 : decode cX12_groundOf 12 = .ok (.iconst 2, 1) := by decide +kernel
theorem dX12_groundOf_13 : decode cX12_groundOf 13 = .ok (.if_icmp .ne 7, 3) := by decide +kernel
theorem dX12_groundOf_16 : decode cX12_groundOf 16 = .ok (.iconst 0, 1) := by decide +kernel
theorem dX12_groundOf_17 : decode cX12_groundOf 17 = .ok (.goto 4, 3) := by decide +kernel
theorem dX12_groundOf_20 : decode cX12_groundOf 20 = .ok (.iload_n 3, 1) := by decide +kernel
theorem dX12_groundOf_21 : decode cX12_groundOf 21 = .ok (.iadd, 1) := by decide +kernel
theorem dX12_groundOf_22 : decode cX12_groundOf 22 = .ok (.aload_n 0, 1) := by decide +kernel
theorem dX12_groundOf_23 : decode cX12_groundOf 23 = .ok (.getfield 25, 3) := by decide +kernel
theorem dX12_groundOf_26 : decode cX12_groundOf 26 = .ok (.iload_n 2, 1) := by decide +kernel
theorem dX12_groundOf_27 : decode cX12_groundOf 27 = .ok (.iaload, 1) := by decide +kernel
theorem dX12_groundOf_28 : decode cX12_groundOf 28 = .ok (.isub, 1) := by decide +kernel
theorem dX12_groundOf_29 : decode cX12_groundOf 29 = .ok (.invokestatic 170, 3) := by decide +kernel
theorem dX12_groundOf_32 : decode cX12_groundOf 32 = .ok (.ireturn, 1) := by decide +kernel
theorem dX12_weighs_0 : decode cX12_weighs 0 = .ok (.aload_n 0, 1) := by decide +kernel
theorem dX12_weighs_1 : decode cX12_weighs 1 = .ok (.getfield 16, 3) := by decide +kernel
theorem dX12_weighs_4 : decode cX12_weighs 4 = .ok (.iload_n 1, 1) := by decide +kernel
theorem dX12_weighs_5 : decode cX12_weighs 5 = .ok (.iaload, 1) := by decide +kernel
theorem dX12_weighs_6 : decode cX12_weighs 6 = .ok (.lookupswitch 61 #[(1, 26), (3, 30)], 26) := by decide +kernel
theorem dX12_weighs_32 : decode cX12_weighs 32 = .ok (.iload_n 2, 1) := by decide +kernel
theorem dX12_weighs_33 : decode cX12_weighs 33 = .ok (.iconst 2, 1) := by decide +kernel
theorem dX12_weighs_34 : decode cX12_weighs 34 = .ok (.idiv, 1) := by decide +kernel
theorem dX12_weighs_35 : decode cX12_weighs 35 = .ok (.ireturn, 1) := by decide +kernel
theorem dX12_weighs_36 : decode cX12_weighs 36 = .ok (.iload_n 2, 1) := by decide +kernel
theorem dX12_weighs_37 : decode cX12_weighs 37 = .ok (.aload_n 0, 1) := by decide +kernel
theorem dX12_weighs_38 : decode cX12_weighs 38 = .ok (.getfield 25, 3) := by decide +kernel
theorem dX12_weighs_41 : decode cX12_weighs 41 = .ok (.bipush 96, 2) := by decide +kernel
theorem dX12_weighs_43 : decode cX12_weighs 43 = .ok (.iload_n 1, 1) := by decide +kernel
theorem dX12_weighs_44 : decode cX12_weighs 44 = .ok (.iadd, 1) := by decide +kernel
theorem dX12_weighs_45 : decode cX12_weighs 45 = .ok (.iaload, 1) := by decide +kernel
theorem dX12_weighs_46 : decode cX12_weighs 46 = .ok (.bipush 20, 2) := by decide +kernel
theorem dX12_weighs_48 : decode cX12_weighs 48 = .ok (.if_icmp .ge 15, 3) := by decide +kernel
theorem dX12_weighs_51 : decode cX12_weighs 51 = .ok (.aload_n 0, 1) := by decide +kernel
theorem dX12_weighs_52 : decode cX12_weighs 52 = .ok (.getfield 25, 3) := by decide +kernel
theorem dX12_weighs_55 : decode cX12_weighs 55 = .ok (.bipush 96, 2) := by decide +kernel
theorem dX12_weighs_57 : decode cX12_weighs 57 = .ok (.iload_n 1, 1) := by decide +kernel
theorem dX12_weighs_58 : decode cX12_weighs 58 = .ok (.iadd, 1) := by decide +kernel
theorem dX12_weighs_59 : decode cX12_weighs 59 = .ok (.iaload, 1) := by decide +kernel
theorem dX12_weighs_60 : decode cX12_weighs 60 = .ok (.goto 5, 3) := by decide +kernel
theorem dX12_weighs_63 : decode cX12_weighs 63 = .ok (.bipush 20, 2) := by decide +kernel
theorem dX12_weighs_65 : decode cX12_weighs 65 = .ok (.iadd, 1) := by decide +kernel
theorem dX12_weighs_66 : decode cX12_weighs 66 = .ok (.ireturn, 1) := by decide +kernel
theorem dX12_weighs_67 : decode cX12_weighs 67 = .ok (.iload_n 2, 1) := by decide +kernel
theorem dX12_weighs_68 : decode cX12_weighs 68 = .ok (.ireturn, 1) := by decide +kernel
theorem dX12_stopBy_0 : decode cX12_stopBy 0 = .ok (.iconst 0, 1) := by decide +kernel
theorem dX12_stopBy_1 : decode cX12_stopBy 1 = .ok (.istore 4, 2) := by decide +kernel
theorem dX12_stopBy_3 : decode cX12_stopBy 3 = .ok (.iload 4, 2) := by decide +kernel
theorem dX12_stopBy_5 : decode cX12_stopBy 5 = .ok (.aload_n 0, 1) := by decide +kernel
theorem dX12_stopBy_6 : decode cX12_stopBy 6 = .ok (.getfield 78, 3) := by decide +kernel
theorem dX12_stopBy_9 : decode cX12_stopBy 9 = .ok (.if_icmp .ge 32, 3) := by decide +kernel
theorem dX12_stopBy_12 : decode cX12_stopBy 12 = .ok (.aload_n 0, 1) := by decide +kernel
theorem dX12_stopBy_13 : decode cX12_stopBy 13 = .ok (.iload_n 1, 1) := by decide +kernel
theorem dX12_stopBy_14 : decode cX12_stopBy 14 = .ok (.iload 4, 2) := by decide +kernel
theorem dX12_stopBy_16 : decode cX12_stopBy 16 = .ok (.iload_n 3, 1) := by decide +kernel
theorem dX12_stopBy_17 : decode cX12_stopBy 17 = .ok (.invokevirtual 173, 3) := by decide +kernel
theorem dX12_stopBy_20 : decode cX12_stopBy 20 = .ok (.aload_n 0, 1) := by decide +kernel
theorem dX12_stopBy_21 : decode cX12_stopBy 21 = .ok (.iload_n 1, 1) := by decide +kernel
theorem dX12_stopBy_22 : decode cX12_stopBy 22 = .ok (.iload_n 2, 1) := by decide +kernel
theorem dX12_stopBy_23 : decode cX12_stopBy 23 = .ok (.invokevirtual 177, 3) := by decide +kernel
theorem dX12_stopBy_26 : decode cX12_stopBy 26 = .ok (.iadd, 1) := by decide +kernel
theorem dX12_stopBy_27 : decode cX12_stopBy 27 = .ok (.bipush 60, 2) := by decide +kernel
theorem dX12_stopBy_29 : decode cX12_stopBy 29 = .ok (.if_icmp .lt 6, 3) := by decide +kernel
theorem dX12_stopBy_32 : decode cX12_stopBy 32 = .ok (.iload 4, 2) := by decide +kernel
theorem dX12_stopBy_34 : decode cX12_stopBy 34 = .ok (.ireturn, 1) := by decide +kernel
theorem dX12_stopBy_35 : decode cX12_stopBy 35 = .ok (.iinc 4 1, 3) := by decide +kernel
theorem dX12_stopBy_38 : decode cX12_stopBy 38 = .ok (.goto (-35), 3) := by decide +kernel
theorem dX12_stopBy_41 : decode cX12_stopBy 41 = .ok (.iconst (-1), 1) := by decide +kernel
theorem dX12_stopBy_42 : decode cX12_stopBy 42 = .ok (.ireturn, 1) := by decide +kernel
theorem dX12_stopOf_0 : decode cX12_stopOf 0 = .ok (.aload_n 0, 1) := by decide +kernel
theorem dX12_stopOf_1 : decode cX12_stopOf 1 = .ok (.iload_n 1, 1) := by decide +kernel
theorem dX12_stopOf_2 : decode cX12_stopOf 2 = .ok (.aload_n 0, 1) := by decide +kernel
theorem dX12_stopOf_3 : decode cX12_stopOf 3 = .ok (.getfield 25, 3) := by decide +kernel
theorem dX12_stopOf_6 : decode cX12_stopOf 6 = .ok (.bipush 80, 2) := by decide +kernel
theorem dX12_stopOf_8 : decode cX12_stopOf 8 = .ok (.iload_n 1, 1) := by decide +kernel
theorem dX12_stopOf_9 : decode cX12_stopOf 9 = .ok (.iadd, 1) := by decide +kernel
theorem dX12_stopOf_10 : decode cX12_stopOf 10 = .ok (.iaload, 1) := by decide +kernel
theorem dX12_stopOf_11 : decode cX12_stopOf 11 = .ok (.iload_n 2, 1) := by decide +kernel
theorem dX12_stopOf_12 : decode cX12_stopOf 12 = .ok (.invokevirtual 180, 3) := by decide +kernel
theorem dX12_stopOf_15 : decode cX12_stopOf 15 = .ok (.ireturn, 1) := by decide +kernel
theorem dX12_isTown_0 : decode cX12_isTown 0 = .ok (.aload_n 0, 1) := by decide +kernel
theorem dX12_isTown_1 : decode cX12_isTown 1 = .ok (.getfield 25, 3) := by decide +kernel
theorem dX12_isTown_4 : decode cX12_isTown 4 = .ok (.bipush 20, 2) := by decide +kernel
theorem dX12_isTown_6 : decode cX12_isTown 6 = .ok (.iload_n 1, 1) := by decide +kernel
theorem dX12_isTown_7 : decode cX12_isTown 7 = .ok (.iadd, 1) := by decide +kernel
theorem dX12_isTown_8 : decode cX12_isTown 8 = .ok (.iaload, 1) := by decide +kernel
theorem dX12_isTown_9 : decode cX12_isTown 9 = .ok (.iconst (-1), 1) := by decide +kernel
theorem dX12_isTown_10 : decode cX12_isTown 10 = .ok (.if_icmp .eq 7, 3) := by decide +kernel
theorem dX12_isTown_13 : decode cX12_isTown 13 = .ok (.iconst 1, 1) := by decide +kernel
theorem dX12_isTown_14 : decode cX12_isTown 14 = .ok (.goto 4, 3) := by decide +kernel
theorem dX12_isTown_17 : decode cX12_isTown 17 = .ok (.iconst 0, 1) := by decide +kernel
theorem dX12_isTown_18 : decode cX12_isTown 18 = .ok (.ireturn, 1) := by decide +kernel
theorem dX12_towns_0 : decode cX12_towns 0 = .ok (.iconst 0, 1) := by decide +kernel
theorem dX12_towns_1 : decode cX12_towns 1 = .ok (.istore_n 1, 1) := by decide +kernel
theorem dX12_towns_2 : decode cX12_towns 2 = .ok (.iconst 0, 1) := by decide +kernel
theorem dX12_towns_3 : decode cX12_towns 3 = .ok (.istore_n 2, 1) := by decide +kernel
theorem dX12_towns_4 : decode cX12_towns 4 = .ok (.iload_n 2, 1) := by decide +kernel
theorem dX12_towns_5 : decode cX12_towns 5 = .ok (.aload_n 0, 1) := by decide +kernel
theorem dX12_towns_6 : decode cX12_towns 6 = .ok (.getfield 78, 3) := by decide +kernel
theorem dX12_towns_9 : decode cX12_towns 9 = .ok (.if_icmp .ge 27, 3) := by decide +kernel
theorem dX12_towns_12 : decode cX12_towns 12 = .ok (.iload_n 1, 1) := by decide +kernel
theorem dX12_towns_13 : decode cX12_towns 13 = .ok (.aload_n 0, 1) := by decide +kernel
theorem dX12_towns_14 : decode cX12_towns 14 = .ok (.iload_n 2, 1) := by decide +kernel
theorem dX12_towns_15 : decode cX12_towns 15 = .ok (.invokevirtual 183, 3) := by decide +kernel
theorem dX12_towns_18 : decode cX12_towns 18 = .ok (.ifCond .eq 9, 3) := by decide +kernel
theorem dX12_towns_21 : decode cX12_towns 21 = .ok (.iconst 1, 1) := by decide +kernel
theorem dX12_towns_22 : decode cX12_towns 22 = .ok (.iload_n 2, 1) := by decide +kernel
theorem dX12_towns_23 : decode cX12_towns 23 = .ok (.ishl, 1) := by decide +kernel
theorem dX12_towns_24 : decode cX12_towns 24 = .ok (.goto 4, 3) := by decide +kernel
theorem dX12_towns_27 : decode cX12_towns 27 = .ok (.iconst 0, 1) := by decide +kernel
theorem dX12_towns_28 : decode cX12_towns 28 = .ok (.ior, 1) := by decide +kernel
theorem dX12_towns_29 : decode cX12_towns 29 = .ok (.istore_n 1, 1) := by decide +kernel
theorem dX12_towns_30 : decode cX12_towns 30 = .ok (.iinc 2 1, 3) := by decide +kernel
theorem dX12_towns_33 : decode cX12_towns 33 = .ok (.goto (-29), 3) := by decide +kernel
theorem dX12_towns_36 : decode cX12_towns 36 = .ok (.iload_n 1, 1) := by decide +kernel
theorem dX12_towns_37 : decode cX12_towns 37 = .ok (.ireturn, 1) := by decide +kernel
theorem dX12_stuckOnes_0 : decode cX12_stuckOnes 0 = .ok (.iconst 0, 1) := by decide +kernel
theorem dX12_stuckOnes_1 : decode cX12_stuckOnes 1 = .ok (.istore_n 1, 1) := by decide +kernel
theorem dX12_stuckOnes_2 : decode cX12_stuckOnes 2 = .ok (.iconst 0, 1) := by decide +kernel
theorem dX12_stuckOnes_3 : decode cX12_stuckOnes 3 = .ok (.istore_n 2, 1) := by decide +kernel
theorem dX12_stuckOnes_4 : decode cX12_stuckOnes 4 = .ok (.iload_n 2, 1) := by decide +kernel
theorem dX12_stuckOnes_5 : decode cX12_stuckOnes 5 = .ok (.aload_n 0, 1) := by decide +kernel
theorem dX12_stuckOnes_6 : decode cX12_stuckOnes 6 = .ok (.getfield 85, 3) := by decide +kernel
theorem dX12_stuckOnes_9 : decode cX12_stuckOnes 9 = .ok (.if_icmp .ge 32, 3) := by decide +kernel
theorem dX12_stuckOnes_12 : decode cX12_stuckOnes 12 = .ok (.iload_n 1, 1) := by decide +kernel
theorem dX12_stuckOnes_13 : decode cX12_stuckOnes 13 = .ok (.aload_n 0, 1) := by decide +kernel
theorem dX12_stuckOnes_14 : decode cX12_stuckOnes 14 = .ok (.getfield 25, 3) := by decide +kernel
theorem dX12_stuckOnes_17 : decode cX12_stuckOnes 17 = .ok (.bipush 88, 2) := by decide +kernel
theorem dX12_stuckOnes_19 : decode cX12_stuckOnes 19 = .ok (.iload_n 2, 1) := by decide +kernel
theorem dX12_stuckOnes_20 : decode cX12_stuckOnes 20 = .ok (.iadd, 1) := by decide +kernel
theorem dX12_stuckOnes_21 : decode cX12_stuckOnes 21 = .ok (.iaload, 1) := by decide +kernel
theorem dX12_stuckOnes_22 : decode cX12_stuckOnes 22 = .ok (.iconst (-1), 1) := by decide +kernel
theorem dX12_stuckOnes_23 : decode cX12_stuckOnes 23 = .ok (.if_icmp .eq 9, 3) := by decide +kernel
theorem dX12_stuckOnes_26 : decode cX12_stuckOnes 26 = .ok (.iconst 1, 1) := by decide +kernel
theorem dX12_stuckOnes_27 : decode cX12_stuckOnes 27 = .ok (.iload_n 2, 1) := by decide +kernel
theorem dX12_stuckOnes_28 : decode cX12_stuckOnes 28 = .ok (.ishl, 1) := by decide +kernel
theorem dX12_stuckOnes_29 : decode cX12_stuckOnes 29 = .ok (.goto 4, 3) := by decide +kernel
theorem dX12_stuckOnes_32 : decode cX12_stuckOnes 32 = .ok (.iconst 0, 1) := by decide +kernel
theorem dX12_stuckOnes_33 : decode cX12_stuckOnes 33 = .ok (.ior, 1) := by decide +kernel
theorem dX12_stuckOnes_34 : decode cX12_stuckOnes 34 = .ok (.istore_n 1, 1) := by decide +kernel
theorem dX12_stuckOnes_35 : decode cX12_stuckOnes 35 = .ok (.iinc 2 1, 3) := by decide +kernel
theorem dX12_stuckOnes_38 : decode cX12_stuckOnes 38 = .ok (.goto (-34), 3) := by decide +kernel
theorem dX12_stuckOnes_41 : decode cX12_stuckOnes 41 = .ok (.iload_n 1, 1) := by decide +kernel
theorem dX12_stuckOnes_42 : decode cX12_stuckOnes 42 = .ok (.ireturn, 1) := by decide +kernel
theorem dX12_stopper_0 : decode cX12_stopper 0 = .ok (.iconst (-1), 1) := by decide +kernel
theorem dX12_stopper_1 : decode cX12_stopper 1 = .ok (.istore_n 1, 1) := by decide +kernel
theorem dX12_stopper_2 : decode cX12_stopper 2 = .ok (.iconst 0, 1) := by decide +kernel
theorem dX12_stopper_3 : decode cX12_stopper 3 = .ok (.istore_n 2, 1) := by decide +kernel
theorem dX12_stopper_4 : decode cX12_stopper 4 = .ok (.iconst 0, 1) := by decide +kernel
theorem dX12_stopper_5 : decode cX12_stopper 5 = .ok (.istore_n 3, 1) := by decide +kernel
theorem dX12_stopper_6 : decode cX12_stopper 6 = .ok (.iload_n 3, 1) := by decide +kernel
theorem dX12_stopper_7 : decode cX12_stopper 7 = .ok (.aload_n 0, 1) := by decide +kernel
theorem dX12_stopper_8 : decode cX12_stopper 8 = .ok (.getfield 78, 3) := by decide +kernel
theorem dX12_stopper_11 : decode cX12_stopper 11 = .ok (.if_icmp .ge 79, 3) := by decide +kernel
theorem dX12_stopper_14 : decode cX12_stopper 14 = .ok (.iconst 0, 1) := by decide +kernel
theorem dX12_stopper_15 : decode cX12_stopper 15 = .ok (.istore 4, 2) := by decide +kernel
theorem dX12_stopper_17 : decode cX12_stopper 17 = .ok (.iconst 0, 1) := by decide +kernel
theorem dX12_stopper_18 : decode cX12_stopper 18 = .ok (.istore 5, 2) := by decide +kernel
theorem dX12_stopper_20 : decode cX12_stopper 20 = .ok (.iload 5, 2) := by decide +kernel
theorem dX12_stopper_22 : decode cX12_stopper 22 = .ok (.aload_n 0, 1) := by decide +kernel
theorem dX12_stopper_23 : decode cX12_stopper 23 = .ok (.getfield 85, 3) := by decide +kernel
theorem dX12_stopper_26 : decode cX12_stopper 26 = .ok (.if_icmp .ge 33, 3) := by decide +kernel
theorem dX12_stopper_29 : decode cX12_stopper 29 = .ok (.iload 4, 2) := by decide +kernel
theorem dX12_stopper_31 : decode cX12_stopper 31 = .ok (.aload_n 0, 1) := by decide +kernel
theorem dX12_stopper_32 : decode cX12_stopper 32 = .ok (.iload 5, 2) := by decide +kernel
theorem dX12_stopper_34 : decode cX12_stopper 34 = .ok (.aload_n 0, 1) := by decide +kernel
theorem dX12_stopper_35 : decode cX12_stopper 35 = .ok (.invokevirtual 187, 3) := by decide +kernel
theorem dX12_stopper_38 : decode cX12_stopper 38 = .ok (.invokevirtual 190, 3) := by decide +kernel
theorem dX12_stopper_41 : decode cX12_stopper 41 = .ok (.iload_n 3, 1) := by decide +kernel
theorem dX12_stopper_42 : decode cX12_stopper 42 = .ok (.if_icmp .ne 7, 3) := by decide +kernel
theorem dX12_stopper_45 : decode cX12_stopper 45 = .ok (.iconst 1, 1) := by decide +kernel
theorem dX12_stopper_46 : decode cX12_stopper 46 = .ok (.goto 4, 3) := by decide +kernel
theorem dX12_stopper_49 : decode cX12_stopper 49 = .ok (.iconst 0, 1) := by decide +kernel
theorem dX12_stopper_50 : decode cX12_stopper 50 = .ok (.iadd, 1) := by decide +kernel
theorem dX12_stopper_51 : decode cX12_stopper 51 = .ok (.istore 4, 2) := by decide +kernel
theorem dX12_stopper_53 : decode cX12_stopper 53 = .ok (.iinc 5 1, 3) := by decide +kernel
theorem dX12_stopper_56 : decode cX12_stopper 56 = .ok (.goto (-36), 3) := by decide +kernel
theorem dX12_stopper_59 : decode cX12_stopper 59 = .ok (.iload 4, 2) := by decide +kernel
theorem dX12_stopper_61 : decode cX12_stopper 61 = .ok (.iload_n 2, 1) := by decide +kernel
theorem dX12_stopper_62 : decode cX12_stopper 62 = .ok (.if_icmp .le 7, 3) := by decide +kernel
theorem dX12_stopper_65 : decode cX12_stopper 65 = .ok (.iload_n 3, 1) := by decide +kernel
theorem dX12_stopper_66 : decode cX12_stopper 66 = .ok (.goto 4, 3) := by decide +kernel
theorem dX12_stopper_69 : decode cX12_stopper 69 = .ok (.iload_n 1, 1) := by decide +kernel
theorem dX12_stopper_70 : decode cX12_stopper 70 = .ok (.istore_n 1, 1) := by decide +kernel
theorem dX12_stopper_71 : decode cX12_stopper 71 = .ok (.iload 4, 2) := by decide +kernel
theorem dX12_stopper_73 : decode cX12_stopper 73 = .ok (.iload_n 2, 1) := by decide +kernel
theorem dX12_stopper_74 : decode cX12_stopper 74 = .ok (.if_icmp .le 8, 3) := by decide +kernel
theorem dX12_stopper_77 : decode cX12_stopper 77 = .ok (.iload 4, 2) := by decide +kernel
theorem dX12_stopper_79 : decode cX12_stopper 79 = .ok (.goto 4, 3) := by decide +kernel
theorem dX12_stopper_82 : decode cX12_stopper 82 = .ok (.iload_n 2, 1) := by decide +kernel
theorem dX12_stopper_83 : decode cX12_stopper 83 = .ok (.istore_n 2, 1) := by decide +kernel
theorem dX12_stopper_84 : decode cX12_stopper 84 = .ok (.iinc 3 1, 3) := by decide +kernel
theorem dX12_stopper_87 : decode cX12_stopper 87 = .ok (.goto (-81), 3) := by decide +kernel
theorem dX12_stopper_90 : decode cX12_stopper 90 = .ok (.iload_n 1, 1) := by decide +kernel
theorem dX12_stopper_91 : decode cX12_stopper 91 = .ok (.ireturn, 1) := by decide +kernel
theorem dX12_distanceTo_0 : decode cX12_distanceTo 0 = .ok (.ldc 193, 2) := by decide +kernel
theorem dX12_distanceTo_2 : decode cX12_distanceTo 2 = .ok (.istore_n 3, 1) := by decide +kernel
theorem dX12_distanceTo_3 : decode cX12_distanceTo 3 = .ok (.iconst 0, 1) := by decide +kernel
theorem dX12_distanceTo_4 : decode cX12_distanceTo 4 = .ok (.istore 4, 2) := by decide +kernel
theorem dX12_distanceTo_6 : decode cX12_distanceTo 6 = .ok (.iload 4, 2) := by decide +kernel
theorem dX12_distanceTo_8 : decode cX12_distanceTo 8 = .ok (.aload_n 0, 1) := by decide +kernel
theorem dX12_distanceTo_9 : decode cX12_distanceTo 9 = .ok (.getfield 78, 3) := by decide +kernel
theorem dX12_distanceTo_12 : decode cX12_distanceTo 12 = .ok (.if_icmp .ge 50, 3) := by decide +kernel
theorem dX12_distanceTo_15 : decode cX12_distanceTo 15 = .ok (.iload_n 1, 1) := by decide +kernel
theorem dX12_distanceTo_16 : decode cX12_distanceTo 16 = .ok (.iload 4, 2) := by decide +kernel
theorem dX12_distanceTo_18 : decode cX12_distanceTo 18 = .ok (.if_icmp .le 10, 3) := by decide +kernel
theorem dX12_distanceTo_21 : decode cX12_distanceTo 21 = .ok (.iload_n 1, 1) := by decide +kernel
theorem dX12_distanceTo_22 : decode cX12_distanceTo 22 = .ok (.iload 4, 2) := by decide +kernel
theorem dX12_distanceTo_24 : decode cX12_distanceTo 24 = .ok (.isub, 1) := by decide +kernel
theorem dX12_distanceTo_25 : decode cX12_distanceTo 25 = .ok (.goto 7, 3) := by decide +kernel
theorem dX12_distanceTo_28 : decode cX12_distanceTo 28 = .ok (.iload 4, 2) := by decide +kernel
theorem dX12_distanceTo_30 : decode cX12_distanceTo 30 = .ok (.iload_n 1, 1) := by decide +kernel
theorem dX12_distanceTo_31 : decode cX12_distanceTo 31 = .ok (.isub, 1) := by decide +kernel
theorem dX12_distanceTo_32 : decode cX12_distanceTo 32 = .ok (.istore 5, 2) := by decide +kernel
theorem dX12_distanceTo_34 : decode cX12_distanceTo 34 = .ok (.iload_n 2, 1) := by decide +kernel
theorem dX12_distanceTo_35 : decode cX12_distanceTo 35 = .ok (.iload 4, 2) := by decide +kernel
theorem dX12_distanceTo_37 : decode cX12_distanceTo 37 = .ok (.invokestatic 194, 3) := by decide +kernel
theorem dX12_distanceTo_40 : decode cX12_distanceTo 40 = .ok (.ifCond .eq 14, 3) := by decide +kernel
theorem dX12_distanceTo_43 : decode cX12_distanceTo 43 = .ok (.iload 5, 2) := by decide +kernel
theorem dX12_distanceTo_45 : decode cX12_distanceTo 45 = .ok (.iload_n 3, 1) := by decide +kernel
theorem dX12_distanceTo_46 : decode cX12_distanceTo 46 = .ok (.if_icmp .ge 8, 3) := by decide +kernel
theorem dX12_distanceTo_49 : decode cX12_distanceTo 49 = .ok (.iload 5, 2) := by decide +kernel
theorem dX12_distanceTo_51 : decode cX12_distanceTo 51 = .ok (.goto 4, 3) := by decide +kernel
theorem dX12_distanceTo_54 : decode cX12_distanceTo 54 = .ok (.iload_n 3, 1) := by decide +kernel
theorem dX12_distanceTo_55 : decode cX12_distanceTo 55 = .ok (.istore_n 3, 1) := by decide +kernel
theorem dX12_distanceTo_56 : decode cX12_distanceTo 56 = .ok (.iinc 4 1, 3) := by decide +kernel
theorem dX12_distanceTo_59 : decode cX12_distanceTo 59 = .ok (.goto (-53), 3) := by decide +kernel
theorem dX12_distanceTo_62 : decode cX12_distanceTo 62 = .ok (.iload_n 3, 1) := by decide +kernel
theorem dX12_distanceTo_63 : decode cX12_distanceTo 63 = .ok (.ireturn, 1) := by decide +kernel
theorem dX12_farOf_0 : decode cX12_farOf 0 = .ok (.iconst (-1), 1) := by decide +kernel
theorem dX12_farOf_1 : decode cX12_farOf 1 = .ok (.istore_n 1, 1) := by decide +kernel
theorem dX12_farOf_2 : decode cX12_farOf 2 = .ok (.iconst 0, 1) := by decide +kernel
theorem dX12_farOf_3 : decode cX12_farOf 3 = .ok (.istore_n 2, 1) := by decide +kernel
theorem dX12_farOf_4 : decode cX12_farOf 4 = .ok (.iload_n 2, 1) := by decide +kernel
theorem dX12_farOf_5 : decode cX12_farOf 5 = .ok (.aload_n 0, 1) := by decide +kernel
theorem dX12_farOf_6 : decode cX12_farOf 6 = .ok (.getfield 78, 3) := by decide +kernel
theorem dX12_farOf_9 : decode cX12_farOf 9 = .ok (.if_icmp .ge 37, 3) := by decide +kernel
theorem dX12_farOf_12 : decode cX12_farOf 12 = .ok (.aload_n 0, 1) := by decide +kernel
theorem dX12_farOf_13 : decode cX12_farOf 13 = .ok (.invokevirtual 198, 3) := by decide +kernel
theorem dX12_farOf_16 : decode cX12_farOf 16 = .ok (.ifCond .eq 30, 3) := by decide +kernel
theorem dX12_farOf_19 : decode cX12_farOf 19 = .ok (.aload_n 0, 1) := by decide +kernel
theorem dX12_farOf_20 : decode cX12_farOf 20 = .ok (.iload_n 2, 1) := by decide +kernel
theorem dX12_farOf_21 : decode cX12_farOf 21 = .ok (.aload_n 0, 1) := by decide +kernel
theorem dX12_farOf_22 : decode cX12_farOf 22 = .ok (.invokevirtual 198, 3) := by decide +kernel
theorem dX12_farOf_25 : decode cX12_farOf 25 = .ok (.invokevirtual 201, 3) := by decide +kernel
theorem dX12_farOf_28 : decode cX12_farOf 28 = .ok (.istore_n 3, 1) := by decide +kernel
theorem dX12_farOf_29 : decode cX12_farOf 29 = .ok (.iload_n 3, 1) := by decide +kernel
theorem dX12_farOf_30 : decode cX12_farOf 30 = .ok (.iload_n 1, 1) := by decide +kernel
theorem dX12_farOf_31 : decode cX12_farOf 31 = .ok (.if_icmp .le 7, 3) := by decide +kernel
theorem dX12_farOf_34 : decode cX12_farOf 34 = .ok (.iload_n 3, 1) := by decide +kernel
theorem dX12_farOf_35 : decode cX12_farOf 35 = .ok (.goto 4, 3) := by decide +kernel
theorem dX12_farOf_38 : decode cX12_farOf 38 = .ok (.iload_n 1, 1) := by decide +kernel
theorem dX12_farOf_39 : decode cX12_farOf 39 = .ok (.istore_n 1, 1) := by decide +kernel
theorem dX12_farOf_40 : decode cX12_farOf 40 = .ok (.iinc 2 1, 3) := by decide +kernel
theorem dX12_farOf_43 : decode cX12_farOf 43 = .ok (.goto (-39), 3) := by decide +kernel
theorem dX12_farOf_46 : decode cX12_farOf 46 = .ok (.iload_n 1, 1) := by decide +kernel
theorem dX12_farOf_47 : decode cX12_farOf 47 = .ok (.ireturn, 1) := by decide +kernel
theorem dX12_longest_0 : decode cX12_longest 0 = .ok (.iconst 0, 1) := by decide +kernel
theorem dX12_longest_1 : decode cX12_longest 1 = .ok (.istore_n 1, 1) := by decide +kernel
theorem dX12_longest_2 : decode cX12_longest 2 = .ok (.iconst 0, 1) := by decide +kernel
theorem dX12_longest_3 : decode cX12_longest 3 = .ok (.istore_n 2, 1) := by decide +kernel
theorem dX12_longest_4 : decode cX12_longest 4 = .ok (.iconst 0, 1) := by decide +kernel
theorem dX12_longest_5 : decode cX12_longest 5 = .ok (.istore_n 3, 1) := by decide +kernel
theorem dX12_longest_6 : decode cX12_longest 6 = .ok (.iload_n 3, 1) := by decide +kernel
theorem dX12_longest_7 : decode cX12_longest 7 = .ok (.aload_n 0, 1) := by decide +kernel
theorem dX12_longest_8 : decode cX12_longest 8 = .ok (.getfield 78, 3) := by decide +kernel
theorem dX12_longest_11 : decode cX12_longest 11 = .ok (.if_icmp .ge 36, 3) := by decide +kernel
theorem dX12_longest_14 : decode cX12_longest 14 = .ok (.aload_n 0, 1) := by decide +kernel
theorem dX12_longest_15 : decode cX12_longest 15 = .ok (.iload_n 3, 1) := by decide +kernel
theorem dX12_longest_16 : decode cX12_longest 16 = .ok (.invokevirtual 183, 3) := by decide +kernel
theorem dX12_longest_19 : decode cX12_longest 19 = .ok (.ifCond .eq 7, 3) := by decide +kernel
theorem dX12_longest_22 : decode cX12_longest 22 = .ok (.iconst 0, 1) := by decide +kernel
theorem dX12_longest_23 : decode cX12_longest 23 = .ok (.goto 6, 3) := by decide +kernel
theorem dX12_longest_26 : decode cX12_longest 26 = .ok (.iload_n 2, 1) := by decide +kernel
theorem dX12_longest_27 : decode cX12_longest 27 = .ok (.iconst 1, 1) := by decide +kernel
theorem dX12_longest_28 : decode cX12_longest 28 = .ok (.iadd, 1) := by decide +kernel
theorem dX12_longest_29 : decode cX12_longest 29 = .ok (.istore_n 2, 1) := by decide +kernel
theorem dX12_longest_30 : decode cX12_longest 30 = .ok (.iload_n 2, 1) := by decide +kernel
theorem dX12_longest_31 : decode cX12_longest 31 = .ok (.iload_n 1, 1) := by decide +kernel
theorem dX12_longest_32 : decode cX12_longest 32 = .ok (.if_icmp .le 7, 3) := by decide +kernel
theorem dX12_longest_35 : decode cX12_longest 35 = .ok (.iload_n 2, 1) := by decide +kernel
theorem dX12_longest_36 : decode cX12_longest 36 = .ok (.goto 4, 3) := by decide +kernel
theorem dX12_longest_39 : decode cX12_longest 39 = .ok (.iload_n 1, 1) := by decide +kernel
theorem dX12_longest_40 : decode cX12_longest 40 = .ok (.istore_n 1, 1) := by decide +kernel
theorem dX12_longest_41 : decode cX12_longest 41 = .ok (.iinc 3 1, 3) := by decide +kernel
theorem dX12_longest_44 : decode cX12_longest 44 = .ok (.goto (-38), 3) := by decide +kernel
theorem dX12_longest_47 : decode cX12_longest 47 = .ok (.iload_n 1, 1) := by decide +kernel
theorem dX12_longest_48 : decode cX12_longest 48 = .ok (.ireturn, 1) := by decide +kernel
theorem dX12_biggest_0 : decode cX12_biggest 0 = .ok (.iconst (-1), 1) := by decide +kernel
theorem dX12_biggest_1 : decode cX12_biggest 1 = .ok (.istore_n 1, 1) := by decide +kernel
theorem dX12_biggest_2 : decode cX12_biggest 2 = .ok (.iconst 0, 1) := by decide +kernel
theorem dX12_biggest_3 : decode cX12_biggest 3 = .ok (.istore_n 2, 1) := by decide +kernel
theorem dX12_biggest_4 : decode cX12_biggest 4 = .ok (.iload_n 2, 1) := by decide +kernel
theorem dX12_biggest_5 : decode cX12_biggest 5 = .ok (.aload_n 0, 1) := by decide +kernel
theorem dX12_biggest_6 : decode cX12_biggest 6 = .ok (.getfield 78, 3) := by decide +kernel
theorem dX12_biggest_9 : decode cX12_biggest 9 = .ok (.if_icmp .ge 48, 3) := by decide +kernel
theorem dX12_biggest_12 : decode cX12_biggest 12 = .ok (.aload_n 0, 1) := by decide +kernel
theorem dX12_biggest_13 : decode cX12_biggest 13 = .ok (.iload_n 2, 1) := by decide +kernel
theorem dX12_biggest_14 : decode cX12_biggest 14 = .ok (.invokevirtual 183, 3) := by decide +kernel
theorem dX12_biggest_17 : decode cX12_biggest 17 = .ok (.ifCond .eq 32, 3) := by decide +kernel
theorem dX12_biggest_20 : decode cX12_biggest 20 = .ok (.iload_n 1, 1) := by decide +kernel
theorem dX12_biggest_21 : decode cX12_biggest 21 = .ok (.ifCond .lt 24, 3) := by decide +kernel
theorem dX12_biggest_24 : decode cX12_biggest 24 = .ok (.aload_n 0, 1) := by decide +kernel
theorem dX12_biggest_25 : decode cX12_biggest 25 = .ok (.getfield 25, 3) := by decide +kernel
theorem dX12_biggest_28 : decode cX12_biggest 28 = .ok (.bipush 60, 2) := by decide +kernel
theorem dX12_biggest_30 : decode cX12_biggest 30 = .ok (.iload_n 2, 1) := by decide +kernel
theorem dX12_biggest_31 : decode cX12_biggest 31 = .ok (.iadd, 1) := by decide +kernel
theorem dX12_biggest_32 : decode cX12_biggest 32 = .ok (.iaload, 1) := by decide +kernel
theorem dX12_biggest_33 : decode cX12_biggest 33 = .ok (.aload_n 0, 1) := by decide +kernel
theorem dX12_biggest_34 : decode cX12_biggest 34 = .ok (.getfield 25, 3) := by decide +kernel
theorem dX12_biggest_37 : decode cX12_biggest 37 = .ok (.bipush 60, 2) := by decide +kernel
theorem dX12_biggest_39 : decode cX12_biggest 39 = .ok (.iload_n 1, 1) := by decide +kernel
theorem dX12_biggest_40 : decode cX12_biggest 40 = .ok (.iadd, 1) := by decide +kernel
theorem dX12_biggest_41 : decode cX12_biggest 41 = .ok (.iaload, 1) := by decide +kernel
theorem dX12_biggest_42 : decode cX12_biggest 42 = .ok (.if_icmp .le 7, 3) := by decide +kernel
theorem dX12_biggest_45 : decode cX12_biggest 45 = .ok (.iload_n 2, 1) := by decide +kernel
theorem dX12_biggest_46 : decode cX12_biggest 46 = .ok (.goto 4, 3) := by decide +kernel
theorem dX12_biggest_49 : decode cX12_biggest 49 = .ok (.iload_n 1, 1) := by decide +kernel
theorem dX12_biggest_50 : decode cX12_biggest 50 = .ok (.istore_n 1, 1) := by decide +kernel
theorem dX12_biggest_51 : decode cX12_biggest 51 = .ok (.iinc 2 1, 3) := by decide +kernel
theorem dX12_biggest_54 : decode cX12_biggest 54 = .ok (.goto (-50), 3) := by decide +kernel
theorem dX12_biggest_57 : decode cX12_biggest 57 = .ok (.iload_n 1, 1) := by decide +kernel
theorem dX12_biggest_58 : decode cX12_biggest 58 = .ok (.ireturn, 1) := by decide +kernel
theorem dX12_allFolk_0 : decode cX12_allFolk 0 = .ok (.iconst 0, 1) := by decide +kernel
theorem dX12_allFolk_1 : decode cX12_allFolk 1 = .ok (.istore_n 1, 1) := by decide +kernel
theorem dX12_allFolk_2 : decode cX12_allFolk 2 = .ok (.iconst 0, 1) := by decide +kernel
theorem dX12_allFolk_3 : decode cX12_allFolk 3 = .ok (.istore_n 2, 1) := by decide +kernel
theorem dX12_allFolk_4 : decode cX12_allFolk 4 = .ok (.iload_n 2, 1) := by decide +kernel
theorem dX12_allFolk_5 : decode cX12_allFolk 5 = .ok (.aload_n 0, 1) := by decide +kernel
theorem dX12_allFolk_6 : decode cX12_allFolk 6 = .ok (.getfield 78, 3) := by decide +kernel
theorem dX12_allFolk_9 : decode cX12_allFolk 9 = .ok (.if_icmp .ge 33, 3) := by decide +kernel
theorem dX12_allFolk_12 : decode cX12_allFolk 12 = .ok (.iload_n 1, 1) := by decide +kernel
theorem dX12_allFolk_13 : decode cX12_allFolk 13 = .ok (.aload_n 0, 1) := by decide +kernel
theorem dX12_allFolk_14 : decode cX12_allFolk 14 = .ok (.iload_n 2, 1) := by decide +kernel
theorem dX12_allFolk_15 : decode cX12_allFolk 15 = .ok (.invokevirtual 183, 3) := by decide +kernel
theorem dX12_allFolk_18 : decode cX12_allFolk 18 = .ok (.ifCond .eq 15, 3) := by decide +kernel
theorem dX12_allFolk_21 : decode cX12_allFolk 21 = .ok (.aload_n 0, 1) := by decide +kernel
theorem dX12_allFolk_22 : decode cX12_allFolk 22 = .ok (.getfield 25, 3) := by decide +kernel
theorem dX12_allFolk_25 : decode cX12_allFolk 25 = .ok (.bipush 60, 2) := by decide +kernel
theorem dX12_allFolk_27 : decode cX12_allFolk 27 = .ok (.iload_n 2, 1) := by decide +kernel
theorem dX12_allFolk_28 : decode cX12_allFolk 28 = .ok (.iadd, 1) := by decide +kernel
theorem dX12_allFolk_29 : decode cX12_allFolk 29 = .ok (.iaload, 1) := by decide +kernel
theorem dX12_allFolk_30 : decode cX12_allFolk 30 = .ok (.goto 4, 3) := by decide +kernel
theorem dX12_allFolk_33 : decode cX12_allFolk 33 = .ok (.iconst 0, 1) := by decide +kernel
theorem dX12_allFolk_34 : decode cX12_allFolk 34 = .ok (.iadd, 1) := by decide +kernel
theorem dX12_allFolk_35 : decode cX12_allFolk 35 = .ok (.istore_n 1, 1) := by decide +kernel
theorem dX12_allFolk_36 : decode cX12_allFolk 36 = .ok (.iinc 2 1, 3) := by decide +kernel
theorem dX12_allFolk_39 : decode cX12_allFolk 39 = .ok (.goto (-35), 3) := by decide +kernel
theorem dX12_allFolk_42 : decode cX12_allFolk 42 = .ok (.iload_n 1, 1) := by decide +kernel
theorem dX12_allFolk_43 : decode cX12_allFolk 43 = .ok (.ireturn, 1) := by decide +kernel
theorem dX12_told_0 : decode cX12_told 0 = .ok (.iload_n 1, 1) := by decide +kernel
theorem dX12_told_1 : decode cX12_told 1 = .ok (.tableswitch 165 0 15 #[79, 84, 89, 94, 102, 107, 115, 120, 125, 130, 135, 140, 145, 150, 155, 160], 79) := by decide +kernel
theorem dX12_told_80 : decode cX12_told 80 = .ok (.aload_n 0, 1) := by decide +kernel
theorem dX12_told_81 : decode cX12_told 81 = .ok (.getfield 78, 3) := by decide +kernel
theorem dX12_told_84 : decode cX12_told 84 = .ok (.ireturn, 1) := by decide +kernel
theorem dX12_told_85 : decode cX12_told 85 = .ok (.aload_n 0, 1) := by decide +kernel
theorem dX12_told_86 : decode cX12_told 86 = .ok (.getfield 85, 3) := by decide +kernel
theorem dX12_told_89 : decode cX12_told 89 = .ok (.ireturn, 1) := by decide +kernel
theorem dX12_told_90 : decode cX12_told 90 = .ok (.aload_n 0, 1) := by decide +kernel
theorem dX12_told_91 : decode cX12_told 91 = .ok (.getfield 91, 3) := by decide +kernel
theorem dX12_told_94 : decode cX12_told 94 = .ok (.ireturn, 1) := by decide +kernel
theorem dX12_told_95 : decode cX12_told 95 = .ok (.aload_n 0, 1) := by decide +kernel
theorem dX12_told_96 : decode cX12_told 96 = .ok (.getfield 25, 3) := by decide +kernel
theorem dX12_told_99 : decode cX12_told 99 = .ok (.bipush 104, 2) := by decide +kernel
theorem dX12_told_101 : decode cX12_told 101 = .ok (.iaload, 1) := by decide +kernel
theorem dX12_told_102 : decode cX12_told 102 = .ok (.ireturn, 1) := by decide +kernel
theorem dX12_told_103 : decode cX12_told 103 = .ok (.aload_n 0, 1) := by decide +kernel
theorem dX12_told_104 : decode cX12_told 104 = .ok (.invokevirtual 187, 3) := by decide +kernel
theorem dX12_told_107 : decode cX12_told 107 = .ok (.ireturn, 1) := by decide +kernel
theorem dX12_told_108 : decode cX12_told 108 = .ok (.aload_n 0, 1) := by decide +kernel
theorem dX12_told_109 : decode cX12_told 109 = .ok (.getfield 25, 3) := by decide +kernel
theorem dX12_told_112 : decode cX12_told 112 = .ok (.bipush 105, 2) := by decide +kernel
theorem dX12_told_114 : decode cX12_told 114 = .ok (.iaload, 1) := by decide +kernel
theorem dX12_told_115 : decode cX12_told 115 = .ok (.ireturn, 1) := by decide +kernel
theorem dX12_told_116 : decode cX12_told 116 = .ok (.aload_n 0, 1) := by decide +kernel
theorem dX12_told_117 : decode cX12_told 117 = .ok (.invokevirtual 198, 3) := by decide +kernel
theorem dX12_told_120 : decode cX12_told 120 = .ok (.ireturn, 1) := by decide +kernel
theorem dX12_told_121 : decode cX12_told 121 = .ok (.aload_n 0, 1) := by decide +kernel
theorem dX12_told_122 : decode cX12_told 122 = .ok (.invokevirtual 204, 3) := by decide +kernel
theorem dX12_told_125 : decode cX12_told 125 = .ok (.ireturn, 1) := by decide +kernel
theorem dX12_told_126 : decode cX12_told 126 = .ok (.aload_n 0, 1) := by decide +kernel
theorem dX12_told_127 : decode cX12_told 127 = .ok (.invokevirtual 207, 3) := by decide +kernel
theorem dX12_told_130 : decode cX12_told 130 = .ok (.ireturn, 1) := by decide +kernel
theorem dX12_told_131 : decode cX12_told 131 = .ok (.aload_n 0, 1) := by decide +kernel
theorem dX12_told_132 : decode cX12_told 132 = .ok (.invokevirtual 210, 3) := by decide +kernel
theorem dX12_told_135 : decode cX12_told 135 = .ok (.ireturn, 1) := by decide +kernel
theorem dX12_told_136 : decode cX12_told 136 = .ok (.aload_n 0, 1) := by decide +kernel
theorem dX12_told_137 : decode cX12_told 137 = .ok (.invokevirtual 213, 3) := by decide +kernel
theorem dX12_told_140 : decode cX12_told 140 = .ok (.ireturn, 1) := by decide +kernel
theorem dX12_told_141 : decode cX12_told 141 = .ok (.aload_n 0, 1) := by decide +kernel
theorem dX12_told_142 : decode cX12_told 142 = .ok (.invokevirtual 216, 3) := by decide +kernel
theorem dX12_told_145 : decode cX12_told 145 = .ok (.ireturn, 1) := by decide +kernel
theorem dX12_told_146 : decode cX12_told 146 = .ok (.aload_n 0, 1) := by decide +kernel
theorem dX12_told_147 : decode cX12_told 147 = .ok (.invokevirtual 219, 3) := by decide +kernel
theorem dX12_told_150 : decode cX12_told 150 = .ok (.ireturn, 1) := by decide +kernel
theorem dX12_told_151 : decode cX12_told 151 = .ok (.aload_n 0, 1) := by decide +kernel
theorem dX12_told_152 : decode cX12_told 152 = .ok (.getfield 154, 3) := by decide +kernel
theorem dX12_told_155 : decode cX12_told 155 = .ok (.ireturn, 1) := by decide +kernel
theorem dX12_told_156 : decode cX12_told 156 = .ok (.aload_n 0, 1) := by decide +kernel
theorem dX12_told_157 : decode cX12_told 157 = .ok (.getfield 157, 3) := by decide +kernel
theorem dX12_told_160 : decode cX12_told 160 = .ok (.ireturn, 1) := by decide +kernel
theorem dX12_told_161 : decode cX12_told 161 = .ok (.aload_n 0, 1) := by decide +kernel
theorem dX12_told_162 : decode cX12_told 162 = .ok (.getfield 160, 3) := by decide +kernel
theorem dX12_told_165 : decode cX12_told 165 = .ok (.ireturn, 1) := by decide +kernel
theorem dX12_told_166 : decode cX12_told 166 = .ok (.ldc 90, 2) := by decide +kernel
theorem dX12_told_168 : decode cX12_told 168 = .ok (.ireturn, 1) := by decide +kernel
theorem dX12_cell_0 : decode cX12_cell 0 = .ok (.aload_n 0, 1) := by decide +kernel
theorem dX12_cell_1 : decode cX12_cell 1 = .ok (.iload_n 1, 1) := by decide +kernel
theorem dX12_cell_2 : decode cX12_cell 2 = .ok (.invokevirtual 222, 3) := by decide +kernel
theorem dX12_cell_5 : decode cX12_cell 5 = .ok (.ifCond .ne 6, 3) := by decide +kernel
theorem dX12_cell_8 : decode cX12_cell 8 = .ok (.ldc 225, 2) := by decide +kernel
theorem dX12_cell_10 : decode cX12_cell 10 = .ok (.ireturn, 1) := by decide +kernel
theorem dX12_cell_11 : decode cX12_cell 11 = .ok (.iload_n 2, 1) := by decide +kernel
theorem dX12_cell_12 : decode cX12_cell 12 = .ok (.tableswitch 92 0 4 #[36, 43, 50, 60, 70], 36) := by decide +kernel
theorem dX12_cell_48 : decode cX12_cell 48 = .ok (.aload_n 0, 1) := by decide +kernel
theorem dX12_cell_49 : decode cX12_cell 49 = .ok (.getfield 7, 3) := by decide +kernel
theorem dX12_cell_52 : decode cX12_cell 52 = .ok (.iload_n 1, 1) := by decide +kernel
theorem dX12_cell_53 : decode cX12_cell 53 = .ok (.iaload, 1) := by decide +kernel
theorem dX12_cell_54 : decode cX12_cell 54 = .ok (.ireturn, 1) := by decide +kernel
theorem dX12_cell_55 : decode cX12_cell 55 = .ok (.aload_n 0, 1) := by decide +kernel
theorem dX12_cell_56 : decode cX12_cell 56 = .ok (.getfield 25, 3) := by decide +kernel
theorem dX12_cell_59 : decode cX12_cell 59 = .ok (.iload_n 1, 1) := by decide +kernel
theorem dX12_cell_60 : decode cX12_cell 60 = .ok (.iaload, 1) := by decide +kernel
theorem dX12_cell_61 : decode cX12_cell 61 = .ok (.ireturn, 1) := by decide +kernel
theorem dX12_cell_62 : decode cX12_cell 62 = .ok (.aload_n 0, 1) := by decide +kernel
theorem dX12_cell_63 : decode cX12_cell 63 = .ok (.getfield 25, 3) := by decide +kernel
theorem dX12_cell_66 : decode cX12_cell 66 = .ok (.bipush 20, 2) := by decide +kernel
theorem dX12_cell_68 : decode cX12_cell 68 = .ok (.iload_n 1, 1) := by decide +kernel
theorem dX12_cell_69 : decode cX12_cell 69 = .ok (.iadd, 1) := by decide +kernel
theorem dX12_cell_70 : decode cX12_cell 70 = .ok (.iaload, 1) := by decide +kernel
theorem dX12_cell_71 : decode cX12_cell 71 = .ok (.ireturn, 1) := by decide +kernel
theorem dX12_cell_72 : decode cX12_cell 72 = .ok (.aload_n 0, 1) := by decide +kernel
theorem dX12_cell_73 : decode cX12_cell 73 = .ok (.getfield 25, 3) := by decide +kernel
theorem dX12_cell_76 : decode cX12_cell 76 = .ok (.bipush 40, 2) := by decide +kernel
theorem dX12_cell_78 : decode cX12_cell 78 = .ok (.iload_n 1, 1) := by decide +kernel
theorem dX12_cell_79 : decode cX12_cell 79 = .ok (.iadd, 1) := by decide +kernel
theorem dX12_cell_80 : decode cX12_cell 80 = .ok (.iaload, 1) := by decide +kernel
theorem dX12_cell_81 : decode cX12_cell 81 = .ok (.ireturn, 1) := by decide +kernel
theorem dX12_cell_82 : decode cX12_cell 82 = .ok (.aload_n 0, 1) := by decide +kernel
theorem dX12_cell_83 : decode cX12_cell 83 = .ok (.iload_n 1, 1) := by decide +kernel
theorem dX12_cell_84 : decode cX12_cell 84 = .ok (.invokevirtual 183, 3) := by decide +kernel
theorem dX12_cell_87 : decode cX12_cell 87 = .ok (.ifCond .eq 15, 3) := by decide +kernel
theorem dX12_cell_90 : decode cX12_cell 90 = .ok (.aload_n 0, 1) := by decide +kernel
theorem dX12_cell_91 : decode cX12_cell 91 = .ok (.getfield 25, 3) := by decide +kernel
theorem dX12_cell_94 : decode cX12_cell 94 = .ok (.bipush 60, 2) := by decide +kernel
theorem dX12_cell_96 : decode cX12_cell 96 = .ok (.iload_n 1, 1) := by decide +kernel
theorem dX12_cell_97 : decode cX12_cell 97 = .ok (.iadd, 1) := by decide +kernel
theorem dX12_cell_98 : decode cX12_cell 98 = .ok (.iaload, 1) := by decide +kernel
theorem dX12_cell_99 : decode cX12_cell 99 = .ok (.goto 4, 3) := by decide +kernel
theorem dX12_cell_102 : decode cX12_cell 102 = .ok (.iconst (-1), 1) := by decide +kernel
theorem dX12_cell_103 : decode cX12_cell 103 = .ok (.ireturn, 1) := by decide +kernel
theorem dX12_cell_104 : decode cX12_cell 104 = .ok (.ldc 90, 2) := by decide +kernel
theorem dX12_cell_106 : decode cX12_cell 106 = .ok (.ireturn, 1) := by decide +kernel
theorem dX12_mayorOf_0 : decode cX12_mayorOf 0 = .ok (.iconst 0, 1) := by decide +kernel
theorem dX12_mayorOf_1 : decode cX12_mayorOf 1 = .ok (.istore_n 2, 1) := by decide +kernel
theorem dX12_mayorOf_2 : decode cX12_mayorOf 2 = .ok (.iload_n 2, 1) := by decide +kernel
theorem dX12_mayorOf_3 : decode cX12_mayorOf 3 = .ok (.aload_n 0, 1) := by decide +kernel
theorem dX12_mayorOf_4 : decode cX12_mayorOf 4 = .ok (.getfield 78, 3) := by decide +kernel
theorem dX12_mayorOf_7 : decode cX12_mayorOf 7 = .ok (.if_icmp .ge 24, 3) := by decide +kernel
theorem dX12_mayorOf_10 : decode cX12_mayorOf 10 = .ok (.aload_n 0, 1) := by decide +kernel
theorem dX12_mayorOf_11 : decode cX12_mayorOf 11 = .ok (.getfield 25, 3) := by decide +kernel
theorem dX12_mayorOf_14 : decode cX12_mayorOf 14 = .ok (.bipush 40, 2) := by decide +kernel
theorem dX12_mayorOf_16 : decode cX12_mayorOf 16 = .ok (.iload_n 2, 1) := by decide +kernel
theorem dX12_mayorOf_17 : decode cX12_mayorOf 17 = .ok (.iadd, 1) := by decide +kernel
theorem dX12_mayorOf_18 : decode cX12_mayorOf 18 = .ok (.iaload, 1) := by decide +kernel
theorem dX12_mayorOf_19 : decode cX12_mayorOf 19 = .ok (.iload_n 1, 1) := by decide +kernel
theorem dX12_mayorOf_20 : decode cX12_mayorOf 20 = .ok (.if_icmp .ne 5, 3) := by decide +kernel
theorem dX12_mayorOf_23 : decode cX12_mayorOf 23 = .ok (.iload_n 2, 1) := by decide +kernel
theorem dX12_mayorOf_24 : decode cX12_mayorOf 24 = .ok (.ireturn, 1) := by decide +kernel
theorem dX12_mayorOf_25 : decode cX12_mayorOf 25 = .ok (.iinc 2 1, 3) := by decide +kernel
theorem dX12_mayorOf_28 : decode cX12_mayorOf 28 = .ok (.goto (-26), 3) := by decide +kernel
theorem dX12_mayorOf_31 : decode cX12_mayorOf 31 = .ok (.iconst (-1), 1) := by decide +kernel
theorem dX12_mayorOf_32 : decode cX12_mayorOf 32 = .ok (.ireturn, 1) := by decide +kernel
theorem dX12_cart_0 : decode cX12_cart 0 = .ok (.aload_n 0, 1) := by decide +kernel
theorem dX12_cart_1 : decode cX12_cart 1 = .ok (.iload_n 1, 1) := by decide +kernel
theorem dX12_cart_2 : decode cX12_cart 2 = .ok (.invokevirtual 226, 3) := by decide +kernel
theorem dX12_cart_5 : decode cX12_cart 5 = .ok (.ifCond .ne 6, 3) := by decide +kernel
theorem dX12_cart_8 : decode cX12_cart 8 = .ok (.ldc 225, 2) := by decide +kernel
theorem dX12_cart_10 : decode cX12_cart 10 = .ok (.ireturn, 1) := by decide +kernel
theorem dX12_cart_11 : decode cX12_cart 11 = .ok (.iload_n 2, 1) := by decide +kernel
theorem dX12_cart_12 : decode cX12_cart 12 = .ok (.tableswitch 90 0 5 #[40, 47, 57, 64, 74, 84], 40) := by decide +kernel
theorem dX12_cart_52 : decode cX12_cart 52 = .ok (.aload_n 0, 1) := by decide +kernel
theorem dX12_cart_53 : decode cX12_cart 53 = .ok (.getfield 16, 3) := by decide +kernel
theorem dX12_cart_56 : decode cX12_cart 56 = .ok (.iload_n 1, 1) := by decide +kernel
theorem dX12_cart_57 : decode cX12_cart 57 = .ok (.iaload, 1) := by decide +kernel
theorem dX12_cart_58 : decode cX12_cart 58 = .ok (.ireturn, 1) := by decide +kernel
theorem dX12_cart_59 : decode cX12_cart 59 = .ok (.aload_n 0, 1) := by decide +kernel
theorem dX12_cart_60 : decode cX12_cart 60 = .ok (.getfield 25, 3) := by decide +kernel
theorem dX12_cart_63 : decode cX12_cart 63 = .ok (.bipush 80, 2) := by decide +kernel
theorem dX12_cart_65 : decode cX12_cart 65 = .ok (.iload_n 1, 1) := by decide +kernel
theorem dX12_cart_66 : decode cX12_cart 66 = .ok (.iadd, 1) := by decide +kernel
theorem dX12_cart_67 : decode cX12_cart 67 = .ok (.iaload, 1) := by decide +kernel
theorem dX12_cart_68 : decode cX12_cart 68 = .ok (.ireturn, 1) := by decide +kernel
theorem dX12_cart_69 : decode cX12_cart 69 = .ok (.aload_n 0, 1) := by decide +kernel
theorem dX12_cart_70 : decode cX12_cart 70 = .ok (.getfield 22, 3) := by decide +kernel
theorem dX12_cart_73 : decode cX12_cart 73 = .ok (.iload_n 1, 1) := by decide +kernel
theorem dX12_cart_74 : decode cX12_cart 74 = .ok (.iaload, 1) := by decide +kernel
theorem dX12_cart_75 : decode cX12_cart 75 = .ok (.ireturn, 1) := by decide +kernel
theorem dX12_cart_76 : decode cX12_cart 76 = .ok (.aload_n 0, 1) := by decide +kernel
theorem dX12_cart_77 : decode cX12_cart 77 = .ok (.getfield 25, 3) := by decide +kernel
theorem dX12_cart_80 : decode cX12_cart 80 = .ok (.bipush 88, 2) := by decide +kernel
theorem dX12_cart_82 : decode cX12_cart 82 = .ok (.iload_n 1, 1) := by decide +kernel
theorem dX12_cart_83 : decode cX12_cart 83 = .ok (.iadd, 1) := by decide +kernel
theorem dX12_cart_84 : decode cX12_cart 84 = .ok (.iaload, 1) := by decide +kernel
theorem dX12_cart_85 : decode cX12_cart 85 = .ok (.ireturn, 1) := by decide +kernel
theorem dX12_cart_86 : decode cX12_cart 86 = .ok (.aload_n 0, 1) := by decide +kernel
theorem dX12_cart_87 : decode cX12_cart 87 = .ok (.getfield 25, 3) := by decide +kernel
theorem dX12_cart_90 : decode cX12_cart 90 = .ok (.bipush 96, 2) := by decide +kernel
theorem dX12_cart_92 : decode cX12_cart 92 = .ok (.iload_n 1, 1) := by decide +kernel
theorem dX12_cart_93 : decode cX12_cart 93 = .ok (.iadd, 1) := by decide +kernel
theorem dX12_cart_94 : decode cX12_cart 94 = .ok (.iaload, 1) := by decide +kernel
theorem dX12_cart_95 : decode cX12_cart 95 = .ok (.ireturn, 1) := by decide +kernel
theorem dX12_cart_96 : decode cX12_cart 96 = .ok (.aload_n 0, 1) := by decide +kernel
theorem dX12_cart_97 : decode cX12_cart 97 = .ok (.iload_n 1, 1) := by decide +kernel
theorem dX12_cart_98 : decode cX12_cart 98 = .ok (.invokevirtual 229, 3) := by decide +kernel
theorem dX12_cart_101 : decode cX12_cart 101 = .ok (.ireturn, 1) := by decide +kernel
theorem dX12_cart_102 : decode cX12_cart 102 = .ok (.ldc 90, 2) := by decide +kernel
theorem dX12_cart_104 : decode cX12_cart 104 = .ok (.ireturn, 1) := by decide +kernel
theorem dX12_sink_0 : decode cX12_sink 0 = .ok (.aload_n 0, 1) := by decide +kernel
theorem dX12_sink_1 : decode cX12_sink 1 = .ok (.iload_n 1, 1) := by decide +kernel
theorem dX12_sink_2 : decode cX12_sink 2 = .ok (.invokevirtual 226, 3) := by decide +kernel
theorem dX12_sink_5 : decode cX12_sink 5 = .ok (.ifCond .eq 11, 3) := by decide +kernel
theorem dX12_sink_8 : decode cX12_sink 8 = .ok (.aload_n 0, 1) := by decide +kernel
theorem dX12_sink_9 : decode cX12_sink 9 = .ok (.iload_n 2, 1) := by decide +kernel
theorem dX12_sink_10 : decode cX12_sink 10 = .ok (.invokevirtual 222, 3) := by decide +kernel
theorem dX12_sink_13 : decode cX12_sink 13 = .ok (.ifCond .ne 6, 3) := by decide +kernel
theorem dX12_sink_16 : decode cX12_sink 16 = .ok (.ldc 225, 2) := by decide +kernel
theorem dX12_sink_18 : decode cX12_sink 18 = .ok (.ireturn, 1) := by decide +kernel
theorem dX12_sink_19 : decode cX12_sink 19 = .ok (.aload_n 0, 1) := by decide +kernel
theorem dX12_sink_20 : decode cX12_sink 20 = .ok (.iload_n 1, 1) := by decide +kernel
theorem dX12_sink_21 : decode cX12_sink 21 = .ok (.iload_n 2, 1) := by decide +kernel
theorem dX12_sink_22 : decode cX12_sink 22 = .ok (.aload_n 0, 1) := by decide +kernel
theorem dX12_sink_23 : decode cX12_sink 23 = .ok (.invokevirtual 187, 3) := by decide +kernel
theorem dX12_sink_26 : decode cX12_sink 26 = .ok (.invokevirtual 173, 3) := by decide +kernel
theorem dX12_sink_29 : decode cX12_sink 29 = .ok (.aload_n 0, 1) := by decide +kernel
theorem dX12_sink_30 : decode cX12_sink 30 = .ok (.iload_n 1, 1) := by decide +kernel
theorem dX12_sink_31 : decode cX12_sink 31 = .ok (.aload_n 0, 1) := by decide +kernel
theorem dX12_sink_32 : decode cX12_sink 32 = .ok (.getfield 25, 3) := by decide +kernel
theorem dX12_sink_35 : decode cX12_sink 35 = .ok (.bipush 80, 2) := by decide +kernel
theorem dX12_sink_37 : decode cX12_sink 37 = .ok (.iload_n 1, 1) := by decide +kernel
theorem dX12_sink_38 : decode cX12_sink 38 = .ok (.iadd, 1) := by decide +kernel
theorem dX12_sink_39 : decode cX12_sink 39 = .ok (.iaload, 1) := by decide +kernel
theorem dX12_sink_40 : decode cX12_sink 40 = .ok (.invokevirtual 177, 3) := by decide +kernel
theorem dX12_sink_43 : decode cX12_sink 43 = .ok (.iadd, 1) := by decide +kernel
theorem dX12_sink_44 : decode cX12_sink 44 = .ok (.ireturn, 1) := by decide +kernel
theorem dX12_remember_0 : decode cX12_remember 0 = .ok (.aload_n 0, 1) := by decide +kernel
theorem dX12_remember_1 : decode cX12_remember 1 = .ok (.getfield 160, 3) := by decide +kernel
theorem dX12_remember_4 : decode cX12_remember 4 = .ok (.bipush 16, 2) := by decide +kernel
theorem dX12_remember_6 : decode cX12_remember 6 = .ok (.if_icmp .ne 44, 3) := by decide +kernel
theorem dX12_remember_9 : decode cX12_remember 9 = .ok (.bipush 106, 2) := by decide +kernel
theorem dX12_remember_11 : decode cX12_remember 11 = .ok (.istore_n 1, 1) := by decide +kernel
theorem dX12_remember_12 : decode cX12_remember 12 = .ok (.iload_n 1, 1) := by decide +kernel
theorem dX12_remember_13 : decode cX12_remember 13 = .ok (.sipush 1696, 3) := by decide +kernel
theorem dX12_remember_16 : decode cX12_remember 16 = .ok (.if_icmp .ge 24, 3) := by decide +kernel
theorem dX12_remember_19 : decode cX12_remember 19 = .ok (.aload_n 0, 1) := by decide +kernel
theorem dX12_remember_20 : decode cX12_remember 20 = .ok (.getfield 50, 3) := by decide +kernel
theorem dX12_remember_23 : decode cX12_remember 23 = .ok (.iload_n 1, 1) := by decide +kernel
theorem dX12_remember_24 : decode cX12_remember 24 = .ok (.bipush 106, 2) := by decide +kernel
theorem dX12_remember_26 : decode cX12_remember 26 = .ok (.isub, 1) := by decide +kernel
theorem dX12_remember_27 : decode cX12_remember 27 = .ok (.aload_n 0, 1) := by decide +kernel
theorem dX12_remember_28 : decode cX12_remember 28 = .ok (.getfield 50, 3) := by decide +kernel
theorem dX12_remember_31 : decode cX12_remember 31 = .ok (.iload_n 1, 1) := by decide +kernel
theorem dX12_remember_32 : decode cX12_remember 32 = .ok (.iaload, 1) := by decide +kernel
theorem dX12_remember_33 : decode cX12_remember 33 = .ok (.iastore, 1) := by decide +kernel
theorem dX12_remember_34 : decode cX12_remember 34 = .ok (.iinc 1 1, 3) := by decide +kernel
theorem dX12_remember_37 : decode cX12_remember 37 = .ok (.goto (-25), 3) := by decide +kernel
theorem dX12_remember_40 : decode cX12_remember 40 = .ok (.aload_n 0, 1) := by decide +kernel
theorem dX12_remember_41 : decode cX12_remember 41 = .ok (.dup, 1) := by decide +kernel
theorem dX12_remember_42 : decode cX12_remember 42 = .ok (.getfield 160, 3) := by decide +kernel
theorem dX12_remember_45 : decode cX12_remember 45 = .ok (.iconst 1, 1) := by decide +kernel
theorem dX12_remember_46 : decode cX12_remember 46 = .ok (.isub, 1) := by decide +kernel
theorem dX12_remember_47 : decode cX12_remember 47 = .ok (.putfield 160, 3) := by decide +kernel
theorem dX12_remember_50 : decode cX12_remember 50 = .ok (.iconst 0, 1) := by decide +kernel
theorem dX12_remember_51 : decode cX12_remember 51 = .ok (.istore_n 1, 1) := by decide +kernel
theorem dX12_remember_52 : decode cX12_remember 52 = .ok (.iload_n 1, 1) := by decide +kernel
theorem dX12_remember_53 : decode cX12_remember 53 = .ok (.bipush 106, 2) := by decide +kernel
theorem dX12_remember_55 : decode cX12_remember 55 = .ok (.if_icmp .ge 29, 3) := by decide +kernel
theorem dX12_remember_58 : decode cX12_remember 58 = .ok (.aload_n 0, 1) := by decide +kernel
theorem dX12_remember_59 : decode cX12_remember 59 = .ok (.getfield 50, 3) := by decide +kernel
theorem dX12_remember_62 : decode cX12_remember 62 = .ok (.bipush 106, 2) := by decide +kernel
theorem dX12_remember_64 : decode cX12_remember 64 = .ok (.aload_n 0, 1) := by decide +kernel
theorem dX12_remember_65 : decode cX12_remember 65 = .ok (.getfield 160, 3) := by decide +kernel
theorem dX12_remember_68 : decode cX12_remember 68 = .ok (.imul, 1) := by decide +kernel
theorem dX12_remember_69 : decode cX12_remember 69 = .ok (.iload_n 1, 1) := by decide +kernel
theorem dX12_remember_70 : decode cX12_remember 70 = .ok (.iadd, 1) := by decide +kernel
theorem dX12_remember_71 : decode cX12_remember 71 = .ok (.aload_n 0, 1) := by decide +kernel
theorem dX12_remember_72 : decode cX12_remember 72 = .ok (.getfield 25, 3) := by decide +kernel
theorem dX12_remember_75 : decode cX12_remember 75 = .ok (.iload_n 1, 1) := by decide +kernel
theorem dX12_remember_76 : decode cX12_remember 76 = .ok (.iaload, 1) := by decide +kernel
theorem dX12_remember_77 : decode cX12_remember 77 = .ok (.iastore, 1) := by decide +kernel
theorem dX12_remember_78 : decode cX12_remember 78 = .ok (.iinc 1 1, 3) := by decide +kernel
theorem dX12_remember_81 : decode cX12_remember 81 = .ok (.goto (-29), 3) := by decide +kernel
theorem dX12_remember_84 : decode cX12_remember 84 = .ok (.aload_n 0, 1) := by decide +kernel
theorem dX12_remember_85 : decode cX12_remember 85 = .ok (.dup, 1) := by decide +kernel
theorem dX12_remember_86 : decode cX12_remember 86 = .ok (.getfield 160, 3) := by decide +kernel
theorem dX12_remember_89 : decode cX12_remember 89 = .ok (.iconst 1, 1) := by decide +kernel
theorem dX12_remember_90 : decode cX12_remember 90 = .ok (.iadd, 1) := by decide +kernel
theorem dX12_remember_91 : decode cX12_remember 91 = .ok (.putfield 160, 3) := by decide +kernel
theorem dX12_remember_94 : decode cX12_remember 94 = .ok (.return_, 1) := by decide +kernel
theorem dX12_driveNow_0 : decode cX12_driveNow 0 = .ok (.aload_n 0, 1) := by decide +kernel
theorem dX12_driveNow_1 : decode cX12_driveNow 1 = .ok (.iload_n 1, 1) := by decide +kernel
theorem dX12_driveNow_2 : decode cX12_driveNow 2 = .ok (.aload_n 0, 1) := by decide +kernel
theorem dX12_driveNow_3 : decode cX12_driveNow 3 = .ok (.invokevirtual 187, 3) := by decide +kernel
theorem dX12_driveNow_6 : decode cX12_driveNow 6 = .ok (.invokevirtual 190, 3) := by decide +kernel
theorem dX12_driveNow_9 : decode cX12_driveNow 9 = .ok (.istore_n 2, 1) := by decide +kernel
theorem dX12_driveNow_10 : decode cX12_driveNow 10 = .ok (.iload_n 2, 1) := by decide +kernel
theorem dX12_driveNow_11 : decode cX12_driveNow 11 = .ok (.ifCond .ge 5, 3) := by decide +kernel
theorem dX12_driveNow_14 : decode cX12_driveNow 14 = .ok (.iconst (-1), 1) := by decide +kernel
theorem dX12_driveNow_15 : decode cX12_driveNow 15 = .ok (.ireturn, 1) := by decide +kernel
theorem dX12_driveNow_16 : decode cX12_driveNow 16 = .ok (.aload_n 0, 1) := by decide +kernel
theorem dX12_driveNow_17 : decode cX12_driveNow 17 = .ok (.iload_n 2, 1) := by decide +kernel
theorem dX12_driveNow_18 : decode cX12_driveNow 18 = .ok (.invokevirtual 183, 3) := by decide +kernel
theorem dX12_driveNow_21 : decode cX12_driveNow 21 = .ok (.ifCond .ne 28, 3) := by decide +kernel
theorem dX12_driveNow_24 : decode cX12_driveNow 24 = .ok (.aload_n 0, 1) := by decide +kernel
theorem dX12_driveNow_25 : decode cX12_driveNow 25 = .ok (.getfield 25, 3) := by decide +kernel
theorem dX12_driveNow_28 : decode cX12_driveNow 28 = .ok (.bipush 20, 2) := by decide +kernel
theorem dX12_driveNow_30 : decode cX12_driveNow 30 = .ok (.iload_n 2, 1) := by decide +kernel
theorem dX12_driveNow_31 : decode cX12_driveNow 31 = .ok (.iadd, 1) := by decide +kernel
theorem dX12_driveNow_32 : decode cX12_driveNow 32 = .ok (.aload_n 0, 1) := by decide +kernel
theorem dX12_driveNow_33 : decode cX12_driveNow 33 = .ok (.getfield 22, 3) := by decide +kernel
theorem dX12_driveNow_36 : decode cX12_driveNow 36 = .ok (.iload_n 1, 1) := by decide +kernel
theorem dX12_driveNow_37 : decode cX12_driveNow 37 = .ok (.iaload, 1) := by decide +kernel
theorem dX12_driveNow_38 : decode cX12_driveNow 38 = .ok (.iastore, 1) := by decide +kernel
theorem dX12_driveNow_39 : decode cX12_driveNow 39 = .ok (.aload_n 0, 1) := by decide +kernel
theorem dX12_driveNow_40 : decode cX12_driveNow 40 = .ok (.getfield 25, 3) := by decide +kernel
theorem dX12_driveNow_43 : decode cX12_driveNow 43 = .ok (.bipush 60, 2) := by decide +kernel
theorem dX12_driveNow_45 : decode cX12_driveNow 45 = .ok (.iload_n 2, 1) := by decide +kernel
theorem dX12_driveNow_46 : decode cX12_driveNow 46 = .ok (.iadd, 1) := by decide +kernel
theorem dX12_driveNow_47 : decode cX12_driveNow 47 = .ok (.iconst 0, 1) := by decide +kernel
theorem dX12_driveNow_48 : decode cX12_driveNow 48 = .ok (.iastore, 1) := by decide +kernel
theorem dX12_driveNow_49 : decode cX12_driveNow 49 = .ok (.aload_n 0, 1) := by decide +kernel
theorem dX12_driveNow_50 : decode cX12_driveNow 50 = .ok (.getfield 25, 3) := by decide +kernel
theorem dX12_driveNow_53 : decode cX12_driveNow 53 = .ok (.bipush 60, 2) := by decide +kernel
theorem dX12_driveNow_55 : decode cX12_driveNow 55 = .ok (.iload_n 2, 1) := by decide +kernel
theorem dX12_driveNow_56 : decode cX12_driveNow 56 = .ok (.iadd, 1) := by decide +kernel
theorem dX12_driveNow_57 : decode cX12_driveNow 57 = .ok (.dup2, 1) := by decide +kernel
theorem dX12_driveNow_58 : decode cX12_driveNow 58 = .ok (.iaload, 1) := by decide +kernel
theorem dX12_driveNow_59 : decode cX12_driveNow 59 = .ok (.aload_n 0, 1) := by decide +kernel
theorem dX12_driveNow_60 : decode cX12_driveNow 60 = .ok (.getfield 25, 3) := by decide +kernel
theorem dX12_driveNow_63 : decode cX12_driveNow 63 = .ok (.bipush 60, 2) := by decide +kernel
theorem dX12_driveNow_65 : decode cX12_driveNow 65 = .ok (.iload_n 2, 1) := by decide +kernel
theorem dX12_driveNow_66 : decode cX12_driveNow 66 = .ok (.iadd, 1) := by decide +kernel
theorem dX12_driveNow_67 : decode cX12_driveNow 67 = .ok (.iaload, 1) := by decide +kernel
theorem dX12_driveNow_68 : decode cX12_driveNow 68 = .ok (.sipush 9999, 3) := by decide +kernel
theorem dX12_driveNow_71 : decode cX12_driveNow 71 = .ok (.if_icmp .ge 7, 3) := by decide +kernel
theorem dX12_driveNow_74 : decode cX12_driveNow 74 = .ok (.iconst 1, 1) := by decide +kernel
theorem dX12_driveNow_75 : decode cX12_driveNow 75 = .ok (.goto 4, 3) := by decide +kernel
theorem dX12_driveNow_78 : decode cX12_driveNow 78 = .ok (.iconst 0, 1) := by decide +kernel
theorem dX12_driveNow_79 : decode cX12_driveNow 79 = .ok (.iadd, 1) := by decide +kernel
theorem dX12_driveNow_80 : decode cX12_driveNow 80 = .ok (.iastore, 1) := by decide +kernel
theorem dX12_driveNow_81 : decode cX12_driveNow 81 = .ok (.aload_n 0, 1) := by decide +kernel
theorem dX12_driveNow_82 : decode cX12_driveNow 82 = .ok (.getfield 25, 3) := by decide +kernel
theorem dX12_driveNow_85 : decode cX12_driveNow 85 = .ok (.bipush 40, 2) := by decide +kernel
theorem dX12_driveNow_87 : decode cX12_driveNow 87 = .ok (.iload_n 2, 1) := by decide +kernel
theorem dX12_driveNow_88 : decode cX12_driveNow 88 = .ok (.iadd, 1) := by decide +kernel
theorem dX12_driveNow_89 : decode cX12_driveNow 89 = .ok (.aload_n 0, 1) := by decide +kernel
theorem dX12_driveNow_90 : decode cX12_driveNow 90 = .ok (.getfield 25, 3) := by decide +kernel
theorem dX12_driveNow_93 : decode cX12_driveNow 93 = .ok (.bipush 40, 2) := by decide +kernel
theorem dX12_driveNow_95 : decode cX12_driveNow 95 = .ok (.iload_n 2, 1) := by decide +kernel
theorem dX12_driveNow_96 : decode cX12_driveNow 96 = .ok (.iadd, 1) := by decide +kernel
theorem dX12_driveNow_97 : decode cX12_driveNow 97 = .ok (.iaload, 1) := by decide +kernel
theorem dX12_driveNow_98 : decode cX12_driveNow 98 = .ok (.iconst (-1), 1) := by decide +kernel
theorem dX12_driveNow_99 : decode cX12_driveNow 99 = .ok (.if_icmp .ne 7, 3) := by decide +kernel
theorem dX12_driveNow_102 : decode cX12_driveNow 102 = .ok (.iload_n 1, 1) := by decide +kernel
theorem dX12_driveNow_103 : decode cX12_driveNow 103 = .ok (.goto 12, 3) := by decide +kernel
theorem dX12_driveNow_106 : decode cX12_driveNow 106 = .ok (.aload_n 0, 1) := by decide +kernel
theorem dX12_driveNow_107 : decode cX12_driveNow 107 = .ok (.getfield 25, 3) := by decide +kernel
theorem dX12_driveNow_110 : decode cX12_driveNow 110 = .ok (.bipush 40, 2) := by decide +kernel
theorem dX12_driveNow_112 : decode cX12_driveNow 112 = .ok (.iload_n 2, 1) := by decide +kernel
theorem dX12_driveNow_113 : decode cX12_driveNow 113 = .ok (.iadd, 1) := by decide +kernel
theorem dX12_driveNow_114 : decode cX12_driveNow 114 = .ok (.iaload, 1) := by decide +kernel
theorem dX12_driveNow_115 : decode cX12_driveNow 115 = .ok (.iastore, 1) := by decide +kernel
theorem dX12_driveNow_116 : decode cX12_driveNow 116 = .ok (.aload_n 0, 1) := by decide +kernel
theorem dX12_driveNow_117 : decode cX12_driveNow 117 = .ok (.getfield 25, 3) := by decide +kernel
theorem dX12_driveNow_120 : decode cX12_driveNow 120 = .ok (.bipush 88, 2) := by decide +kernel
theorem dX12_driveNow_122 : decode cX12_driveNow 122 = .ok (.iload_n 1, 1) := by decide +kernel
theorem dX12_driveNow_123 : decode cX12_driveNow 123 = .ok (.iadd, 1) := by decide +kernel
theorem dX12_driveNow_124 : decode cX12_driveNow 124 = .ok (.iload_n 2, 1) := by decide +kernel
theorem dX12_driveNow_125 : decode cX12_driveNow 125 = .ok (.iastore, 1) := by decide +kernel
theorem dX12_driveNow_126 : decode cX12_driveNow 126 = .ok (.aload_n 0, 1) := by decide +kernel
theorem dX12_driveNow_127 : decode cX12_driveNow 127 = .ok (.getfield 25, 3) := by decide +kernel
theorem dX12_driveNow_130 : decode cX12_driveNow 130 = .ok (.bipush 96, 2) := by decide +kernel
theorem dX12_driveNow_132 : decode cX12_driveNow 132 = .ok (.iload_n 1, 1) := by decide +kernel
theorem dX12_driveNow_133 : decode cX12_driveNow 133 = .ok (.iadd, 1) := by decide +kernel
theorem dX12_driveNow_134 : decode cX12_driveNow 134 = .ok (.dup2, 1) := by decide +kernel
theorem dX12_driveNow_135 : decode cX12_driveNow 135 = .ok (.iaload, 1) := by decide +kernel
theorem dX12_driveNow_136 : decode cX12_driveNow 136 = .ok (.iconst 1, 1) := by decide +kernel
theorem dX12_driveNow_137 : decode cX12_driveNow 137 = .ok (.iadd, 1) := by decide +kernel
theorem dX12_driveNow_138 : decode cX12_driveNow 138 = .ok (.iastore, 1) := by decide +kernel
theorem dX12_driveNow_139 : decode cX12_driveNow 139 = .ok (.iload_n 2, 1) := by decide +kernel
theorem dX12_driveNow_140 : decode cX12_driveNow 140 = .ok (.ireturn, 1) := by decide +kernel
theorem dX12_drive_0 : decode cX12_drive 0 = .ok (.aload_n 0, 1) := by decide +kernel
theorem dX12_drive_1 : decode cX12_drive 1 = .ok (.iload_n 1, 1) := by decide +kernel
theorem dX12_drive_2 : decode cX12_drive 2 = .ok (.invokevirtual 226, 3) := by decide +kernel
theorem dX12_drive_5 : decode cX12_drive 5 = .ok (.ifCond .ne 6, 3) := by decide +kernel
theorem dX12_drive_8 : decode cX12_drive 8 = .ok (.ldc 225, 2) := by decide +kernel
theorem dX12_drive_10 : decode cX12_drive 10 = .ok (.ireturn, 1) := by decide +kernel
theorem dX12_drive_11 : decode cX12_drive 11 = .ok (.aload_n 0, 1) := by decide +kernel
theorem dX12_drive_12 : decode cX12_drive 12 = .ok (.getfield 25, 3) := by decide +kernel
theorem dX12_drive_15 : decode cX12_drive 15 = .ok (.bipush 88, 2) := by decide +kernel
theorem dX12_drive_17 : decode cX12_drive 17 = .ok (.iload_n 1, 1) := by decide +kernel
theorem dX12_drive_18 : decode cX12_drive 18 = .ok (.iadd, 1) := by decide +kernel
theorem dX12_drive_19 : decode cX12_drive 19 = .ok (.iaload, 1) := by decide +kernel
theorem dX12_drive_20 : decode cX12_drive 20 = .ok (.iconst (-1), 1) := by decide +kernel
theorem dX12_drive_21 : decode cX12_drive 21 = .ok (.if_icmp .eq 6, 3) := by decide +kernel
theorem dX12_drive_24 : decode cX12_drive 24 = .ok (.ldc 232, 2) := by decide +kernel
theorem dX12_drive_26 : decode cX12_drive 26 = .ok (.ireturn, 1) := by decide +kernel
theorem dX12_drive_27 : decode cX12_drive 27 = .ok (.aload_n 0, 1) := by decide +kernel
theorem dX12_drive_28 : decode cX12_drive 28 = .ok (.invokevirtual 233, 3) := by decide +kernel
theorem dX12_drive_31 : decode cX12_drive 31 = .ok (.aload_n 0, 1) := by decide +kernel
theorem dX12_drive_32 : decode cX12_drive 32 = .ok (.iload_n 1, 1) := by decide +kernel
theorem dX12_drive_33 : decode cX12_drive 33 = .ok (.invokevirtual 236, 3) := by decide +kernel
theorem dX12_drive_36 : decode cX12_drive 36 = .ok (.ireturn, 1) := by decide +kernel
theorem dX12_pullNow_0 : decode cX12_pullNow 0 = .ok (.aload_n 0, 1) := by decide +kernel
theorem dX12_pullNow_1 : decode cX12_pullNow 1 = .ok (.getfield 25, 3) := by decide +kernel
theorem dX12_pullNow_4 : decode cX12_pullNow 4 = .ok (.bipush 88, 2) := by decide +kernel
theorem dX12_pullNow_6 : decode cX12_pullNow 6 = .ok (.iload_n 1, 1) := by decide +kernel
theorem dX12_pullNow_7 : decode cX12_pullNow 7 = .ok (.iadd, 1) := by decide +kernel
theorem dX12_pullNow_8 : decode cX12_pullNow 8 = .ok (.iaload, 1) := by decide +kernel
theorem dX12_pullNow_9 : decode cX12_pullNow 9 = .ok (.istore_n 2, 1) := by decide +kernel
theorem dX12_pullNow_10 : decode cX12_pullNow 10 = .ok (.aload_n 0, 1) := by decide +kernel
theorem dX12_pullNow_11 : decode cX12_pullNow 11 = .ok (.getfield 25, 3) := by decide +kernel
theorem dX12_pullNow_14 : decode cX12_pullNow 14 = .ok (.bipush 88, 2) := by decide +kernel
theorem dX12_pullNow_16 : decode cX12_pullNow 16 = .ok (.iload_n 1, 1) := by decide +kernel
theorem dX12_pullNow_17 : decode cX12_pullNow 17 = .ok (.iadd, 1) := by decide +kernel
theorem dX12_pullNow_18 : decode cX12_pullNow 18 = .ok (.iconst (-1), 1) := by decide +kernel
theorem dX12_pullNow_19 : decode cX12_pullNow 19 = .ok (.iastore, 1) := by decide +kernel
theorem dX12_pullNow_20 : decode cX12_pullNow 20 = .ok (.aload_n 0, 1) := by decide +kernel
theorem dX12_pullNow_21 : decode cX12_pullNow 21 = .ok (.getfield 25, 3) := by decide +kernel
theorem dX12_pullNow_24 : decode cX12_pullNow 24 = .ok (.bipush 60, 2) := by decide +kernel
theorem dX12_pullNow_26 : decode cX12_pullNow 26 = .ok (.iload_n 2, 1) := by decide +kernel
theorem dX12_pullNow_27 : decode cX12_pullNow 27 = .ok (.iadd, 1) := by decide +kernel
theorem dX12_pullNow_28 : decode cX12_pullNow 28 = .ok (.dup2, 1) := by decide +kernel
theorem dX12_pullNow_29 : decode cX12_pullNow 29 = .ok (.iaload, 1) := by decide +kernel
theorem dX12_pullNow_30 : decode cX12_pullNow 30 = .ok (.aload_n 0, 1) := by decide +kernel
theorem dX12_pullNow_31 : decode cX12_pullNow 31 = .ok (.iload_n 2, 1) := by decide +kernel
theorem dX12_pullNow_32 : decode cX12_pullNow 32 = .ok (.invokevirtual 183, 3) := by decide +kernel
theorem dX12_pullNow_35 : decode cX12_pullNow 35 = .ok (.ifCond .eq 19, 3) := by decide +kernel
theorem dX12_pullNow_38 : decode cX12_pullNow 38 = .ok (.aload_n 0, 1) := by decide +kernel
theorem dX12_pullNow_39 : decode cX12_pullNow 39 = .ok (.getfield 25, 3) := by decide +kernel
theorem dX12_pullNow_42 : decode cX12_pullNow 42 = .ok (.bipush 60, 2) := by decide +kernel
theorem dX12_pullNow_44 : decode cX12_pullNow 44 = .ok (.iload_n 2, 1) := by decide +kernel
theorem dX12_pullNow_45 : decode cX12_pullNow 45 = .ok (.iadd, 1) := by decide +kernel
theorem dX12_pullNow_46 : decode cX12_pullNow 46 = .ok (.iaload, 1) := by decide +kernel
theorem dX12_pullNow_47 : decode cX12_pullNow 47 = .ok (.ifCond .le 7, 3) := by decide +kernel
theorem dX12_pullNow_50 : decode cX12_pullNow 50 = .ok (.iconst 1, 1) := by decide +kernel
theorem dX12_pullNow_51 : decode cX12_pullNow 51 = .ok (.goto 4, 3) := by decide +kernel
theorem dX12_pullNow_54 : decode cX12_pullNow 54 = .ok (.iconst 0, 1) := by decide +kernel
theorem dX12_pullNow_55 : decode cX12_pullNow 55 = .ok (.isub, 1) := by decide +kernel
theorem dX12_pullNow_56 : decode cX12_pullNow 56 = .ok (.iastore, 1) := by decide +kernel
theorem dX12_pullNow_57 : decode cX12_pullNow 57 = .ok (.aload_n 0, 1) := by decide +kernel
theorem dX12_pullNow_58 : decode cX12_pullNow 58 = .ok (.getfield 25, 3) := by decide +kernel
theorem dX12_pullNow_61 : decode cX12_pullNow 61 = .ok (.bipush 40, 2) := by decide +kernel
theorem dX12_pullNow_63 : decode cX12_pullNow 63 = .ok (.iload_n 2, 1) := by decide +kernel
theorem dX12_pullNow_64 : decode cX12_pullNow 64 = .ok (.iadd, 1) := by decide +kernel
theorem dX12_pullNow_65 : decode cX12_pullNow 65 = .ok (.aload_n 0, 1) := by decide +kernel
theorem dX12_pullNow_66 : decode cX12_pullNow 66 = .ok (.getfield 25, 3) := by decide +kernel
theorem dX12_pullNow_69 : decode cX12_pullNow 69 = .ok (.bipush 40, 2) := by decide +kernel
theorem dX12_pullNow_71 : decode cX12_pullNow 71 = .ok (.iload_n 2, 1) := by decide +kernel
theorem dX12_pullNow_72 : decode cX12_pullNow 72 = .ok (.iadd, 1) := by decide +kernel
theorem dX12_pullNow_73 : decode cX12_pullNow 73 = .ok (.iaload, 1) := by decide +kernel
theorem dX12_pullNow_74 : decode cX12_pullNow 74 = .ok (.iload_n 1, 1) := by decide +kernel
theorem dX12_pullNow_75 : decode cX12_pullNow 75 = .ok (.if_icmp .ne 7, 3) := by decide +kernel
theorem dX12_pullNow_78 : decode cX12_pullNow 78 = .ok (.iconst (-1), 1) := by decide +kernel
theorem dX12_pullNow_79 : decode cX12_pullNow 79 = .ok (.goto 12, 3) := by decide +kernel
theorem dX12_pullNow_82 : decode cX12_pullNow 82 = .ok (.aload_n 0, 1) := by decide +kernel
theorem dX12_pullNow_83 : decode cX12_pullNow 83 = .ok (.getfield 25, 3) := by decide +kernel
theorem dX12_pullNow_86 : decode cX12_pullNow 86 = .ok (.bipush 40, 2) := by decide +kernel
theorem dX12_pullNow_88 : decode cX12_pullNow 88 = .ok (.iload_n 2, 1) := by decide +kernel
theorem dX12_pullNow_89 : decode cX12_pullNow 89 = .ok (.iadd, 1) := by decide +kernel
theorem dX12_pullNow_90 : decode cX12_pullNow 90 = .ok (.iaload, 1) := by decide +kernel
theorem dX12_pullNow_91 : decode cX12_pullNow 91 = .ok (.iastore, 1) := by decide +kernel
theorem dX12_pullNow_92 : decode cX12_pullNow 92 = .ok (.iload_n 2, 1) := by decide +kernel
theorem dX12_pullNow_93 : decode cX12_pullNow 93 = .ok (.ireturn, 1) := by decide +kernel
theorem dX12_pull_0 : decode cX12_pull 0 = .ok (.aload_n 0, 1) := by decide +kernel
theorem dX12_pull_1 : decode cX12_pull 1 = .ok (.iload_n 1, 1) := by decide +kernel
theorem dX12_pull_2 : decode cX12_pull 2 = .ok (.invokevirtual 226, 3) := by decide +kernel
theorem dX12_pull_5 : decode cX12_pull 5 = .ok (.ifCond .ne 6, 3) := by decide +kernel
theorem dX12_pull_8 : decode cX12_pull 8 = .ok (.ldc 225, 2) := by decide +kernel
theorem dX12_pull_10 : decode cX12_pull 10 = .ok (.ireturn, 1) := by decide +kernel
theorem dX12_pull_11 : decode cX12_pull 11 = .ok (.aload_n 0, 1) := by decide +kernel
theorem dX12_pull_12 : decode cX12_pull 12 = .ok (.getfield 25, 3) := by decide +kernel
theorem dX12_pull_15 : decode cX12_pull 15 = .ok (.bipush 88, 2) := by decide +kernel
theorem dX12_pull_17 : decode cX12_pull 17 = .ok (.iload_n 1, 1) := by decide +kernel
theorem dX12_pull_18 : decode cX12_pull 18 = .ok (.iadd, 1) := by decide +kernel
theorem dX12_pull_19 : decode cX12_pull 19 = .ok (.iaload, 1) := by decide +kernel
theorem dX12_pull_20 : decode cX12_pull 20 = .ok (.iconst (-1), 1) := by decide +kernel
theorem dX12_pull_21 : decode cX12_pull 21 = .ok (.if_icmp .ne 6, 3) := by decide +kernel
theorem dX12_pull_24 : decode cX12_pull 24 = .ok (.ldc 232, 2) := by decide +kernel
theorem dX12_pull_26 : decode cX12_pull 26 = .ok (.ireturn, 1) := by decide +kernel
theorem dX12_pull_27 : decode cX12_pull 27 = .ok (.aload_n 0, 1) := by decide +kernel
theorem dX12_pull_28 : decode cX12_pull 28 = .ok (.invokevirtual 233, 3) := by decide +kernel
theorem dX12_pull_31 : decode cX12_pull 31 = .ok (.aload_n 0, 1) := by decide +kernel
theorem dX12_pull_32 : decode cX12_pull 32 = .ok (.iload_n 1, 1) := by decide +kernel
theorem dX12_pull_33 : decode cX12_pull 33 = .ok (.invokevirtual 239, 3) := by decide +kernel
theorem dX12_pull_36 : decode cX12_pull 36 = .ok (.ireturn, 1) := by decide +kernel
theorem dX12_pass_0 : decode cX12_pass 0 = .ok (.aload_n 0, 1) := by decide +kernel
theorem dX12_pass_1 : decode cX12_pass 1 = .ok (.getfield 25, 3) := by decide +kernel
theorem dX12_pass_4 : decode cX12_pass 4 = .ok (.bipush 105, 2) := by decide +kernel
theorem dX12_pass_6 : decode cX12_pass 6 = .ok (.dup2, 1) := by decide +kernel
theorem dX12_pass_7 : decode cX12_pass 7 = .ok (.iaload, 1) := by decide +kernel
theorem dX12_pass_8 : decode cX12_pass 8 = .ok (.iconst 2, 1) := by decide +kernel
theorem dX12_pass_9 : decode cX12_pass 9 = .ok (.idiv, 1) := by decide +kernel
theorem dX12_pass_10 : decode cX12_pass 10 = .ok (.iastore, 1) := by decide +kernel
theorem dX12_pass_11 : decode cX12_pass 11 = .ok (.aload_n 0, 1) := by decide +kernel
theorem dX12_pass_12 : decode cX12_pass 12 = .ok (.getfield 25, 3) := by decide +kernel
theorem dX12_pass_15 : decode cX12_pass 15 = .ok (.bipush 104, 2) := by decide +kernel
theorem dX12_pass_17 : decode cX12_pass 17 = .ok (.dup2, 1) := by decide +kernel
theorem dX12_pass_18 : decode cX12_pass 18 = .ok (.iaload, 1) := by decide +kernel
theorem dX12_pass_19 : decode cX12_pass 19 = .ok (.iconst 1, 1) := by decide +kernel
theorem dX12_pass_20 : decode cX12_pass 20 = .ok (.iadd, 1) := by decide +kernel
theorem dX12_pass_21 : decode cX12_pass 21 = .ok (.iastore, 1) := by decide +kernel
theorem dX12_pass_22 : decode cX12_pass 22 = .ok (.return_, 1) := by decide +kernel
theorem dX12_daysRefused_0 : decode cX12_daysRefused 0 = .ok (.iload_n 1, 1) := by decide +kernel
theorem dX12_daysRefused_1 : decode cX12_daysRefused 1 = .ok (.i2l, 1) := by decide +kernel
theorem dX12_daysRefused_2 : decode cX12_daysRefused 2 = .ok (.lconst 1, 1) := by decide +kernel
theorem dX12_daysRefused_3 : decode cX12_daysRefused 3 = .ok (.ldc2_w 242, 3) := by decide +kernel
theorem dX12_daysRefused_6 : decode cX12_daysRefused 6 = .ok (.invokestatic 81, 3) := by decide +kernel
theorem dX12_daysRefused_9 : decode cX12_daysRefused 9 = .ok (.ifCond .ne 6, 3) := by decide +kernel
theorem dX12_daysRefused_12 : decode cX12_daysRefused 12 = .ok (.ldc 90, 2) := by decide +kernel
theorem dX12_daysRefused_14 : decode cX12_daysRefused 14 = .ok (.ireturn, 1) := by decide +kernel
theorem dX12_daysRefused_15 : decode cX12_daysRefused 15 = .ok (.aload_n 0, 1) := by decide +kernel
theorem dX12_daysRefused_16 : decode cX12_daysRefused 16 = .ok (.getfield 78, 3) := by decide +kernel
theorem dX12_daysRefused_19 : decode cX12_daysRefused 19 = .ok (.ifCond .ne 8, 3) := by decide +kernel
theorem dX12_daysRefused_22 : decode cX12_daysRefused 22 = .ok (.ldc 232, 2) := by decide +kernel
theorem dX12_daysRefused_24 : decode cX12_daysRefused 24 = .ok (.goto 22, 3) := by decide +kernel
theorem dX12_daysRefused_27 : decode cX12_daysRefused 27 = .ok (.aload_n 0, 1) := by decide +kernel
theorem dX12_daysRefused_28 : decode cX12_daysRefused 28 = .ok (.getfield 25, 3) := by decide +kernel
theorem dX12_daysRefused_31 : decode cX12_daysRefused 31 = .ok (.bipush 104, 2) := by decide +kernel
theorem dX12_daysRefused_33 : decode cX12_daysRefused 33 = .ok (.iaload, 1) := by decide +kernel
theorem dX12_daysRefused_34 : decode cX12_daysRefused 34 = .ok (.sipush 9000, 3) := by decide +kernel
theorem dX12_daysRefused_37 : decode cX12_daysRefused 37 = .ok (.if_icmp .le 8, 3) := by decide +kernel
theorem dX12_daysRefused_40 : decode cX12_daysRefused 40 = .ok (.ldc 94, 2) := by decide +kernel
theorem dX12_daysRefused_42 : decode cX12_daysRefused 42 = .ok (.goto 4, 3) := by decide +kernel
theorem dX12_daysRefused_45 : decode cX12_daysRefused 45 = .ok (.iconst 0, 1) := by decide +kernel
theorem dX12_daysRefused_46 : decode cX12_daysRefused 46 = .ok (.ireturn, 1) := by decide +kernel
theorem dX12_day_0 : decode cX12_day 0 = .ok (.aload_n 0, 1) := by decide +kernel
theorem dX12_day_1 : decode cX12_day 1 = .ok (.iload_n 1, 1) := by decide +kernel
theorem dX12_day_2 : decode cX12_day 2 = .ok (.invokevirtual 244, 3) := by decide +kernel
theorem dX12_day_5 : decode cX12_day 5 = .ok (.istore_n 2, 1) := by decide +kernel
theorem dX12_day_6 : decode cX12_day 6 = .ok (.iload_n 2, 1) := by decide +kernel
theorem dX12_day_7 : decode cX12_day 7 = .ok (.ifCond .eq 5, 3) := by decide +kernel
theorem dX12_day_10 : decode cX12_day 10 = .ok (.iload_n 2, 1) := by decide +kernel
theorem dX12_day_11 : decode cX12_day 11 = .ok (.ireturn, 1) := by decide +kernel
theorem dX12_day_12 : decode cX12_day 12 = .ok (.aload_n 0, 1) := by decide +kernel
theorem dX12_day_13 : decode cX12_day 13 = .ok (.invokevirtual 233, 3) := by decide +kernel
theorem dX12_day_16 : decode cX12_day 16 = .ok (.iconst 0, 1) := by decide +kernel
theorem dX12_day_17 : decode cX12_day 17 = .ok (.istore_n 3, 1) := by decide +kernel
theorem dX12_day_18 : decode cX12_day 18 = .ok (.iload_n 3, 1) := by decide +kernel
theorem dX12_day_19 : decode cX12_day 19 = .ok (.iload_n 1, 1) := by decide +kernel
theorem dX12_day_20 : decode cX12_day 20 = .ok (.if_icmp .ge 13, 3) := by decide +kernel
theorem dX12_day_23 : decode cX12_day 23 = .ok (.aload_n 0, 1) := by decide +kernel
theorem dX12_day_24 : decode cX12_day 24 = .ok (.invokevirtual 247, 3) := by decide +kernel
theorem dX12_day_27 : decode cX12_day 27 = .ok (.iinc 3 1, 3) := by decide +kernel
theorem dX12_day_30 : decode cX12_day 30 = .ok (.goto (-12), 3) := by decide +kernel
theorem dX12_day_33 : decode cX12_day 33 = .ok (.aload_n 0, 1) := by decide +kernel
theorem dX12_day_34 : decode cX12_day 34 = .ok (.getfield 25, 3) := by decide +kernel
theorem dX12_day_37 : decode cX12_day 37 = .ok (.bipush 104, 2) := by decide +kernel
theorem dX12_day_39 : decode cX12_day 39 = .ok (.iaload, 1) := by decide +kernel
theorem dX12_day_40 : decode cX12_day 40 = .ok (.ireturn, 1) := by decide +kernel
theorem dX12_layNow_0 : decode cX12_layNow 0 = .ok (.aload_n 0, 1) := by decide +kernel
theorem dX12_layNow_1 : decode cX12_layNow 1 = .ok (.getfield 25, 3) := by decide +kernel
theorem dX12_layNow_4 : decode cX12_layNow 4 = .ok (.iload_n 1, 1) := by decide +kernel
theorem dX12_layNow_5 : decode cX12_layNow 5 = .ok (.iaload, 1) := by decide +kernel
theorem dX12_layNow_6 : decode cX12_layNow 6 = .ok (.iload_n 2, 1) := by decide +kernel
theorem dX12_layNow_7 : decode cX12_layNow 7 = .ok (.iadd, 1) := by decide +kernel
theorem dX12_layNow_8 : decode cX12_layNow 8 = .ok (.invokestatic 170, 3) := by decide +kernel
theorem dX12_layNow_11 : decode cX12_layNow 11 = .ok (.istore_n 3, 1) := by decide +kernel
theorem dX12_layNow_12 : decode cX12_layNow 12 = .ok (.aload_n 0, 1) := by decide +kernel
theorem dX12_layNow_13 : decode cX12_layNow 13 = .ok (.getfield 25, 3) := by decide +kernel
theorem dX12_layNow_16 : decode cX12_layNow 16 = .ok (.iload_n 1, 1) := by decide +kernel
theorem dX12_layNow_17 : decode cX12_layNow 17 = .ok (.iload_n 3, 1) := by decide +kernel
theorem dX12_layNow_18 : decode cX12_layNow 18 = .ok (.bipush 60, 2) := by decide +kernel
theorem dX12_layNow_20 : decode cX12_layNow 20 = .ok (.if_icmp .ge 7, 3) := by decide +kernel
theorem dX12_layNow_23 : decode cX12_layNow 23 = .ok (.iload_n 3, 1) := by decide +kernel
theorem dX12_layNow_24 : decode cX12_layNow 24 = .ok (.goto 5, 3) := by decide +kernel
theorem dX12_layNow_27 : decode cX12_layNow 27 = .ok (.bipush 60, 2) := by decide +kernel
theorem dX12_layNow_29 : decode cX12_layNow 29 = .ok (.iastore, 1) := by decide +kernel
theorem dX12_layNow_30 : decode cX12_layNow 30 = .ok (.return_, 1) := by decide +kernel
theorem dX12_lay_0 : decode cX12_lay 0 = .ok (.aload_n 0, 1) := by decide +kernel
theorem dX12_lay_1 : decode cX12_lay 1 = .ok (.iload_n 1, 1) := by decide +kernel
theorem dX12_lay_2 : decode cX12_lay 2 = .ok (.invokevirtual 222, 3) := by decide +kernel
theorem dX12_lay_5 : decode cX12_lay 5 = .ok (.ifCond .ne 6, 3) := by decide +kernel
theorem dX12_lay_8 : decode cX12_lay 8 = .ok (.ldc 225, 2) := by decide +kernel
theorem dX12_lay_10 : decode cX12_lay 10 = .ok (.ireturn, 1) := by decide +kernel
theorem dX12_lay_11 : decode cX12_lay 11 = .ok (.iload_n 2, 1) := by decide +kernel
theorem dX12_lay_12 : decode cX12_lay 12 = .ok (.i2l, 1) := by decide +kernel
theorem dX12_lay_13 : decode cX12_lay 13 = .ok (.ldc2_w 250, 3) := by decide +kernel
theorem dX12_lay_16 : decode cX12_lay 16 = .ok (.ldc2_w 242, 3) := by decide +kernel
theorem dX12_lay_19 : decode cX12_lay 19 = .ok (.invokestatic 81, 3) := by decide +kernel
theorem dX12_lay_22 : decode cX12_lay 22 = .ok (.ifCond .ne 6, 3) := by decide +kernel
theorem dX12_lay_25 : decode cX12_lay 25 = .ok (.ldc 90, 2) := by decide +kernel
theorem dX12_lay_27 : decode cX12_lay 27 = .ok (.ireturn, 1) := by decide +kernel
theorem dX12_lay_28 : decode cX12_lay 28 = .ok (.aload_n 0, 1) := by decide +kernel
theorem dX12_lay_29 : decode cX12_lay 29 = .ok (.invokevirtual 233, 3) := by decide +kernel
theorem dX12_lay_32 : decode cX12_lay 32 = .ok (.aload_n 0, 1) := by decide +kernel
theorem dX12_lay_33 : decode cX12_lay 33 = .ok (.iload_n 1, 1) := by decide +kernel
theorem dX12_lay_34 : decode cX12_lay 34 = .ok (.iload_n 2, 1) := by decide +kernel
theorem dX12_lay_35 : decode cX12_lay 35 = .ok (.invokevirtual 252, 3) := by decide +kernel
theorem dX12_lay_38 : decode cX12_lay 38 = .ok (.aload_n 0, 1) := by decide +kernel
theorem dX12_lay_39 : decode cX12_lay 39 = .ok (.getfield 25, 3) := by decide +kernel
theorem dX12_lay_42 : decode cX12_lay 42 = .ok (.iload_n 1, 1) := by decide +kernel
theorem dX12_lay_43 : decode cX12_lay 43 = .ok (.iaload, 1) := by decide +kernel
theorem dX12_lay_44 : decode cX12_lay 44 = .ok (.ireturn, 1) := by decide +kernel
theorem dX12_load_0 : decode cX12_load 0 = .ok (.aload_n 0, 1) := by decide +kernel
theorem dX12_load_1 : decode cX12_load 1 = .ok (.iload_n 1, 1) := by decide +kernel
theorem dX12_load_2 : decode cX12_load 2 = .ok (.invokevirtual 226, 3) := by decide +kernel
theorem dX12_load_5 : decode cX12_load 5 = .ok (.ifCond .ne 6, 3) := by decide +kernel
theorem dX12_load_8 : decode cX12_load 8 = .ok (.ldc 225, 2) := by decide +kernel
theorem dX12_load_10 : decode cX12_load 10 = .ok (.ireturn, 1) := by decide +kernel
theorem dX12_load_11 : decode cX12_load 11 = .ok (.iload_n 2, 1) := by decide +kernel
theorem dX12_load_12 : decode cX12_load 12 = .ok (.i2l, 1) := by decide +kernel
theorem dX12_load_13 : decode cX12_load 13 = .ok (.lconst 1, 1) := by decide +kernel
theorem dX12_load_14 : decode cX12_load 14 = .ok (.ldc2_w 242, 3) := by decide +kernel
theorem dX12_load_17 : decode cX12_load 17 = .ok (.invokestatic 81, 3) := by decide +kernel
theorem dX12_load_20 : decode cX12_load 20 = .ok (.ifCond .ne 6, 3) := by decide +kernel
theorem dX12_load_23 : decode cX12_load 23 = .ok (.ldc 90, 2) := by decide +kernel
theorem dX12_load_25 : decode cX12_load 25 = .ok (.ireturn, 1) := by decide +kernel
theorem dX12_load_26 : decode cX12_load 26 = .ok (.aload_n 0, 1) := by decide +kernel
theorem dX12_load_27 : decode cX12_load 27 = .ok (.invokevirtual 233, 3) := by decide +kernel
theorem dX12_load_30 : decode cX12_load 30 = .ok (.aload_n 0, 1) := by decide +kernel
theorem dX12_load_31 : decode cX12_load 31 = .ok (.getfield 25, 3) := by decide +kernel
theorem dX12_load_34 : decode cX12_load 34 = .ok (.bipush 80, 2) := by decide +kernel
theorem dX12_load_36 : decode cX12_load 36 = .ok (.iload_n 1, 1) := by decide +kernel
theorem dX12_load_37 : decode cX12_load 37 = .ok (.iadd, 1) := by decide +kernel
theorem dX12_load_38 : decode cX12_load 38 = .ok (.iaload, 1) := by decide +kernel
theorem dX12_load_39 : decode cX12_load 39 = .ok (.istore_n 3, 1) := by decide +kernel
theorem dX12_load_40 : decode cX12_load 40 = .ok (.aload_n 0, 1) := by decide +kernel
theorem dX12_load_41 : decode cX12_load 41 = .ok (.getfield 25, 3) := by decide +kernel
theorem dX12_load_44 : decode cX12_load 44 = .ok (.bipush 80, 2) := by decide +kernel
theorem dX12_load_46 : decode cX12_load 46 = .ok (.iload_n 1, 1) := by decide +kernel
theorem dX12_load_47 : decode cX12_load 47 = .ok (.iadd, 1) := by decide +kernel
theorem dX12_load_48 : decode cX12_load 48 = .ok (.iload_n 2, 1) := by decide +kernel
theorem dX12_load_49 : decode cX12_load 49 = .ok (.iastore, 1) := by decide +kernel
theorem dX12_load_50 : decode cX12_load 50 = .ok (.iload_n 3, 1) := by decide +kernel
theorem dX12_load_51 : decode cX12_load 51 = .ok (.ireturn, 1) := by decide +kernel
theorem dX12_storm_0 : decode cX12_storm 0 = .ok (.iload_n 1, 1) := by decide +kernel
theorem dX12_storm_1 : decode cX12_storm 1 = .ok (.i2l, 1) := by decide +kernel
theorem dX12_storm_2 : decode cX12_storm 2 = .ok (.lconst 0, 1) := by decide +kernel
theorem dX12_storm_3 : decode cX12_storm 3 = .ok (.ldc2_w 242, 3) := by decide +kernel
theorem dX12_storm_6 : decode cX12_storm 6 = .ok (.invokestatic 81, 3) := by decide +kernel
theorem dX12_storm_9 : decode cX12_storm 9 = .ok (.ifCond .ne 6, 3) := by decide +kernel
theorem dX12_storm_12 : decode cX12_storm 12 = .ok (.ldc 90, 2) := by decide +kernel
theorem dX12_storm_14 : decode cX12_storm 14 = .ok (.ireturn, 1) := by decide +kernel
theorem dX12_storm_15 : decode cX12_storm 15 = .ok (.aload_n 0, 1) := by decide +kernel
theorem dX12_storm_16 : decode cX12_storm 16 = .ok (.getfield 78, 3) := by decide +kernel
theorem dX12_storm_19 : decode cX12_storm 19 = .ok (.ifCond .ne 6, 3) := by decide +kernel
theorem dX12_storm_22 : decode cX12_storm 22 = .ok (.ldc 232, 2) := by decide +kernel
theorem dX12_storm_24 : decode cX12_storm 24 = .ok (.ireturn, 1) := by decide +kernel
theorem dX12_storm_25 : decode cX12_storm 25 = .ok (.aload_n 0, 1) := by decide +kernel
theorem dX12_storm_26 : decode cX12_storm 26 = .ok (.invokevirtual 233, 3) := by decide +kernel
theorem dX12_storm_29 : decode cX12_storm 29 = .ok (.aload_n 0, 1) := by decide +kernel
theorem dX12_storm_30 : decode cX12_storm 30 = .ok (.getfield 25, 3) := by decide +kernel
theorem dX12_storm_33 : decode cX12_storm 33 = .ok (.bipush 105, 2) := by decide +kernel
theorem dX12_storm_35 : decode cX12_storm 35 = .ok (.iaload, 1) := by decide +kernel
theorem dX12_storm_36 : decode cX12_storm 36 = .ok (.istore_n 2, 1) := by decide +kernel
theorem dX12_storm_37 : decode cX12_storm 37 = .ok (.aload_n 0, 1) := by decide +kernel
theorem dX12_storm_38 : decode cX12_storm 38 = .ok (.getfield 25, 3) := by decide +kernel
theorem dX12_storm_41 : decode cX12_storm 41 = .ok (.bipush 105, 2) := by decide +kernel
theorem dX12_storm_43 : decode cX12_storm 43 = .ok (.iload_n 1, 1) := by decide +kernel
theorem dX12_storm_44 : decode cX12_storm 44 = .ok (.iastore, 1) := by decide +kernel
theorem dX12_storm_45 : decode cX12_storm 45 = .ok (.iload_n 2, 1) := by decide +kernel
theorem dX12_storm_46 : decode cX12_storm 46 = .ok (.ireturn, 1) := by decide +kernel
theorem dX12_raze_0 : decode cX12_raze 0 = .ok (.aload_n 0, 1) := by decide +kernel
theorem dX12_raze_1 : decode cX12_raze 1 = .ok (.iload_n 1, 1) := by decide +kernel
theorem dX12_raze_2 : decode cX12_raze 2 = .ok (.invokevirtual 222, 3) := by decide +kernel
theorem dX12_raze_5 : decode cX12_raze 5 = .ok (.ifCond .ne 6, 3) := by decide +kernel
theorem dX12_raze_8 : decode cX12_raze 8 = .ok (.ldc 225, 2) := by decide +kernel
theorem dX12_raze_10 : decode cX12_raze 10 = .ok (.ireturn, 1) := by decide +kernel
theorem dX12_raze_11 : decode cX12_raze 11 = .ok (.aload_n 0, 1) := by decide +kernel
theorem dX12_raze_12 : decode cX12_raze 12 = .ok (.iload_n 1, 1) := by decide +kernel
theorem dX12_raze_13 : decode cX12_raze 13 = .ok (.invokevirtual 183, 3) := by decide +kernel
theorem dX12_raze_16 : decode cX12_raze 16 = .ok (.ifCond .ne 6, 3) := by decide +kernel
theorem dX12_raze_19 : decode cX12_raze 19 = .ok (.ldc 232, 2) := by decide +kernel
theorem dX12_raze_21 : decode cX12_raze 21 = .ok (.ireturn, 1) := by decide +kernel
theorem dX12_raze_22 : decode cX12_raze 22 = .ok (.aload_n 0, 1) := by decide +kernel
theorem dX12_raze_23 : decode cX12_raze 23 = .ok (.invokevirtual 233, 3) := by decide +kernel
theorem dX12_raze_26 : decode cX12_raze 26 = .ok (.aload_n 0, 1) := by decide +kernel
theorem dX12_raze_27 : decode cX12_raze 27 = .ok (.getfield 25, 3) := by decide +kernel
theorem dX12_raze_30 : decode cX12_raze 30 = .ok (.bipush 60, 2) := by decide +kernel
theorem dX12_raze_32 : decode cX12_raze 32 = .ok (.iload_n 1, 1) := by decide +kernel
theorem dX12_raze_33 : decode cX12_raze 33 = .ok (.iadd, 1) := by decide +kernel
theorem dX12_raze_34 : decode cX12_raze 34 = .ok (.iaload, 1) := by decide +kernel
theorem dX12_raze_35 : decode cX12_raze 35 = .ok (.istore_n 2, 1) := by decide +kernel
theorem dX12_raze_36 : decode cX12_raze 36 = .ok (.aload_n 0, 1) := by decide +kernel
theorem dX12_raze_37 : decode cX12_raze 37 = .ok (.getfield 25, 3) := by decide +kernel
theorem dX12_raze_40 : decode cX12_raze 40 = .ok (.bipush 20, 2) := by decide +kernel
theorem dX12_raze_42 : decode cX12_raze 42 = .ok (.iload_n 1, 1) := by decide +kernel
theorem dX12_raze_43 : decode cX12_raze 43 = .ok (.iadd, 1) := by decide +kernel
theorem dX12_raze_44 : decode cX12_raze 44 = .ok (.iconst (-1), 1) := by decide +kernel
theorem dX12_raze_45 : decode cX12_raze 45 = .ok (.iastore, 1) := by decide +kernel
theorem dX12_raze_46 : decode cX12_raze 46 = .ok (.aload_n 0, 1) := by decide +kernel
theorem dX12_raze_47 : decode cX12_raze 47 = .ok (.getfield 25, 3) := by decide +kernel
theorem dX12_raze_50 : decode cX12_raze 50 = .ok (.bipush 40, 2) := by decide +kernel
theorem dX12_raze_52 : decode cX12_raze 52 = .ok (.iload_n 1, 1) := by decide +kernel
theorem dX12_raze_53 : decode cX12_raze 53 = .ok (.iadd, 1) := by decide +kernel
theorem dX12_raze_54 : decode cX12_raze 54 = .ok (.iconst (-1), 1) := by decide +kernel
theorem dX12_raze_55 : decode cX12_raze 55 = .ok (.iastore, 1) := by decide +kernel
theorem dX12_raze_56 : decode cX12_raze 56 = .ok (.aload_n 0, 1) := by decide +kernel
theorem dX12_raze_57 : decode cX12_raze 57 = .ok (.getfield 25, 3) := by decide +kernel
theorem dX12_raze_60 : decode cX12_raze 60 = .ok (.bipush 60, 2) := by decide +kernel
theorem dX12_raze_62 : decode cX12_raze 62 = .ok (.iload_n 1, 1) := by decide +kernel
theorem dX12_raze_63 : decode cX12_raze 63 = .ok (.iadd, 1) := by decide +kernel
theorem dX12_raze_64 : decode cX12_raze 64 = .ok (.iconst 0, 1) := by decide +kernel
theorem dX12_raze_65 : decode cX12_raze 65 = .ok (.iastore, 1) := by decide +kernel
theorem dX12_raze_66 : decode cX12_raze 66 = .ok (.iload_n 2, 1) := by decide +kernel
theorem dX12_raze_67 : decode cX12_raze 67 = .ok (.ireturn, 1) := by decide +kernel
theorem dX12_draw_0 : decode cX12_draw 0 = .ok (.aload_n 0, 1) := by decide +kernel
theorem dX12_draw_1 : decode cX12_draw 1 = .ok (.aload_n 0, 1) := by decide +kernel
theorem dX12_draw_2 : decode cX12_draw 2 = .ok (.getfield 256, 3) := by decide +kernel
theorem dX12_draw_5 : decode cX12_draw 5 = .ok (.i2l, 1) := by decide +kernel
theorem dX12_draw_6 : decode cX12_draw 6 = .ok (.ldc2_w 259, 3) := by decide +kernel
theorem dX12_draw_9 : decode cX12_draw 9 = .ok (.lmul, 1) := by decide +kernel
theorem dX12_draw_10 : decode cX12_draw 10 = .ok (.ldc2_w 261, 3) := by decide +kernel
theorem dX12_draw_13 : decode cX12_draw 13 = .ok (.ladd, 1) := by decide +kernel
theorem dX12_draw_14 : decode cX12_draw 14 = .ok (.ldc2_w 263, 3) := by decide +kernel
theorem dX12_draw_17 : decode cX12_draw 17 = .ok (.lrem, 1) := by decide +kernel
theorem dX12_draw_18 : decode cX12_draw 18 = .ok (.l2i, 1) := by decide +kernel
theorem dX12_draw_19 : decode cX12_draw 19 = .ok (.putfield 256, 3) := by decide +kernel
theorem dX12_draw_22 : decode cX12_draw 22 = .ok (.aload_n 0, 1) := by decide +kernel
theorem dX12_draw_23 : decode cX12_draw 23 = .ok (.getfield 256, 3) := by decide +kernel
theorem dX12_draw_26 : decode cX12_draw 26 = .ok (.ldc_w 265, 3) := by decide +kernel
theorem dX12_draw_29 : decode cX12_draw 29 = .ok (.idiv, 1) := by decide +kernel
theorem dX12_draw_30 : decode cX12_draw 30 = .ok (.iload_n 1, 1) := by decide +kernel
theorem dX12_draw_31 : decode cX12_draw 31 = .ok (.irem, 1) := by decide +kernel
theorem dX12_draw_32 : decode cX12_draw 32 = .ok (.ireturn, 1) := by decide +kernel
theorem dX12_chance_0 : decode cX12_chance 0 = .ok (.aload_n 0, 1) := by decide +kernel
theorem dX12_chance_1 : decode cX12_chance 1 = .ok (.iconst 5, 1) := by decide +kernel
theorem dX12_chance_2 : decode cX12_chance 2 = .ok (.invokevirtual 266, 3) := by decide +kernel
theorem dX12_chance_5 : decode cX12_chance 5 = .ok (.istore_n 1, 1) := by decide +kernel
theorem dX12_chance_6 : decode cX12_chance 6 = .ok (.iload_n 1, 1) := by decide +kernel
theorem dX12_chance_7 : decode cX12_chance 7 = .ok (.ifCond .ne 19, 3) := by decide +kernel
theorem dX12_chance_10 : decode cX12_chance 10 = .ok (.aload_n 0, 1) := by decide +kernel
theorem dX12_chance_11 : decode cX12_chance 11 = .ok (.getfield 25, 3) := by decide +kernel
theorem dX12_chance_14 : decode cX12_chance 14 = .ok (.bipush 105, 2) := by decide +kernel
theorem dX12_chance_16 : decode cX12_chance 16 = .ok (.aload_n 0, 1) := by decide +kernel
theorem dX12_chance_17 : decode cX12_chance 17 = .ok (.bipush 31, 2) := by decide +kernel
theorem dX12_chance_19 : decode cX12_chance 19 = .ok (.invokevirtual 266, 3) := by decide +kernel
theorem dX12_chance_22 : decode cX12_chance 22 = .ok (.iastore, 1) := by decide +kernel
theorem dX12_chance_23 : decode cX12_chance 23 = .ok (.goto 108, 3) := by decide +kernel
theorem dX12_chance_26 : decode cX12_chance 26 = .ok (.iload_n 1, 1) := by decide +kernel
theorem dX12_chance_27 : decode cX12_chance 27 = .ok (.iconst 3, 1) := by decide +kernel
theorem dX12_chance_28 : decode cX12_chance 28 = .ok (.if_icmp .ne 26, 3) := by decide +kernel
theorem dX12_chance_31 : decode cX12_chance 31 = .ok (.aload_n 0, 1) := by decide +kernel
theorem dX12_chance_32 : decode cX12_chance 32 = .ok (.aload_n 0, 1) := by decide +kernel
theorem dX12_chance_33 : decode cX12_chance 33 = .ok (.getfield 78, 3) := by decide +kernel
theorem dX12_chance_36 : decode cX12_chance 36 = .ok (.invokevirtual 266, 3) := by decide +kernel
theorem dX12_chance_39 : decode cX12_chance 39 = .ok (.istore_n 2, 1) := by decide +kernel
theorem dX12_chance_40 : decode cX12_chance 40 = .ok (.aload_n 0, 1) := by decide +kernel
theorem dX12_chance_41 : decode cX12_chance 41 = .ok (.iload_n 2, 1) := by decide +kernel
theorem dX12_chance_42 : decode cX12_chance 42 = .ok (.aload_n 0, 1) := by decide +kernel
theorem dX12_chance_43 : decode cX12_chance 43 = .ok (.bipush 10, 2) := by decide +kernel
theorem dX12_chance_45 : decode cX12_chance 45 = .ok (.invokevirtual 266, 3) := by decide +kernel
theorem dX12_chance_48 : decode cX12_chance 48 = .ok (.invokevirtual 252, 3) := by decide +kernel
theorem dX12_chance_51 : decode cX12_chance 51 = .ok (.goto 80, 3) := by decide +kernel
theorem dX12_chance_54 : decode cX12_chance 54 = .ok (.iload_n 1, 1) := by decide +kernel
theorem dX12_chance_55 : decode cX12_chance 55 = .ok (.iconst 3, 1) := by decide +kernel
theorem dX12_chance_56 : decode cX12_chance 56 = .ok (.if_icmp .ge 75, 3) := by decide +kernel
theorem dX12_chance_59 : decode cX12_chance 59 = .ok (.aload_n 0, 1) := by decide +kernel
theorem dX12_chance_60 : decode cX12_chance 60 = .ok (.getfield 85, 3) := by decide +kernel
theorem dX12_chance_63 : decode cX12_chance 63 = .ok (.ifCond .le 68, 3) := by decide +kernel
theorem dX12_chance_66 : decode cX12_chance 66 = .ok (.aload_n 0, 1) := by decide +kernel
theorem dX12_chance_67 : decode cX12_chance 67 = .ok (.aload_n 0, 1) := by decide +kernel
theorem dX12_chance_68 : decode cX12_chance 68 = .ok (.getfield 85, 3) := by decide +kernel
theorem dX12_chance_71 : decode cX12_chance 71 = .ok (.invokevirtual 266, 3) := by decide +kernel
theorem dX12_chance_74 : decode cX12_chance 74 = .ok (.istore_n 2, 1) := by decide +kernel
theorem dX12_chance_75 : decode cX12_chance 75 = .ok (.aload_n 0, 1) := by decide +kernel
theorem dX12_chance_76 : decode cX12_chance 76 = .ok (.getfield 25, 3) := by decide +kernel
theorem dX12_chance_79 : decode cX12_chance 79 = .ok (.bipush 88, 2) := by decide +kernel
theorem dX12_chance_81 : decode cX12_chance 81 = .ok (.iload_n 2, 1) := by decide +kernel
theorem dX12_chance_82 : decode cX12_chance 82 = .ok (.iadd, 1) := by decide +kernel
theorem dX12_chance_83 : decode cX12_chance 83 = .ok (.iaload, 1) := by decide +kernel
theorem dX12_chance_84 : decode cX12_chance 84 = .ok (.iconst (-1), 1) := by decide +kernel
theorem dX12_chance_85 : decode cX12_chance 85 = .ok (.if_icmp .eq 7, 3) := by decide +kernel
theorem dX12_chance_88 : decode cX12_chance 88 = .ok (.iconst 1, 1) := by decide +kernel
theorem dX12_chance_89 : decode cX12_chance 89 = .ok (.goto 4, 3) := by decide +kernel
theorem dX12_chance_92 : decode cX12_chance 92 = .ok (.iconst 0, 1) := by decide +kernel
theorem dX12_chance_93 : decode cX12_chance 93 = .ok (.istore_n 3, 1) := by decide +kernel
theorem dX12_chance_94 : decode cX12_chance 94 = .ok (.iload_n 1, 1) := by decide +kernel
theorem dX12_chance_95 : decode cX12_chance 95 = .ok (.iconst 1, 1) := by decide +kernel
theorem dX12_chance_96 : decode cX12_chance 96 = .ok (.if_icmp .ne 15, 3) := by decide +kernel
theorem dX12_chance_99 : decode cX12_chance 99 = .ok (.iload_n 3, 1) := by decide +kernel
theorem dX12_chance_100 : decode cX12_chance 100 = .ok (.ifCond .ne 11, 3) := by decide +kernel
theorem dX12_chance_103 : decode cX12_chance 103 = .ok (.aload_n 0, 1) := by decide +kernel
theorem dX12_chance_104 : decode cX12_chance 104 = .ok (.iload_n 2, 1) := by decide +kernel
theorem dX12_chance_105 : decode cX12_chance 105 = .ok (.invokevirtual 236, 3) := by decide +kernel
theorem dX12_chance_108 : decode cX12_chance 108 = .ok (.goto 21, 3) := by decide +kernel
theorem dX12_chance_111 : decode cX12_chance 111 = .ok (.iload_n 1, 1) := by decide +kernel
theorem dX12_chance_112 : decode cX12_chance 112 = .ok (.iconst 2, 1) := by decide +kernel
theorem dX12_chance_113 : decode cX12_chance 113 = .ok (.if_icmp .ne 15, 3) := by decide +kernel
theorem dX12_chance_116 : decode cX12_chance 116 = .ok (.iload_n 3, 1) := by decide +kernel
theorem dX12_chance_117 : decode cX12_chance 117 = .ok (.ifCond .eq 11, 3) := by decide +kernel
theorem dX12_chance_120 : decode cX12_chance 120 = .ok (.aload_n 0, 1) := by decide +kernel
theorem dX12_chance_121 : decode cX12_chance 121 = .ok (.iload_n 2, 1) := by decide +kernel
theorem dX12_chance_122 : decode cX12_chance 122 = .ok (.invokevirtual 239, 3) := by decide +kernel
theorem dX12_chance_125 : decode cX12_chance 125 = .ok (.goto 4, 3) := by decide +kernel
theorem dX12_chance_128 : decode cX12_chance 128 = .ok (.iconst (-1), 1) := by decide +kernel
theorem dX12_chance_129 : decode cX12_chance 129 = .ok (.istore 4, 2) := by decide +kernel
theorem dX12_chance_131 : decode cX12_chance 131 = .ok (.return_, 1) := by decide +kernel
theorem dX12_drift_0 : decode cX12_drift 0 = .ok (.aload_n 0, 1) := by decide +kernel
theorem dX12_drift_1 : decode cX12_drift 1 = .ok (.iload_n 1, 1) := by decide +kernel
theorem dX12_drift_2 : decode cX12_drift 2 = .ok (.invokevirtual 244, 3) := by decide +kernel
theorem dX12_drift_5 : decode cX12_drift 5 = .ok (.istore_n 2, 1) := by decide +kernel
theorem dX12_drift_6 : decode cX12_drift 6 = .ok (.iload_n 2, 1) := by decide +kernel
theorem dX12_drift_7 : decode cX12_drift 7 = .ok (.ifCond .eq 5, 3) := by decide +kernel
theorem dX12_drift_10 : decode cX12_drift 10 = .ok (.iload_n 2, 1) := by decide +kernel
theorem dX12_drift_11 : decode cX12_drift 11 = .ok (.ireturn, 1) := by decide +kernel
theorem dX12_drift_12 : decode cX12_drift 12 = .ok (.aload_n 0, 1) := by decide +kernel
theorem dX12_drift_13 : decode cX12_drift 13 = .ok (.invokevirtual 233, 3) := by decide +kernel
theorem dX12_drift_16 : decode cX12_drift 16 = .ok (.iconst 0, 1) := by decide +kernel
theorem dX12_drift_17 : decode cX12_drift 17 = .ok (.istore_n 3, 1) := by decide +kernel
theorem dX12_drift_18 : decode cX12_drift 18 = .ok (.iload_n 3, 1) := by decide +kernel
theorem dX12_drift_19 : decode cX12_drift 19 = .ok (.iload_n 1, 1) := by decide +kernel
theorem dX12_drift_20 : decode cX12_drift 20 = .ok (.if_icmp .ge 17, 3) := by decide +kernel
theorem dX12_drift_23 : decode cX12_drift 23 = .ok (.aload_n 0, 1) := by decide +kernel
theorem dX12_drift_24 : decode cX12_drift 24 = .ok (.invokevirtual 269, 3) := by decide +kernel
theorem dX12_drift_27 : decode cX12_drift 27 = .ok (.aload_n 0, 1) := by decide +kernel
theorem dX12_drift_28 : decode cX12_drift 28 = .ok (.invokevirtual 247, 3) := by decide +kernel
theorem dX12_drift_31 : decode cX12_drift 31 = .ok (.iinc 3 1, 3) := by decide +kernel
theorem dX12_drift_34 : decode cX12_drift 34 = .ok (.goto (-16), 3) := by decide +kernel
theorem dX12_drift_37 : decode cX12_drift 37 = .ok (.aload_n 0, 1) := by decide +kernel
theorem dX12_drift_38 : decode cX12_drift 38 = .ok (.invokevirtual 219, 3) := by decide +kernel
theorem dX12_drift_41 : decode cX12_drift 41 = .ok (.ireturn, 1) := by decide +kernel
theorem dX12_undo_0 : decode cX12_undo 0 = .ok (.aload_n 0, 1) := by decide +kernel
theorem dX12_undo_1 : decode cX12_undo 1 = .ok (.getfield 160, 3) := by decide +kernel
theorem dX12_undo_4 : decode cX12_undo 4 = .ok (.ifCond .ne 6, 3) := by decide +kernel
theorem dX12_undo_7 : decode cX12_undo 7 = .ok (.ldc 232, 2) := by decide +kernel
theorem dX12_undo_9 : decode cX12_undo 9 = .ok (.ireturn, 1) := by decide +kernel
theorem dX12_undo_10 : decode cX12_undo 10 = .ok (.aload_n 0, 1) := by decide +kernel
theorem dX12_undo_11 : decode cX12_undo 11 = .ok (.dup, 1) := by decide +kernel
theorem dX12_undo_12 : decode cX12_undo 12 = .ok (.getfield 160, 3) := by decide +kernel
theorem dX12_undo_15 : decode cX12_undo 15 = .ok (.iconst 1, 1) := by decide +kernel
theorem dX12_undo_16 : decode cX12_undo 16 = .ok (.isub, 1) := by decide +kernel
theorem dX12_undo_17 : decode cX12_undo 17 = .ok (.putfield 160, 3) := by decide +kernel
theorem dX12_undo_20 : decode cX12_undo 20 = .ok (.iconst 0, 1) := by decide +kernel
theorem dX12_undo_21 : decode cX12_undo 21 = .ok (.istore_n 1, 1) := by decide +kernel
theorem dX12_undo_22 : decode cX12_undo 22 = .ok (.iload_n 1, 1) := by decide +kernel
theorem dX12_undo_23 : decode cX12_undo 23 = .ok (.bipush 106, 2) := by decide +kernel
theorem dX12_undo_25 : decode cX12_undo 25 = .ok (.if_icmp .ge 29, 3) := by decide +kernel
theorem dX12_undo_28 : decode cX12_undo 28 = .ok (.aload_n 0, 1) := by decide +kernel
theorem dX12_undo_29 : decode cX12_undo 29 = .ok (.getfield 25, 3) := by decide +kernel
theorem dX12_undo_32 : decode cX12_undo 32 = .ok (.iload_n 1, 1) := by decide +kernel
theorem dX12_undo_33 : decode cX12_undo 33 = .ok (.aload_n 0, 1) := by decide +kernel
theorem dX12_undo_34 : decode cX12_undo 34 = .ok (.getfield 50, 3) := by decide +kernel
theorem dX12_undo_37 : decode cX12_undo 37 = .ok (.bipush 106, 2) := by decide +kernel
theorem dX12_undo_39 : decode cX12_undo 39 = .ok (.aload_n 0, 1) := by decide +kernel
theorem dX12_undo_40 : decode cX12_undo 40 = .ok (.getfield 160, 3) := by decide +kernel
theorem dX12_undo_43 : decode cX12_undo 43 = .ok (.imul, 1) := by decide +kernel
theorem dX12_undo_44 : decode cX12_undo 44 = .ok (.iload_n 1, 1) := by decide +kernel
theorem dX12_undo_45 : decode cX12_undo 45 = .ok (.iadd, 1) := by decide +kernel
theorem dX12_undo_46 : decode cX12_undo 46 = .ok (.iaload, 1) := by decide +kernel
theorem dX12_undo_47 : decode cX12_undo 47 = .ok (.iastore, 1) := by decide +kernel
theorem dX12_undo_48 : decode cX12_undo 48 = .ok (.iinc 1 1, 3) := by decide +kernel
theorem dX12_undo_51 : decode cX12_undo 51 = .ok (.goto (-29), 3) := by decide +kernel
theorem dX12_undo_54 : decode cX12_undo 54 = .ok (.aload_n 0, 1) := by decide +kernel
theorem dX12_undo_55 : decode cX12_undo 55 = .ok (.getfield 160, 3) := by decide +kernel
theorem dX12_undo_58 : decode cX12_undo 58 = .ok (.ireturn, 1) := by decide +kernel
theorem dX12_stops_0 : decode cX12_stops 0 = .ok (.aload_n 0, 1) := by decide +kernel
theorem dX12_stops_1 : decode cX12_stops 1 = .ok (.iload_n 1, 1) := by decide +kernel
theorem dX12_stops_2 : decode cX12_stops 2 = .ok (.invokevirtual 226, 3) := by decide +kernel
theorem dX12_stops_5 : decode cX12_stops 5 = .ok (.ifCond .ne 6, 3) := by decide +kernel
theorem dX12_stops_8 : decode cX12_stops 8 = .ok (.ldc 225, 2) := by decide +kernel
theorem dX12_stops_10 : decode cX12_stops 10 = .ok (.ireturn, 1) := by decide +kernel
theorem dX12_stops_11 : decode cX12_stops 11 = .ok (.iload_n 2, 1) := by decide +kernel
theorem dX12_stops_12 : decode cX12_stops 12 = .ok (.i2l, 1) := by decide +kernel
theorem dX12_stops_13 : decode cX12_stops 13 = .ok (.lconst 0, 1) := by decide +kernel
theorem dX12_stops_14 : decode cX12_stops 14 = .ok (.ldc2_w 272, 3) := by decide +kernel
theorem dX12_stops_17 : decode cX12_stops 17 = .ok (.invokestatic 81, 3) := by decide +kernel
theorem dX12_stops_20 : decode cX12_stops 20 = .ok (.ifCond .eq 16, 3) := by decide +kernel
theorem dX12_stops_23 : decode cX12_stops 23 = .ok (.aload_n 0, 1) := by decide +kernel
theorem dX12_stops_24 : decode cX12_stops 24 = .ok (.iload_n 1, 1) := by decide +kernel
theorem dX12_stops_25 : decode cX12_stops 25 = .ok (.aload_n 0, 1) := by decide +kernel
theorem dX12_stops_26 : decode cX12_stops 26 = .ok (.iload_n 2, 1) := by decide +kernel
theorem dX12_stops_27 : decode cX12_stops 27 = .ok (.invokevirtual 167, 3) := by decide +kernel
theorem dX12_stops_30 : decode cX12_stops 30 = .ok (.invokevirtual 190, 3) := by decide +kernel
