theorem dX9_stuckSet_35 : decode cX9_stuckSet 35 = .ok (.goto (-31), 3) := by decide +kernel
theorem dX9_stuckSet_38 : decode cX9_stuckSet 38 = .ok (.iload_n 1, 1) := by decide +kernel
theorem dX9_stuckSet_39 : decode cX9_stuckSet 39 = .ok (.ireturn, 1) := by decide +kernel
theorem dX9_mayorOf_0 : decode cX9_mayorOf 0 = .ok (.iconst 0, 1) := by decide +kernel
theorem dX9_mayorOf_1 : decode cX9_mayorOf 1 = .ok (.istore_n 2, 1) := by decide +kernel
theorem dX9_mayorOf_2 : decode cX9_mayorOf 2 = .ok (.iload_n 2, 1) := by decide +kernel
theorem dX9_mayorOf_3 : decode cX9_mayorOf 3 = .ok (.aload_n 0, 1) := by decide +kernel
theorem dX9_mayorOf_4 : decode cX9_mayorOf 4 = .ok (.getfield 9, 3) := by decide +kernel
theorem dX9_mayorOf_7 : decode cX9_mayorOf 7 = .ok (.getfield 19, 3) := by decide +kernel
theorem dX9_mayorOf_10 : decode cX9_mayorOf 10 = .ok (.if_icmp .ge 24, 3) := by decide +kernel
theorem dX9_mayorOf_13 : decode cX9_mayorOf 13 = .ok (.aload_n 0, 1) := by decide +kernel
theorem dX9_mayorOf_14 : decode cX9_mayorOf 14 = .ok (.getfield 15, 3) := by decide +kernel
theorem dX9_mayorOf_17 : decode cX9_mayorOf 17 = .ok (.getfield 37, 3) := by decide +kernel
theorem dX9_mayorOf_20 : decode cX9_mayorOf 20 = .ok (.iload_n 2, 1) := by decide +kernel
theorem dX9_mayorOf_21 : decode cX9_mayorOf 21 = .ok (.iaload, 1) := by decide +kernel
theorem dX9_mayorOf_22 : decode cX9_mayorOf 22 = .ok (.iload_n 1, 1) := by decide +kernel
theorem dX9_mayorOf_23 : decode cX9_mayorOf 23 = .ok (.if_icmp .ne 5, 3) := by decide +kernel
theorem dX9_mayorOf_26 : decode cX9_mayorOf 26 = .ok (.iload_n 2, 1) := by decide +kernel
theorem dX9_mayorOf_27 : decode cX9_mayorOf 27 = .ok (.ireturn, 1) := by decide +kernel
theorem dX9_mayorOf_28 : decode cX9_mayorOf 28 = .ok (.iinc 2 1, 3) := by decide +kernel
theorem dX9_mayorOf_31 : decode cX9_mayorOf 31 = .ok (.goto (-29), 3) := by decide +kernel
theorem dX9_mayorOf_34 : decode cX9_mayorOf 34 = .ok (.iconst (-1), 1) := by decide +kernel
theorem dX9_mayorOf_35 : decode cX9_mayorOf 35 = .ok (.ireturn, 1) := by decide +kernel
theorem dX9_distanceWith_0 : decode cX9_distanceWith 0 = .ok (.iload_n 2, 1) := by decide +kernel
theorem dX9_distanceWith_1 : decode cX9_distanceWith 1 = .ok (.iconst (-1), 1) := by decide +kernel
theorem dX9_distanceWith_2 : decode cX9_distanceWith 2 = .ok (.if_icmp .ne 7, 3) := by decide +kernel
theorem dX9_distanceWith_5 : decode cX9_distanceWith 5 = .ok (.iconst (-1), 1) := by decide +kernel
theorem dX9_distanceWith_6 : decode cX9_distanceWith 6 = .ok (.goto 9, 3) := by decide +kernel
theorem dX9_distanceWith_9 : decode cX9_distanceWith 9 = .ok (.iload_n 1, 1) := by decide +kernel
theorem dX9_distanceWith_10 : decode cX9_distanceWith 10 = .ok (.iload_n 2, 1) := by decide +kernel
theorem dX9_distanceWith_11 : decode cX9_distanceWith 11 = .ok (.isub, 1) := by decide +kernel
theorem dX9_distanceWith_12 : decode cX9_distanceWith 12 = .ok (.invokestatic 41, 3) := by decide +kernel
theorem dX9_distanceWith_15 : decode cX9_distanceWith 15 = .ok (.istore_n 3, 1) := by decide +kernel
theorem dX9_distanceWith_16 : decode cX9_distanceWith 16 = .ok (.iconst 0, 1) := by decide +kernel
theorem dX9_distanceWith_17 : decode cX9_distanceWith 17 = .ok (.istore 4, 2) := by decide +kernel
theorem dX9_distanceWith_19 : decode cX9_distanceWith 19 = .ok (.iload 4, 2) := by decide +kernel
theorem dX9_distanceWith_21 : decode cX9_distanceWith 21 = .ok (.aload_n 0, 1) := by decide +kernel
theorem dX9_distanceWith_22 : decode cX9_distanceWith 22 = .ok (.getfield 9, 3) := by decide +kernel
theorem dX9_distanceWith_25 : decode cX9_distanceWith 25 = .ok (.getfield 19, 3) := by decide +kernel
theorem dX9_distanceWith_28 : decode cX9_distanceWith 28 = .ok (.if_icmp .ge 45, 3) := by decide +kernel
theorem dX9_distanceWith_31 : decode cX9_distanceWith 31 = .ok (.aload_n 0, 1) := by decide +kernel
theorem dX9_distanceWith_32 : decode cX9_distanceWith 32 = .ok (.getfield 15, 3) := by decide +kernel
theorem dX9_distanceWith_35 : decode cX9_distanceWith 35 = .ok (.iload 4, 2) := by decide +kernel
theorem dX9_distanceWith_37 : decode cX9_distanceWith 37 = .ok (.invokevirtual 25, 3) := by decide +kernel
theorem dX9_distanceWith_40 : decode cX9_distanceWith 40 = .ok (.ifCond .eq 27, 3) := by decide +kernel
theorem dX9_distanceWith_43 : decode cX9_distanceWith 43 = .ok (.iload_n 3, 1) := by decide +kernel
theorem dX9_distanceWith_44 : decode cX9_distanceWith 44 = .ok (.iconst (-1), 1) := by decide +kernel
theorem dX9_distanceWith_45 : decode cX9_distanceWith 45 = .ok (.if_icmp .eq 14, 3) := by decide +kernel
theorem dX9_distanceWith_48 : decode cX9_distanceWith 48 = .ok (.iload_n 1, 1) := by decide +kernel
theorem dX9_distanceWith_49 : decode cX9_distanceWith 49 = .ok (.iload 4, 2) := by decide +kernel
theorem dX9_distanceWith_51 : decode cX9_distanceWith 51 = .ok (.isub, 1) := by decide +kernel
theorem dX9_distanceWith_52 : decode cX9_distanceWith 52 = .ok (.invokestatic 41, 3) := by decide +kernel
theorem dX9_distanceWith_55 : decode cX9_distanceWith 55 = .ok (.iload_n 3, 1) := by decide +kernel
theorem dX9_distanceWith_56 : decode cX9_distanceWith 56 = .ok (.if_icmp .ge 11, 3) := by decide +kernel
theorem dX9_distanceWith_59 : decode cX9_distanceWith 59 = .ok (.iload_n 1, 1) := by decide +kernel
theorem dX9_distanceWith_60 : decode cX9_distanceWith 60 = .ok (.iload 4, 2) := by decide +kernel
theorem dX9_distanceWith_62 : decode cX9_distanceWith 62 = .ok (.isub, 1) := by decide +kernel
theorem dX9_distanceWith_63 : decode cX9_distanceWith 63 = .ok (.invokestatic 41, 3) := by decide +kernel
theorem dX9_distanceWith_66 : decode cX9_distanceWith 66 = .ok (.istore_n 3, 1) := by decide +kernel
theorem dX9_distanceWith_67 : decode cX9_distanceWith 67 = .ok (.iinc 4 1, 3) := by decide +kernel
theorem dX9_distanceWith_70 : decode cX9_distanceWith 70 = .ok (.goto (-51), 3) := by decide +kernel
theorem dX9_distanceWith_73 : decode cX9_distanceWith 73 = .ok (.iload_n 3, 1) := by decide +kernel
theorem dX9_distanceWith_74 : decode cX9_distanceWith 74 = .ok (.ireturn, 1) := by decide +kernel
theorem dX9_distancesWith_0 : decode cX9_distancesWith 0 = .ok (.iconst 0, 1) := by decide +kernel
theorem dX9_distancesWith_1 : decode cX9_distancesWith 1 = .ok (.istore_n 2, 1) := by decide +kernel
theorem dX9_distancesWith_2 : decode cX9_distancesWith 2 = .ok (.iconst 0, 1) := by decide +kernel
theorem dX9_distancesWith_3 : decode cX9_distancesWith 3 = .ok (.istore_n 3, 1) := by decide +kernel
theorem dX9_distancesWith_4 : decode cX9_distancesWith 4 = .ok (.iload_n 3, 1) := by decide +kernel
theorem dX9_distancesWith_5 : decode cX9_distancesWith 5 = .ok (.aload_n 0, 1) := by decide +kernel
theorem dX9_distancesWith_6 : decode cX9_distancesWith 6 = .ok (.getfield 9, 3) := by decide +kernel
theorem dX9_distancesWith_9 : decode cX9_distancesWith 9 = .ok (.getfield 19, 3) := by decide +kernel
theorem dX9_distancesWith_12 : decode cX9_distancesWith 12 = .ok (.if_icmp .ge 18, 3) := by decide +kernel
theorem dX9_distancesWith_15 : decode cX9_distancesWith 15 = .ok (.iload_n 2, 1) := by decide +kernel
theorem dX9_distancesWith_16 : decode cX9_distancesWith 16 = .ok (.aload_n 0, 1) := by decide +kernel
theorem dX9_distancesWith_17 : decode cX9_distancesWith 17 = .ok (.iload_n 3, 1) := by decide +kernel
theorem dX9_distancesWith_18 : decode cX9_distancesWith 18 = .ok (.iload_n 1, 1) := by decide +kernel
theorem dX9_distancesWith_19 : decode cX9_distancesWith 19 = .ok (.invokevirtual 47, 3) := by decide +kernel
theorem dX9_distancesWith_22 : decode cX9_distancesWith 22 = .ok (.iadd, 1) := by decide +kernel
theorem dX9_distancesWith_23 : decode cX9_distancesWith 23 = .ok (.istore_n 2, 1) := by decide +kernel
theorem dX9_distancesWith_24 : decode cX9_distancesWith 24 = .ok (.iinc 3 1, 3) := by decide +kernel
theorem dX9_distancesWith_27 : decode cX9_distancesWith 27 = .ok (.goto (-23), 3) := by decide +kernel
theorem dX9_distancesWith_30 : decode cX9_distancesWith 30 = .ok (.iload_n 2, 1) := by decide +kernel
theorem dX9_distancesWith_31 : decode cX9_distancesWith 31 = .ok (.ireturn, 1) := by decide +kernel
theorem dX9_bestPlace_0 : decode cX9_bestPlace 0 = .ok (.iconst (-1), 1) := by decide +kernel
theorem dX9_bestPlace_1 : decode cX9_bestPlace 1 = .ok (.istore_n 1, 1) := by decide +kernel
theorem dX9_bestPlace_2 : decode cX9_bestPlace 2 = .ok (.iconst 0, 1) := by decide +kernel
theorem dX9_bestPlace_3 : decode cX9_bestPlace 3 = .ok (.istore_n 2, 1) := by decide +kernel
theorem dX9_bestPlace_4 : decode cX9_bestPlace 4 = .ok (.iconst 0, 1) := by decide +kernel
theorem dX9_bestPlace_5 : decode cX9_bestPlace 5 = .ok (.istore_n 3, 1) := by decide +kernel
theorem dX9_bestPlace_6 : decode cX9_bestPlace 6 = .ok (.iload_n 3, 1) := by decide +kernel
theorem dX9_bestPlace_7 : decode cX9_bestPlace 7 = .ok (.aload_n 0, 1) := by decide +kernel
theorem dX9_bestPlace_8 : decode cX9_bestPlace 8 = .ok (.getfield 9, 3) := by decide +kernel
theorem dX9_bestPlace_11 : decode cX9_bestPlace 11 = .ok (.getfield 19, 3) := by decide +kernel
theorem dX9_bestPlace_14 : decode cX9_bestPlace 14 = .ok (.if_icmp .ge 43, 3) := by decide +kernel
theorem dX9_bestPlace_17 : decode cX9_bestPlace 17 = .ok (.aload_n 0, 1) := by decide +kernel
theorem dX9_bestPlace_18 : decode cX9_bestPlace 18 = .ok (.getfield 15, 3) := by decide +kernel
theorem dX9_bestPlace_21 : decode cX9_bestPlace 21 = .ok (.iload_n 3, 1) := by decide +kernel
theorem dX9_bestPlace_22 : decode cX9_bestPlace 22 = .ok (.invokevirtual 25, 3) := by decide +kernel
theorem dX9_bestPlace_25 : decode cX9_bestPlace 25 = .ok (.ifCond .ne 26, 3) := by decide +kernel
theorem dX9_bestPlace_28 : decode cX9_bestPlace 28 = .ok (.aload_n 0, 1) := by decide +kernel
theorem dX9_bestPlace_29 : decode cX9_bestPlace 29 = .ok (.iload_n 3, 1) := by decide +kernel
theorem dX9_bestPlace_30 : decode cX9_bestPlace 30 = .ok (.invokevirtual 51, 3) := by decide +kernel
theorem dX9_bestPlace_33 : decode cX9_bestPlace 33 = .ok (.istore 4, 2) := by decide +kernel
theorem dX9_bestPlace_35 : decode cX9_bestPlace 35 = .ok (.iload_n 1, 1) := by decide +kernel
theorem dX9_bestPlace_36 : decode cX9_bestPlace 36 = .ok (.iconst (-1), 1) := by decide +kernel
theorem dX9_bestPlace_37 : decode cX9_bestPlace 37 = .ok (.if_icmp .eq 9, 3) := by decide +kernel
theorem dX9_bestPlace_40 : decode cX9_bestPlace 40 = .ok (.iload 4, 2) := by decide +kernel
theorem dX9_bestPlace_42 : decode cX9_bestPlace 42 = .ok (.iload_n 2, 1) := by decide +kernel
theorem dX9_bestPlace_43 : decode cX9_bestPlace 43 = .ok (.if_icmp .ge 8, 3) := by decide +kernel
theorem dX9_bestPlace_46 : decode cX9_bestPlace 46 = .ok (.iload_n 3, 1) := by decide +kernel
theorem dX9_bestPlace_47 : decode cX9_bestPlace 47 = .ok (.istore_n 1, 1) := by decide +kernel
theorem dX9_bestPlace_48 : decode cX9_bestPlace 48 = .ok (.iload 4, 2) := by decide +kernel
theorem dX9_bestPlace_50 : decode cX9_bestPlace 50 = .ok (.istore_n 2, 1) := by decide +kernel
theorem dX9_bestPlace_51 : decode cX9_bestPlace 51 = .ok (.iinc 3 1, 3) := by decide +kernel
theorem dX9_bestPlace_54 : decode cX9_bestPlace 54 = .ok (.goto (-48), 3) := by decide +kernel
theorem dX9_bestPlace_57 : decode cX9_bestPlace 57 = .ok (.iload_n 1, 1) := by decide +kernel
theorem dX9_bestPlace_58 : decode cX9_bestPlace 58 = .ok (.ireturn, 1) := by decide +kernel
theorem dX9_farthest_0 : decode cX9_farthest 0 = .ok (.iconst (-1), 1) := by decide +kernel
theorem dX9_farthest_1 : decode cX9_farthest 1 = .ok (.istore_n 1, 1) := by decide +kernel
theorem dX9_farthest_2 : decode cX9_farthest 2 = .ok (.iconst 0, 1) := by decide +kernel
theorem dX9_farthest_3 : decode cX9_farthest 3 = .ok (.istore_n 2, 1) := by decide +kernel
theorem dX9_farthest_4 : decode cX9_farthest 4 = .ok (.iload_n 2, 1) := by decide +kernel
theorem dX9_farthest_5 : decode cX9_farthest 5 = .ok (.aload_n 0, 1) := by decide +kernel
theorem dX9_farthest_6 : decode cX9_farthest 6 = .ok (.getfield 9, 3) := by decide +kernel
theorem dX9_farthest_9 : decode cX9_farthest 9 = .ok (.getfield 19, 3) := by decide +kernel
theorem dX9_farthest_12 : decode cX9_farthest 12 = .ok (.if_icmp .ge 20, 3) := by decide +kernel
theorem dX9_farthest_15 : decode cX9_farthest 15 = .ok (.iload_n 1, 1) := by decide +kernel
theorem dX9_farthest_16 : decode cX9_farthest 16 = .ok (.aload_n 0, 1) := by decide +kernel
theorem dX9_farthest_17 : decode cX9_farthest 17 = .ok (.iload_n 2, 1) := by decide +kernel
theorem dX9_farthest_18 : decode cX9_farthest 18 = .ok (.iconst (-1), 1) := by decide +kernel
theorem dX9_farthest_19 : decode cX9_farthest 19 = .ok (.invokevirtual 47, 3) := by decide +kernel
theorem dX9_farthest_22 : decode cX9_farthest 22 = .ok (.invokestatic 54, 3) := by decide +kernel
theorem dX9_farthest_25 : decode cX9_farthest 25 = .ok (.istore_n 1, 1) := by decide +kernel
theorem dX9_farthest_26 : decode cX9_farthest 26 = .ok (.iinc 2 1, 3) := by decide +kernel
theorem dX9_farthest_29 : decode cX9_farthest 29 = .ok (.goto (-25), 3) := by decide +kernel
theorem dX9_farthest_32 : decode cX9_farthest 32 = .ok (.iload_n 1, 1) := by decide +kernel
theorem dX9_farthest_33 : decode cX9_farthest 33 = .ok (.ireturn, 1) := by decide +kernel
theorem dX9_longestWay_0 : decode cX9_longestWay 0 = .ok (.iconst 0, 1) := by decide +kernel
theorem dX9_longestWay_1 : decode cX9_longestWay 1 = .ok (.istore_n 1, 1) := by decide +kernel
theorem dX9_longestWay_2 : decode cX9_longestWay 2 = .ok (.iconst 0, 1) := by decide +kernel
theorem dX9_longestWay_3 : decode cX9_longestWay 3 = .ok (.istore_n 2, 1) := by decide +kernel
theorem dX9_longestWay_4 : decode cX9_longestWay 4 = .ok (.iconst 0, 1) := by decide +kernel
theorem dX9_longestWay_5 : decode cX9_longestWay 5 = .ok (.istore_n 3, 1) := by decide +kernel
theorem dX9_longestWay_6 : decode cX9_longestWay 6 = .ok (.iload_n 3, 1) := by decide +kernel
theorem dX9_longestWay_7 : decode cX9_longestWay 7 = .ok (.aload_n 0, 1) := by decide +kernel
theorem dX9_longestWay_8 : decode cX9_longestWay 8 = .ok (.getfield 9, 3) := by decide +kernel
theorem dX9_longestWay_11 : decode cX9_longestWay 11 = .ok (.getfield 19, 3) := by decide +kernel
theorem dX9_longestWay_14 : decode cX9_longestWay 14 = .ok (.if_icmp .ge 34, 3) := by decide +kernel
theorem dX9_longestWay_17 : decode cX9_longestWay 17 = .ok (.aload_n 0, 1) := by decide +kernel
theorem dX9_longestWay_18 : decode cX9_longestWay 18 = .ok (.getfield 15, 3) := by decide +kernel
theorem dX9_longestWay_21 : decode cX9_longestWay 21 = .ok (.iload_n 3, 1) := by decide +kernel
theorem dX9_longestWay_22 : decode cX9_longestWay 22 = .ok (.invokevirtual 25, 3) := by decide +kernel
theorem dX9_longestWay_25 : decode cX9_longestWay 25 = .ok (.ifCond .eq 7, 3) := by decide +kernel
theorem dX9_longestWay_28 : decode cX9_longestWay 28 = .ok (.iconst 0, 1) := by decide +kernel
theorem dX9_longestWay_29 : decode cX9_longestWay 29 = .ok (.goto 6, 3) := by decide +kernel
theorem dX9_longestWay_32 : decode cX9_longestWay 32 = .ok (.iload_n 2, 1) := by decide +kernel
theorem dX9_longestWay_33 : decode cX9_longestWay 33 = .ok (.iconst 1, 1) := by decide +kernel
theorem dX9_longestWay_34 : decode cX9_longestWay 34 = .ok (.iadd, 1) := by decide +kernel
theorem dX9_longestWay_35 : decode cX9_longestWay 35 = .ok (.istore_n 2, 1) := by decide +kernel
theorem dX9_longestWay_36 : decode cX9_longestWay 36 = .ok (.iload_n 1, 1) := by decide +kernel
theorem dX9_longestWay_37 : decode cX9_longestWay 37 = .ok (.iload_n 2, 1) := by decide +kernel
theorem dX9_longestWay_38 : decode cX9_longestWay 38 = .ok (.invokestatic 54, 3) := by decide +kernel
theorem dX9_longestWay_41 : decode cX9_longestWay 41 = .ok (.istore_n 1, 1) := by decide +kernel
theorem dX9_longestWay_42 : decode cX9_longestWay 42 = .ok (.iinc 3 1, 3) := by decide +kernel
theorem dX9_longestWay_45 : decode cX9_longestWay 45 = .ok (.goto (-39), 3) := by decide +kernel
theorem dX9_longestWay_48 : decode cX9_longestWay 48 = .ok (.iload_n 1, 1) := by decide +kernel
theorem dX9_longestWay_49 : decode cX9_longestWay 49 = .ok (.ireturn, 1) := by decide +kernel
theorem dX9_biggest_0 : decode cX9_biggest 0 = .ok (.iconst (-1), 1) := by decide +kernel
theorem dX9_biggest_1 : decode cX9_biggest 1 = .ok (.istore_n 1, 1) := by decide +kernel
theorem dX9_biggest_2 : decode cX9_biggest 2 = .ok (.iconst (-1), 1) := by decide +kernel
theorem dX9_biggest_3 : decode cX9_biggest 3 = .ok (.istore_n 2, 1) := by decide +kernel
theorem dX9_biggest_4 : decode cX9_biggest 4 = .ok (.iconst 0, 1) := by decide +kernel
theorem dX9_biggest_5 : decode cX9_biggest 5 = .ok (.istore_n 3, 1) := by decide +kernel
theorem dX9_biggest_6 : decode cX9_biggest 6 = .ok (.iload_n 3, 1) := by decide +kernel
theorem dX9_biggest_7 : decode cX9_biggest 7 = .ok (.aload_n 0, 1) := by decide +kernel
theorem dX9_biggest_8 : decode cX9_biggest 8 = .ok (.getfield 9, 3) := by decide +kernel
theorem dX9_biggest_11 : decode cX9_biggest 11 = .ok (.getfield 19, 3) := by decide +kernel
theorem dX9_biggest_14 : decode cX9_biggest 14 = .ok (.if_icmp .ge 33, 3) := by decide +kernel
theorem dX9_biggest_17 : decode cX9_biggest 17 = .ok (.aload_n 0, 1) := by decide +kernel
theorem dX9_biggest_18 : decode cX9_biggest 18 = .ok (.getfield 15, 3) := by decide +kernel
theorem dX9_biggest_21 : decode cX9_biggest 21 = .ok (.iload_n 3, 1) := by decide +kernel
theorem dX9_biggest_22 : decode cX9_biggest 22 = .ok (.invokevirtual 57, 3) := by decide +kernel
theorem dX9_biggest_25 : decode cX9_biggest 25 = .ok (.iload_n 2, 1) := by decide +kernel
theorem dX9_biggest_26 : decode cX9_biggest 26 = .ok (.if_icmp .le 15, 3) := by decide +kernel
theorem dX9_biggest_29 : decode cX9_biggest 29 = .ok (.iload_n 3, 1) := by decide +kernel
theorem dX9_biggest_30 : decode cX9_biggest 30 = .ok (.istore_n 1, 1) := by decide +kernel
theorem dX9_biggest_31 : decode cX9_biggest 31 = .ok (.aload_n 0, 1) := by decide +kernel
theorem dX9_biggest_32 : decode cX9_biggest 32 = .ok (.getfield 15, 3) := by decide +kernel
theorem dX9_biggest_35 : decode cX9_biggest 35 = .ok (.getfield 60, 3) := by decide +kernel
theorem dX9_biggest_38 : decode cX9_biggest 38 = .ok (.iload_n 3, 1) := by decide +kernel
theorem dX9_biggest_39 : decode cX9_biggest 39 = .ok (.iaload, 1) := by decide +kernel
theorem dX9_biggest_40 : decode cX9_biggest 40 = .ok (.istore_n 2, 1) := by decide +kernel
theorem dX9_biggest_41 : decode cX9_biggest 41 = .ok (.iinc 3 1, 3) := by decide +kernel
theorem dX9_biggest_44 : decode cX9_biggest 44 = .ok (.goto (-38), 3) := by decide +kernel
theorem dX9_biggest_47 : decode cX9_biggest 47 = .ok (.iload_n 1, 1) := by decide +kernel
theorem dX9_biggest_48 : decode cX9_biggest 48 = .ok (.ireturn, 1) := by decide +kernel
theorem dX9_folkOfAll_0 : decode cX9_folkOfAll 0 = .ok (.iconst 0, 1) := by decide +kernel
theorem dX9_folkOfAll_1 : decode cX9_folkOfAll 1 = .ok (.istore_n 1, 1) := by decide +kernel
theorem dX9_folkOfAll_2 : decode cX9_folkOfAll 2 = .ok (.iconst 0, 1) := by decide +kernel
theorem dX9_folkOfAll_3 : decode cX9_folkOfAll 3 = .ok (.istore_n 2, 1) := by decide +kernel
theorem dX9_folkOfAll_4 : decode cX9_folkOfAll 4 = .ok (.iload_n 2, 1) := by decide +kernel
theorem dX9_folkOfAll_5 : decode cX9_folkOfAll 5 = .ok (.aload_n 0, 1) := by decide +kernel
theorem dX9_folkOfAll_6 : decode cX9_folkOfAll 6 = .ok (.getfield 9, 3) := by decide +kernel
theorem dX9_folkOfAll_9 : decode cX9_folkOfAll 9 = .ok (.getfield 19, 3) := by decide +kernel
theorem dX9_folkOfAll_12 : decode cX9_folkOfAll 12 = .ok (.if_icmp .ge 32, 3) := by decide +kernel
theorem dX9_folkOfAll_15 : decode cX9_folkOfAll 15 = .ok (.aload_n 0, 1) := by decide +kernel
theorem dX9_folkOfAll_16 : decode cX9_folkOfAll 16 = .ok (.getfield 15, 3) := by decide +kernel
theorem dX9_folkOfAll_19 : decode cX9_folkOfAll 19 = .ok (.iload_n 2, 1) := by decide +kernel
theorem dX9_folkOfAll_20 : decode cX9_folkOfAll 20 = .ok (.invokevirtual 25, 3) := by decide +kernel
theorem dX9_folkOfAll_23 : decode cX9_folkOfAll 23 = .ok (.ifCond .eq 15, 3) := by decide +kernel
theorem dX9_folkOfAll_26 : decode cX9_folkOfAll 26 = .ok (.iload_n 1, 1) := by decide +kernel
theorem dX9_folkOfAll_27 : decode cX9_folkOfAll 27 = .ok (.aload_n 0, 1) := by decide +kernel
theorem dX9_folkOfAll_28 : decode cX9_folkOfAll 28 = .ok (.getfield 15, 3) := by decide +kernel
theorem dX9_folkOfAll_31 : decode cX9_folkOfAll 31 = .ok (.getfield 60, 3) := by decide +kernel
theorem dX9_folkOfAll_34 : decode cX9_folkOfAll 34 = .ok (.iload_n 2, 1) := by decide +kernel
theorem dX9_folkOfAll_35 : decode cX9_folkOfAll 35 = .ok (.iaload, 1) := by decide +kernel
theorem dX9_folkOfAll_36 : decode cX9_folkOfAll 36 = .ok (.iadd, 1) := by decide +kernel
theorem dX9_folkOfAll_37 : decode cX9_folkOfAll 37 = .ok (.istore_n 1, 1) := by decide +kernel
theorem dX9_folkOfAll_38 : decode cX9_folkOfAll 38 = .ok (.iinc 2 1, 3) := by decide +kernel
theorem dX9_folkOfAll_41 : decode cX9_folkOfAll 41 = .ok (.goto (-37), 3) := by decide +kernel
theorem dX9_folkOfAll_44 : decode cX9_folkOfAll 44 = .ok (.iload_n 1, 1) := by decide +kernel
theorem dX9_folkOfAll_45 : decode cX9_folkOfAll 45 = .ok (.ireturn, 1) := by decide +kernel
theorem dX9_townsNamed_0 : decode cX9_townsNamed 0 = .ok (.iconst 0, 1) := by decide +kernel
theorem dX9_townsNamed_1 : decode cX9_townsNamed 1 = .ok (.istore_n 2, 1) := by decide +kernel
theorem dX9_townsNamed_2 : decode cX9_townsNamed 2 = .ok (.iconst 0, 1) := by decide +kernel
theorem dX9_townsNamed_3 : decode cX9_townsNamed 3 = .ok (.istore_n 3, 1) := by decide +kernel
theorem dX9_townsNamed_4 : decode cX9_townsNamed 4 = .ok (.iload_n 3, 1) := by decide +kernel
theorem dX9_townsNamed_5 : decode cX9_townsNamed 5 = .ok (.aload_n 0, 1) := by decide +kernel
theorem dX9_townsNamed_6 : decode cX9_townsNamed 6 = .ok (.getfield 9, 3) := by decide +kernel
theorem dX9_townsNamed_9 : decode cX9_townsNamed 9 = .ok (.getfield 19, 3) := by decide +kernel
theorem dX9_townsNamed_12 : decode cX9_townsNamed 12 = .ok (.if_icmp .ge 25, 3) := by decide +kernel
theorem dX9_townsNamed_15 : decode cX9_townsNamed 15 = .ok (.aload_n 0, 1) := by decide +kernel
theorem dX9_townsNamed_16 : decode cX9_townsNamed 16 = .ok (.getfield 15, 3) := by decide +kernel
theorem dX9_townsNamed_19 : decode cX9_townsNamed 19 = .ok (.getfield 63, 3) := by decide +kernel
theorem dX9_townsNamed_22 : decode cX9_townsNamed 22 = .ok (.iload_n 3, 1) := by decide +kernel
theorem dX9_townsNamed_23 : decode cX9_townsNamed 23 = .ok (.iaload, 1) := by decide +kernel
theorem dX9_townsNamed_24 : decode cX9_townsNamed 24 = .ok (.iload_n 1, 1) := by decide +kernel
theorem dX9_townsNamed_25 : decode cX9_townsNamed 25 = .ok (.if_icmp .ne 6, 3) := by decide +kernel
theorem dX9_townsNamed_28 : decode cX9_townsNamed 28 = .ok (.iinc 2 1, 3) := by decide +kernel
theorem dX9_townsNamed_31 : decode cX9_townsNamed 31 = .ok (.iinc 3 1, 3) := by decide +kernel
theorem dX9_townsNamed_34 : decode cX9_townsNamed 34 = .ok (.goto (-30), 3) := by decide +kernel
theorem dX9_townsNamed_37 : decode cX9_townsNamed 37 = .ok (.iload_n 2, 1) := by decide +kernel
theorem dX9_townsNamed_38 : decode cX9_townsNamed 38 = .ok (.ireturn, 1) := by decide +kernel
theorem dX10_init_0 : decode cX10_init 0 = .ok (.aload_n 0, 1) := by decide +kernel
theorem dX10_init_1 : decode cX10_init 1 = .ok (.invokespecial 3, 3) := by decide +kernel
theorem dX10_init_4 : decode cX10_init 4 = .ok (.aload_n 0, 1) := by decide +kernel
theorem dX10_init_5 : decode cX10_init 5 = .ok (.bipush 20, 2) := by decide +kernel
theorem dX10_init_7 : decode cX10_init 7 = .ok (.newarray .int, 2) := by decide +kernel
theorem dX10_init_9 : decode cX10_init 9 = .ok (.putfield 9, 3) := by decide +kernel
theorem dX10_init_12 : decode cX10_init 12 = .ok (.aload_n 0, 1) := by decide +kernel
theorem dX10_init_13 : decode cX10_init 13 = .ok (.new 15, 3) := by decide +kernel
theorem dX10_init_16 : decode cX10_init 16 = .ok (.dup, 1) := by decide +kernel
theorem dX10_init_17 : decode cX10_init 17 = .ok (.invokespecial 17, 3) := by decide +kernel
theorem dX10_init_20 : decode cX10_init 20 = .ok (.putfield 18, 3) := by decide +kernel
theorem dX10_init_23 : decode cX10_init 23 = .ok (.aload_n 0, 1) := by decide +kernel
theorem dX10_init_24 : decode cX10_init 24 = .ok (.aload_n 1, 1) := by decide +kernel
theorem dX10_init_25 : decode cX10_init 25 = .ok (.putfield 22, 3) := by decide +kernel
theorem dX10_init_28 : decode cX10_init 28 = .ok (.aload_n 0, 1) := by decide +kernel
theorem dX10_init_29 : decode cX10_init 29 = .ok (.aload_n 2, 1) := by decide +kernel
theorem dX10_init_30 : decode cX10_init 30 = .ok (.putfield 26, 3) := by decide +kernel
theorem dX10_init_33 : decode cX10_init 33 = .ok (.aload_n 0, 1) := by decide +kernel
theorem dX10_init_34 : decode cX10_init 34 = .ok (.aload_n 3, 1) := by decide +kernel
theorem dX10_init_35 : decode cX10_init 35 = .ok (.putfield 30, 3) := by decide +kernel
theorem dX10_init_38 : decode cX10_init 38 = .ok (.return_, 1) := by decide +kernel
theorem dX10_stopper_0 : decode cX10_stopper 0 = .ok (.aload_n 0, 1) := by decide +kernel
theorem dX10_stopper_1 : decode cX10_stopper 1 = .ok (.getfield 9, 3) := by decide +kernel
theorem dX10_stopper_4 : decode cX10_stopper 4 = .ok (.iconst 0, 1) := by decide +kernel
theorem dX10_stopper_5 : decode cX10_stopper 5 = .ok (.invokestatic 34, 3) := by decide +kernel
theorem dX10_stopper_8 : decode cX10_stopper 8 = .ok (.iconst 0, 1) := by decide +kernel
theorem dX10_stopper_9 : decode cX10_stopper 9 = .ok (.istore_n 1, 1) := by decide +kernel
theorem dX10_stopper_10 : decode cX10_stopper 10 = .ok (.iload_n 1, 1) := by decide +kernel
theorem dX10_stopper_11 : decode cX10_stopper 11 = .ok (.aload_n 0, 1) := by decide +kernel
theorem dX10_stopper_12 : decode cX10_stopper 12 = .ok (.getfield 22, 3) := by decide +kernel
theorem dX10_stopper_15 : decode cX10_stopper 15 = .ok (.getfield 40, 3) := by decide +kernel
theorem dX10_stopper_18 : decode cX10_stopper 18 = .ok (.if_icmp .ge 40, 3) := by decide +kernel
theorem dX10_stopper_21 : decode cX10_stopper 21 = .ok (.aload_n 0, 1) := by decide +kernel
theorem dX10_stopper_22 : decode cX10_stopper 22 = .ok (.getfield 30, 3) := by decide +kernel
theorem dX10_stopper_25 : decode cX10_stopper 25 = .ok (.iload_n 1, 1) := by decide +kernel
theorem dX10_stopper_26 : decode cX10_stopper 26 = .ok (.iconst 0, 1) := by decide +kernel
theorem dX10_stopper_27 : decode cX10_stopper 27 = .ok (.invokevirtual 46, 3) := by decide +kernel
theorem dX10_stopper_30 : decode cX10_stopper 30 = .ok (.istore_n 2, 1) := by decide +kernel
theorem dX10_stopper_31 : decode cX10_stopper 31 = .ok (.aload_n 0, 1) := by decide +kernel
theorem dX10_stopper_32 : decode cX10_stopper 32 = .ok (.getfield 22, 3) := by decide +kernel
theorem dX10_stopper_35 : decode cX10_stopper 35 = .ok (.iload_n 2, 1) := by decide +kernel
theorem dX10_stopper_36 : decode cX10_stopper 36 = .ok (.invokevirtual 52, 3) := by decide +kernel
theorem dX10_stopper_39 : decode cX10_stopper 39 = .ok (.ifCond .eq 13, 3) := by decide +kernel
theorem dX10_stopper_42 : decode cX10_stopper 42 = .ok (.aload_n 0, 1) := by decide +kernel
theorem dX10_stopper_43 : decode cX10_stopper 43 = .ok (.getfield 9, 3) := by decide +kernel
theorem dX10_stopper_46 : decode cX10_stopper 46 = .ok (.iload_n 2, 1) := by decide +kernel
theorem dX10_stopper_47 : decode cX10_stopper 47 = .ok (.dup2, 1) := by decide +kernel
theorem dX10_stopper_48 : decode cX10_stopper 48 = .ok (.iaload, 1) := by decide +kernel
theorem dX10_stopper_49 : decode cX10_stopper 49 = .ok (.iconst 1, 1) := by decide +kernel
theorem dX10_stopper_50 : decode cX10_stopper 50 = .ok (.iadd, 1) := by decide +kernel
theorem dX10_stopper_51 : decode cX10_stopper 51 = .ok (.iastore, 1) := by decide +kernel
theorem dX10_stopper_52 : decode cX10_stopper 52 = .ok (.iinc 1 1, 3) := by decide +kernel
theorem dX10_stopper_55 : decode cX10_stopper 55 = .ok (.goto (-45), 3) := by decide +kernel
theorem dX10_stopper_58 : decode cX10_stopper 58 = .ok (.iconst (-1), 1) := by decide +kernel
theorem dX10_stopper_59 : decode cX10_stopper 59 = .ok (.istore_n 1, 1) := by decide +kernel
theorem dX10_stopper_60 : decode cX10_stopper 60 = .ok (.iconst 0, 1) := by decide +kernel
theorem dX10_stopper_61 : decode cX10_stopper 61 = .ok (.istore_n 2, 1) := by decide +kernel
theorem dX10_stopper_62 : decode cX10_stopper 62 = .ok (.iconst 0, 1) := by decide +kernel
theorem dX10_stopper_63 : decode cX10_stopper 63 = .ok (.istore_n 3, 1) := by decide +kernel
theorem dX10_stopper_64 : decode cX10_stopper 64 = .ok (.iload_n 3, 1) := by decide +kernel
theorem dX10_stopper_65 : decode cX10_stopper 65 = .ok (.aload_n 0, 1) := by decide +kernel
theorem dX10_stopper_66 : decode cX10_stopper 66 = .ok (.getfield 22, 3) := by decide +kernel
theorem dX10_stopper_69 : decode cX10_stopper 69 = .ok (.getfield 56, 3) := by decide +kernel
theorem dX10_stopper_72 : decode cX10_stopper 72 = .ok (.if_icmp .ge 28, 3) := by decide +kernel
theorem dX10_stopper_75 : decode cX10_stopper 75 = .ok (.aload_n 0, 1) := by decide +kernel
theorem dX10_stopper_76 : decode cX10_stopper 76 = .ok (.getfield 9, 3) := by decide +kernel
theorem dX10_stopper_79 : decode cX10_stopper 79 = .ok (.iload_n 3, 1) := by decide +kernel
theorem dX10_stopper_80 : decode cX10_stopper 80 = .ok (.iaload, 1) := by decide +kernel
theorem dX10_stopper_81 : decode cX10_stopper 81 = .ok (.iload_n 2, 1) := by decide +kernel
theorem dX10_stopper_82 : decode cX10_stopper 82 = .ok (.if_icmp .le 12, 3) := by decide +kernel
theorem dX10_stopper_85 : decode cX10_stopper 85 = .ok (.iload_n 3, 1) := by decide +kernel
theorem dX10_stopper_86 : decode cX10_stopper 86 = .ok (.istore_n 1, 1) := by decide +kernel
theorem dX10_stopper_87 : decode cX10_stopper 87 = .ok (.aload_n 0, 1) := by decide +kernel
theorem dX10_stopper_88 : decode cX10_stopper 88 = .ok (.getfield 9, 3) := by decide +kernel
theorem dX10_stopper_91 : decode cX10_stopper 91 = .ok (.iload_n 3, 1) := by decide +kernel
theorem dX10_stopper_92 : decode cX10_stopper 92 = .ok (.iaload, 1) := by decide +kernel
theorem dX10_stopper_93 : decode cX10_stopper 93 = .ok (.istore_n 2, 1) := by decide +kernel
theorem dX10_stopper_94 : decode cX10_stopper 94 = .ok (.iinc 3 1, 3) := by decide +kernel
theorem dX10_stopper_97 : decode cX10_stopper 97 = .ok (.goto (-33), 3) := by decide +kernel
theorem dX10_stopper_100 : decode cX10_stopper 100 = .ok (.iload_n 1, 1) := by decide +kernel
theorem dX10_stopper_101 : decode cX10_stopper 101 = .ok (.ireturn, 1) := by decide +kernel
theorem dX10_soonestAt_0 : decode cX10_soonestAt 0 = .ok (.iconst 0, 1) := by decide +kernel
theorem dX10_soonestAt_1 : decode cX10_soonestAt 1 = .ok (.istore_n 3, 1) := by decide +kernel
theorem dX10_soonestAt_2 : decode cX10_soonestAt 2 = .ok (.iload_n 3, 1) := by decide +kernel
theorem dX10_soonestAt_3 : decode cX10_soonestAt 3 = .ok (.bipush 100, 2) := by decide +kernel
theorem dX10_soonestAt_5 : decode cX10_soonestAt 5 = .ok (.if_icmp .gt 24, 3) := by decide +kernel
theorem dX10_soonestAt_8 : decode cX10_soonestAt 8 = .ok (.aload_n 0, 1) := by decide +kernel
theorem dX10_soonestAt_9 : decode cX10_soonestAt 9 = .ok (.getfield 30, 3) := by decide +kernel
theorem dX10_soonestAt_12 : decode cX10_soonestAt 12 = .ok (.iload_n 1, 1) := by decide +kernel
theorem dX10_soonestAt_13 : decode cX10_soonestAt 13 = .ok (.iload_n 3, 1) := by decide +kernel
theorem dX10_soonestAt_14 : decode cX10_soonestAt 14 = .ok (.invokevirtual 46, 3) := by decide +kernel
theorem dX10_soonestAt_17 : decode cX10_soonestAt 17 = .ok (.iload_n 2, 1) := by decide +kernel
theorem dX10_soonestAt_18 : decode cX10_soonestAt 18 = .ok (.if_icmp .ne 5, 3) := by decide +kernel
theorem dX10_soonestAt_21 : decode cX10_soonestAt 21 = .ok (.iload_n 3, 1) := by decide +kernel
theorem dX10_soonestAt_22 : decode cX10_soonestAt 22 = .ok (.ireturn, 1) := by decide +kernel
theorem dX10_soonestAt_23 : decode cX10_soonestAt 23 = .ok (.iinc 3 1, 3) := by decide +kernel
theorem dX10_soonestAt_26 : decode cX10_soonestAt 26 = .ok (.goto (-24), 3) := by decide +kernel
theorem dX10_soonestAt_29 : decode cX10_soonestAt 29 = .ok (.iconst (-1), 1) := by decide +kernel
theorem dX10_soonestAt_30 : decode cX10_soonestAt 30 = .ok (.ireturn, 1) := by decide +kernel
theorem dX10_loadsFor_0 : decode cX10_loadsFor 0 = .ok (.aload_n 0, 1) := by decide +kernel
theorem dX10_loadsFor_1 : decode cX10_loadsFor 1 = .ok (.getfield 30, 3) := by decide +kernel
theorem dX10_loadsFor_4 : decode cX10_loadsFor 4 = .ok (.iconst 0, 1) := by decide +kernel
theorem dX10_loadsFor_5 : decode cX10_loadsFor 5 = .ok (.invokevirtual 59, 3) := by decide +kernel
theorem dX10_loadsFor_8 : decode cX10_loadsFor 8 = .ok (.istore_n 3, 1) := by decide +kernel
theorem dX10_loadsFor_9 : decode cX10_loadsFor 9 = .ok (.aload_n 0, 1) := by decide +kernel
theorem dX10_loadsFor_10 : decode cX10_loadsFor 10 = .ok (.getfield 18, 3) := by decide +kernel
theorem dX10_loadsFor_13 : decode cX10_loadsFor 13 = .ok (.invokevirtual 63, 3) := by decide +kernel
theorem dX10_loadsFor_16 : decode cX10_loadsFor 16 = .ok (.iconst 1, 1) := by decide +kernel
theorem dX10_loadsFor_17 : decode cX10_loadsFor 17 = .ok (.istore 4, 2) := by decide +kernel
theorem dX10_loadsFor_19 : decode cX10_loadsFor 19 = .ok (.iload 4, 2) := by decide +kernel
theorem dX10_loadsFor_21 : decode cX10_loadsFor 21 = .ok (.bipush 60, 2) := by decide +kernel
theorem dX10_loadsFor_23 : decode cX10_loadsFor 23 = .ok (.if_icmp .gt 33, 3) := by decide +kernel
theorem dX10_loadsFor_26 : decode cX10_loadsFor 26 = .ok (.aload_n 0, 1) := by decide +kernel
theorem dX10_loadsFor_27 : decode cX10_loadsFor 27 = .ok (.getfield 30, 3) := by decide +kernel
theorem dX10_loadsFor_30 : decode cX10_loadsFor 30 = .ok (.iload_n 1, 1) := by decide +kernel
theorem dX10_loadsFor_31 : decode cX10_loadsFor 31 = .ok (.iload_n 3, 1) := by decide +kernel
theorem dX10_loadsFor_32 : decode cX10_loadsFor 32 = .ok (.iload 4, 2) := by decide +kernel
theorem dX10_loadsFor_34 : decode cX10_loadsFor 34 = .ok (.invokevirtual 66, 3) := by decide +kernel
theorem dX10_loadsFor_37 : decode cX10_loadsFor 37 = .ok (.iload_n 2, 1) := by decide +kernel
theorem dX10_loadsFor_38 : decode cX10_loadsFor 38 = .ok (.if_icmp .ne 12, 3) := by decide +kernel
theorem dX10_loadsFor_41 : decode cX10_loadsFor 41 = .ok (.aload_n 0, 1) := by decide +kernel
theorem dX10_loadsFor_42 : decode cX10_loadsFor 42 = .ok (.getfield 18, 3) := by decide +kernel
theorem dX10_loadsFor_45 : decode cX10_loadsFor 45 = .ok (.iload 4, 2) := by decide +kernel
theorem dX10_loadsFor_47 : decode cX10_loadsFor 47 = .ok (.invokevirtual 70, 3) := by decide +kernel
theorem dX10_loadsFor_50 : decode cX10_loadsFor 50 = .ok (.iinc 4 1, 3) := by decide +kernel
theorem dX10_loadsFor_53 : decode cX10_loadsFor 53 = .ok (.goto (-34), 3) := by decide +kernel
theorem dX10_loadsFor_56 : decode cX10_loadsFor 56 = .ok (.aload_n 0, 1) := by decide +kernel
theorem dX10_loadsFor_57 : decode cX10_loadsFor 57 = .ok (.getfield 18, 3) := by decide +kernel
theorem dX10_loadsFor_60 : decode cX10_loadsFor 60 = .ok (.areturn, 1) := by decide +kernel
theorem dX10_needAt_0 : decode cX10_needAt 0 = .ok (.aload_n 0, 1) := by decide +kernel
theorem dX10_needAt_1 : decode cX10_needAt 1 = .ok (.getfield 30, 3) := by decide +kernel
theorem dX10_needAt_4 : decode cX10_needAt 4 = .ok (.iload_n 1, 1) := by decide +kernel
theorem dX10_needAt_5 : decode cX10_needAt 5 = .ok (.iload_n 2, 1) := by decide +kernel
theorem dX10_needAt_6 : decode cX10_needAt 6 = .ok (.aload_n 0, 1) := by decide +kernel
theorem dX10_needAt_7 : decode cX10_needAt 7 = .ok (.getfield 30, 3) := by decide +kernel
theorem dX10_needAt_10 : decode cX10_needAt 10 = .ok (.iconst 0, 1) := by decide +kernel
theorem dX10_needAt_11 : decode cX10_needAt 11 = .ok (.invokevirtual 59, 3) := by decide +kernel
theorem dX10_needAt_14 : decode cX10_needAt 14 = .ok (.invokevirtual 74, 3) := by decide +kernel
theorem dX10_needAt_17 : decode cX10_needAt 17 = .ok (.istore_n 3, 1) := by decide +kernel
theorem dX10_needAt_18 : decode cX10_needAt 18 = .ok (.aload_n 0, 1) := by decide +kernel
theorem dX10_needAt_19 : decode cX10_needAt 19 = .ok (.getfield 30, 3) := by decide +kernel
theorem dX10_needAt_22 : decode cX10_needAt 22 = .ok (.iload_n 1, 1) := by decide +kernel
theorem dX10_needAt_23 : decode cX10_needAt 23 = .ok (.aload_n 0, 1) := by decide +kernel
theorem dX10_needAt_24 : decode cX10_needAt 24 = .ok (.getfield 26, 3) := by decide +kernel
theorem dX10_needAt_27 : decode cX10_needAt 27 = .ok (.getfield 77, 3) := by decide +kernel
theorem dX10_needAt_30 : decode cX10_needAt 30 = .ok (.iload_n 1, 1) := by decide +kernel
theorem dX10_needAt_31 : decode cX10_needAt 31 = .ok (.iaload, 1) := by decide +kernel
theorem dX10_needAt_32 : decode cX10_needAt 32 = .ok (.invokevirtual 82, 3) := by decide +kernel
theorem dX10_needAt_35 : decode cX10_needAt 35 = .ok (.istore 4, 2) := by decide +kernel
theorem dX10_needAt_37 : decode cX10_needAt 37 = .ok (.iload_n 3, 1) := by decide +kernel
theorem dX10_needAt_38 : decode cX10_needAt 38 = .ok (.iload 4, 2) := by decide +kernel
theorem dX10_needAt_40 : decode cX10_needAt 40 = .ok (.iadd, 1) := by decide +kernel
theorem dX10_needAt_41 : decode cX10_needAt 41 = .ok (.bipush 60, 2) := by decide +kernel
theorem dX10_needAt_43 : decode cX10_needAt 43 = .ok (.if_icmp .ge 5, 3) := by decide +kernel
theorem dX10_needAt_46 : decode cX10_needAt 46 = .ok (.iconst 0, 1) := by decide +kernel
theorem dX10_needAt_47 : decode cX10_needAt 47 = .ok (.ireturn, 1) := by decide +kernel
theorem dX10_needAt_48 : decode cX10_needAt 48 = .ok (.iload 4, 2) := by decide +kernel
theorem dX10_needAt_50 : decode cX10_needAt 50 = .ok (.bipush 60, 2) := by decide +kernel
theorem dX10_needAt_52 : decode cX10_needAt 52 = .ok (.if_icmp .ge 15, 3) := by decide +kernel
theorem dX10_needAt_55 : decode cX10_needAt 55 = .ok (.iload_n 3, 1) := by decide +kernel
theorem dX10_needAt_56 : decode cX10_needAt 56 = .ok (.iload 4, 2) := by decide +kernel
theorem dX10_needAt_58 : decode cX10_needAt 58 = .ok (.iadd, 1) := by decide +kernel
theorem dX10_needAt_59 : decode cX10_needAt 59 = .ok (.bipush 60, 2) := by decide +kernel
theorem dX10_needAt_61 : decode cX10_needAt 61 = .ok (.isub, 1) := by decide +kernel
theorem dX10_needAt_62 : decode cX10_needAt 62 = .ok (.iconst 1, 1) := by decide +kernel
theorem dX10_needAt_63 : decode cX10_needAt 63 = .ok (.iadd, 1) := by decide +kernel
theorem dX10_needAt_64 : decode cX10_needAt 64 = .ok (.goto 4, 3) := by decide +kernel
theorem dX10_needAt_67 : decode cX10_needAt 67 = .ok (.iconst (-1), 1) := by decide +kernel
theorem dX10_needAt_68 : decode cX10_needAt 68 = .ok (.ireturn, 1) := by decide +kernel
theorem dX10_greatestNeedAt_0 : decode cX10_greatestNeedAt 0 = .ok (.iconst 0, 1) := by decide +kernel
theorem dX10_greatestNeedAt_1 : decode cX10_greatestNeedAt 1 = .ok (.istore_n 3, 1) := by decide +kernel
theorem dX10_greatestNeedAt_2 : decode cX10_greatestNeedAt 2 = .ok (.iconst 0, 1) := by decide +kernel
theorem dX10_greatestNeedAt_3 : decode cX10_greatestNeedAt 3 = .ok (.istore 4, 2) := by decide +kernel
theorem dX10_greatestNeedAt_5 : decode cX10_greatestNeedAt 5 = .ok (.iload 4, 2) := by decide +kernel
theorem dX10_greatestNeedAt_7 : decode cX10_greatestNeedAt 7 = .ok (.aload_n 0, 1) := by decide +kernel
theorem dX10_greatestNeedAt_8 : decode cX10_greatestNeedAt 8 = .ok (.getfield 22, 3) := by decide +kernel
theorem dX10_greatestNeedAt_11 : decode cX10_greatestNeedAt 11 = .ok (.getfield 40, 3) := by decide +kernel
theorem dX10_greatestNeedAt_14 : decode cX10_greatestNeedAt 14 = .ok (.if_icmp .ge 42, 3) := by decide +kernel
theorem dX10_greatestNeedAt_17 : decode cX10_greatestNeedAt 17 = .ok (.iload_n 1, 1) := by decide +kernel
theorem dX10_greatestNeedAt_18 : decode cX10_greatestNeedAt 18 = .ok (.iload 4, 2) := by decide +kernel
theorem dX10_greatestNeedAt_20 : decode cX10_greatestNeedAt 20 = .ok (.ishr, 1) := by decide +kernel
theorem dX10_greatestNeedAt_21 : decode cX10_greatestNeedAt 21 = .ok (.iconst 1, 1) := by decide +kernel
theorem dX10_greatestNeedAt_22 : decode cX10_greatestNeedAt 22 = .ok (.iand, 1) := by decide +kernel
theorem dX10_greatestNeedAt_23 : decode cX10_greatestNeedAt 23 = .ok (.ifCond .eq 27, 3) := by decide +kernel
theorem dX10_greatestNeedAt_26 : decode cX10_greatestNeedAt 26 = .ok (.aload_n 0, 1) := by decide +kernel
theorem dX10_greatestNeedAt_27 : decode cX10_greatestNeedAt 27 = .ok (.iload 4, 2) := by decide +kernel
theorem dX10_greatestNeedAt_29 : decode cX10_greatestNeedAt 29 = .ok (.iload_n 2, 1) := by decide +kernel
theorem dX10_greatestNeedAt_30 : decode cX10_greatestNeedAt 30 = .ok (.invokevirtual 85, 3) := by decide +kernel
theorem dX10_greatestNeedAt_33 : decode cX10_greatestNeedAt 33 = .ok (.istore 5, 2) := by decide +kernel
theorem dX10_greatestNeedAt_35 : decode cX10_greatestNeedAt 35 = .ok (.iload 5, 2) := by decide +kernel
theorem dX10_greatestNeedAt_37 : decode cX10_greatestNeedAt 37 = .ok (.iconst (-1), 1) := by decide +kernel
theorem dX10_greatestNeedAt_38 : decode cX10_greatestNeedAt 38 = .ok (.if_icmp .ne 5, 3) := by decide +kernel
theorem dX10_greatestNeedAt_41 : decode cX10_greatestNeedAt 41 = .ok (.iconst (-1), 1) := by decide +kernel
theorem dX10_greatestNeedAt_42 : decode cX10_greatestNeedAt 42 = .ok (.ireturn, 1) := by decide +kernel
theorem dX10_greatestNeedAt_43 : decode cX10_greatestNeedAt 43 = .ok (.iload_n 3, 1) := by decide +kernel
theorem dX10_greatestNeedAt_44 : decode cX10_greatestNeedAt 44 = .ok (.iload 5, 2) := by decide +kernel
theorem dX10_greatestNeedAt_46 : decode cX10_greatestNeedAt 46 = .ok (.invokestatic 88, 3) := by decide +kernel
theorem dX10_greatestNeedAt_49 : decode cX10_greatestNeedAt 49 = .ok (.istore_n 3, 1) := by decide +kernel
theorem dX10_greatestNeedAt_50 : decode cX10_greatestNeedAt 50 = .ok (.iinc 4 1, 3) := by decide +kernel
theorem dX10_greatestNeedAt_53 : decode cX10_greatestNeedAt 53 = .ok (.goto (-48), 3) := by decide +kernel
theorem dX10_greatestNeedAt_56 : decode cX10_greatestNeedAt 56 = .ok (.iload_n 3, 1) := by decide +kernel
theorem dX10_greatestNeedAt_57 : decode cX10_greatestNeedAt 57 = .ok (.ireturn, 1) := by decide +kernel
theorem dX10_gravelAhead_0 : decode cX10_gravelAhead 0 = .ok (.iconst 0, 1) := by decide +kernel
theorem dX10_gravelAhead_1 : decode cX10_gravelAhead 1 = .ok (.istore_n 3, 1) := by decide +kernel
theorem dX10_gravelAhead_2 : decode cX10_gravelAhead 2 = .ok (.iconst 0, 1) := by decide +kernel
theorem dX10_gravelAhead_3 : decode cX10_gravelAhead 3 = .ok (.istore 4, 2) := by decide +kernel
theorem dX10_gravelAhead_5 : decode cX10_gravelAhead 5 = .ok (.iload 4, 2) := by decide +kernel
theorem dX10_gravelAhead_7 : decode cX10_gravelAhead 7 = .ok (.iload_n 2, 1) := by decide +kernel
theorem dX10_gravelAhead_8 : decode cX10_gravelAhead 8 = .ok (.if_icmp .ge 43, 3) := by decide +kernel
theorem dX10_gravelAhead_11 : decode cX10_gravelAhead 11 = .ok (.iload 4, 2) := by decide +kernel
theorem dX10_gravelAhead_13 : decode cX10_gravelAhead 13 = .ok (.aload_n 0, 1) := by decide +kernel
theorem dX10_gravelAhead_14 : decode cX10_gravelAhead 14 = .ok (.getfield 22, 3) := by decide +kernel
theorem dX10_gravelAhead_17 : decode cX10_gravelAhead 17 = .ok (.getfield 56, 3) := by decide +kernel
theorem dX10_gravelAhead_20 : decode cX10_gravelAhead 20 = .ok (.if_icmp .ge 31, 3) := by decide +kernel
theorem dX10_gravelAhead_23 : decode cX10_gravelAhead 23 = .ok (.aload_n 0, 1) := by decide +kernel
theorem dX10_gravelAhead_24 : decode cX10_gravelAhead 24 = .ok (.iload_n 1, 1) := by decide +kernel
theorem dX10_gravelAhead_25 : decode cX10_gravelAhead 25 = .ok (.iload 4, 2) := by decide +kernel
theorem dX10_gravelAhead_27 : decode cX10_gravelAhead 27 = .ok (.invokevirtual 93, 3) := by decide +kernel
theorem dX10_gravelAhead_30 : decode cX10_gravelAhead 30 = .ok (.istore 5, 2) := by decide +kernel
theorem dX10_gravelAhead_32 : decode cX10_gravelAhead 32 = .ok (.iload 5, 2) := by decide +kernel
theorem dX10_gravelAhead_34 : decode cX10_gravelAhead 34 = .ok (.iconst (-1), 1) := by decide +kernel
theorem dX10_gravelAhead_35 : decode cX10_gravelAhead 35 = .ok (.if_icmp .ne 5, 3) := by decide +kernel
theorem dX10_gravelAhead_38 : decode cX10_gravelAhead 38 = .ok (.iconst (-1), 1) := by decide +kernel
theorem dX10_gravelAhead_39 : decode cX10_gravelAhead 39 = .ok (.ireturn, 1) := by decide +kernel
theorem dX10_gravelAhead_40 : decode cX10_gravelAhead 40 = .ok (.iload_n 3, 1) := by decide +kernel
theorem dX10_gravelAhead_41 : decode cX10_gravelAhead 41 = .ok (.iload 5, 2) := by decide +kernel
theorem dX10_gravelAhead_43 : decode cX10_gravelAhead 43 = .ok (.iadd, 1) := by decide +kernel
theorem dX10_gravelAhead_44 : decode cX10_gravelAhead 44 = .ok (.istore_n 3, 1) := by decide +kernel
theorem dX10_gravelAhead_45 : decode cX10_gravelAhead 45 = .ok (.iinc 4 1, 3) := by decide +kernel
theorem dX10_gravelAhead_48 : decode cX10_gravelAhead 48 = .ok (.goto (-43), 3) := by decide +kernel
theorem dX10_gravelAhead_51 : decode cX10_gravelAhead 51 = .ok (.iload_n 3, 1) := by decide +kernel
theorem dX10_gravelAhead_52 : decode cX10_gravelAhead 52 = .ok (.ireturn, 1) := by decide +kernel
theorem dX11_init_0 : decode cX11_init 0 = .ok (.aload_n 0, 1) := by decide +kernel
theorem dX11_init_1 : decode cX11_init 1 = .ok (.invokespecial 3, 3) := by decide +kernel
theorem dX11_init_4 : decode cX11_init 4 = .ok (.aload_n 0, 1) := by decide +kernel
theorem dX11_init_5 : decode cX11_init 5 = .ok (.new 9, 3) := by decide +kernel
theorem dX11_init_8 : decode cX11_init 8 = .ok (.dup, 1) := by decide +kernel
theorem dX11_init_9 : decode cX11_init 9 = .ok (.invokespecial 11, 3) := by decide +kernel
theorem dX11_init_12 : decode cX11_init 12 = .ok (.putfield 12, 3) := by decide +kernel
theorem dX11_init_15 : decode cX11_init 15 = .ok (.aload_n 0, 1) := by decide +kernel
theorem dX11_init_16 : decode cX11_init 16 = .ok (.new 16, 3) := by decide +kernel
theorem dX11_init_19 : decode cX11_init 19 = .ok (.dup, 1) := by decide +kernel
theorem dX11_init_20 : decode cX11_init 20 = .ok (.invokespecial 18, 3) := by decide +kernel
theorem dX11_init_23 : decode cX11_init 23 = .ok (.putfield 19, 3) := by decide +kernel
theorem dX11_init_26 : decode cX11_init 26 = .ok (.aload_n 0, 1) := by decide +kernel
theorem dX11_init_27 : decode cX11_init 27 = .ok (.new 23, 3) := by decide +kernel
theorem dX11_init_30 : decode cX11_init 30 = .ok (.dup, 1) := by decide +kernel
theorem dX11_init_31 : decode cX11_init 31 = .ok (.invokespecial 25, 3) := by decide +kernel
theorem dX11_init_34 : decode cX11_init 34 = .ok (.putfield 26, 3) := by decide +kernel
theorem dX11_init_37 : decode cX11_init 37 = .ok (.aload_n 0, 1) := by decide +kernel
theorem dX11_init_38 : decode cX11_init 38 = .ok (.new 30, 3) := by decide +kernel
theorem dX11_init_41 : decode cX11_init 41 = .ok (.dup, 1) := by decide +kernel
theorem dX11_init_42 : decode cX11_init 42 = .ok (.aload_n 0, 1) := by decide +kernel
theorem dX11_init_43 : decode cX11_init 43 = .ok (.getfield 19, 3) := by decide +kernel
theorem dX11_init_46 : decode cX11_init 46 = .ok (.aload_n 0, 1) := by decide +kernel
theorem dX11_init_47 : decode cX11_init 47 = .ok (.getfield 26, 3) := by decide +kernel
theorem dX11_init_50 : decode cX11_init 50 = .ok (.invokespecial 32, 3) := by decide +kernel
theorem dX11_init_53 : decode cX11_init 53 = .ok (.putfield 35, 3) := by decide +kernel
theorem dX11_init_56 : decode cX11_init 56 = .ok (.aload_n 0, 1) := by decide +kernel
theorem dX11_init_57 : decode cX11_init 57 = .ok (.new 39, 3) := by decide +kernel
theorem dX11_init_60 : decode cX11_init 60 = .ok (.dup, 1) := by decide +kernel
theorem dX11_init_61 : decode cX11_init 61 = .ok (.aload_n 0, 1) := by decide +kernel
theorem dX11_init_62 : decode cX11_init 62 = .ok (.getfield 19, 3) := by decide +kernel
theorem dX11_init_65 : decode cX11_init 65 = .ok (.aload_n 0, 1) := by decide +kernel
theorem dX11_init_66 : decode cX11_init 66 = .ok (.getfield 26, 3) := by decide +kernel
theorem dX11_init_69 : decode cX11_init 69 = .ok (.invokespecial 41, 3) := by decide +kernel
theorem dX11_init_72 : decode cX11_init 72 = .ok (.putfield 42, 3) := by decide +kernel
theorem dX11_init_75 : decode cX11_init 75 = .ok (.aload_n 0, 1) := by decide +kernel
theorem dX11_init_76 : decode cX11_init 76 = .ok (.new 46, 3) := by decide +kernel
theorem dX11_init_79 : decode cX11_init 79 = .ok (.dup, 1) := by decide +kernel
theorem dX11_init_80 : decode cX11_init 80 = .ok (.aload_n 0, 1) := by decide +kernel
theorem dX11_init_81 : decode cX11_init 81 = .ok (.getfield 19, 3) := by decide +kernel
theorem dX11_init_84 : decode cX11_init 84 = .ok (.aload_n 0, 1) := by decide +kernel
theorem dX11_init_85 : decode cX11_init 85 = .ok (.getfield 26, 3) := by decide +kernel
theorem dX11_init_88 : decode cX11_init 88 = .ok (.aload_n 0, 1) := by decide +kernel
theorem dX11_init_89 : decode cX11_init 89 = .ok (.getfield 35, 3) := by decide +kernel
theorem dX11_init_92 : decode cX11_init 92 = .ok (.invokespecial 48, 3) := by decide +kernel
theorem dX11_init_95 : decode cX11_init 95 = .ok (.putfield 51, 3) := by decide +kernel
theorem dX11_init_98 : decode cX11_init 98 = .ok (.aload_n 0, 1) := by decide +kernel
theorem dX11_init_99 : decode cX11_init 99 = .ok (.new 55, 3) := by decide +kernel
theorem dX11_init_102 : decode cX11_init 102 = .ok (.dup, 1) := by decide +kernel
theorem dX11_init_103 : decode cX11_init 103 = .ok (.aload_n 0, 1) := by decide +kernel
theorem dX11_init_104 : decode cX11_init 104 = .ok (.getfield 19, 3) := by decide +kernel
theorem dX11_init_107 : decode cX11_init 107 = .ok (.aload_n 0, 1) := by decide +kernel
theorem dX11_init_108 : decode cX11_init 108 = .ok (.getfield 35, 3) := by decide +kernel
theorem dX11_init_111 : decode cX11_init 111 = .ok (.invokespecial 57, 3) := by decide +kernel
theorem dX11_init_114 : decode cX11_init 114 = .ok (.putfield 60, 3) := by decide +kernel
theorem dX11_init_117 : decode cX11_init 117 = .ok (.aload_n 0, 1) := by decide +kernel
theorem dX11_init_118 : decode cX11_init 118 = .ok (.new 64, 3) := by decide +kernel
theorem dX11_init_121 : decode cX11_init 121 = .ok (.dup, 1) := by decide +kernel
theorem dX11_init_122 : decode cX11_init 122 = .ok (.bipush 6, 2) := by decide +kernel
theorem dX11_init_124 : decode cX11_init 124 = .ok (.invokespecial 66, 3) := by decide +kernel
theorem dX11_init_127 : decode cX11_init 127 = .ok (.putfield 69, 3) := by decide +kernel
theorem dX11_init_130 : decode cX11_init 130 = .ok (.aload_n 0, 1) := by decide +kernel
theorem dX11_init_131 : decode cX11_init 131 = .ok (.new 64, 3) := by decide +kernel
theorem dX11_init_134 : decode cX11_init 134 = .ok (.dup, 1) := by decide +kernel
theorem dX11_init_135 : decode cX11_init 135 = .ok (.bipush 15, 2) := by decide +kernel
theorem dX11_init_137 : decode cX11_init 137 = .ok (.invokespecial 66, 3) := by decide +kernel
theorem dX11_init_140 : decode cX11_init 140 = .ok (.putfield 73, 3) := by decide +kernel
theorem dX11_init_143 : decode cX11_init 143 = .ok (.aload_n 0, 1) := by decide +kernel
theorem dX11_init_144 : decode cX11_init 144 = .ok (.new 76, 3) := by decide +kernel
theorem dX11_init_147 : decode cX11_init 147 = .ok (.dup, 1) := by decide +kernel
theorem dX11_init_148 : decode cX11_init 148 = .ok (.aload_n 0, 1) := by decide +kernel
theorem dX11_init_149 : decode cX11_init 149 = .ok (.getfield 19, 3) := by decide +kernel
theorem dX11_init_152 : decode cX11_init 152 = .ok (.aload_n 0, 1) := by decide +kernel
theorem dX11_init_153 : decode cX11_init 153 = .ok (.getfield 26, 3) := by decide +kernel
theorem dX11_init_156 : decode cX11_init 156 = .ok (.aload_n 0, 1) := by decide +kernel
theorem dX11_init_157 : decode cX11_init 157 = .ok (.getfield 35, 3) := by decide +kernel
theorem dX11_init_160 : decode cX11_init 160 = .ok (.aload_n 0, 1) := by decide +kernel
theorem dX11_init_161 : decode cX11_init 161 = .ok (.getfield 69, 3) := by decide +kernel
theorem dX11_init_164 : decode cX11_init 164 = .ok (.invokespecial 78, 3) := by decide +kernel
theorem dX11_init_167 : decode cX11_init 167 = .ok (.putfield 81, 3) := by decide +kernel
theorem dX11_init_170 : decode cX11_init 170 = .ok (.aload_n 0, 1) := by decide +kernel
theorem dX11_init_171 : decode cX11_init 171 = .ok (.new 85, 3) := by decide +kernel
theorem dX11_init_174 : decode cX11_init 174 = .ok (.dup, 1) := by decide +kernel
theorem dX11_init_175 : decode cX11_init 175 = .ok (.invokespecial 87, 3) := by decide +kernel
theorem dX11_init_178 : decode cX11_init 178 = .ok (.putfield 88, 3) := by decide +kernel
theorem dX11_init_181 : decode cX11_init 181 = .ok (.aload_n 0, 1) := by decide +kernel
theorem dX11_init_182 : decode cX11_init 182 = .ok (.getfield 19, 3) := by decide +kernel
theorem dX11_init_185 : decode cX11_init 185 = .ok (.invokevirtual 92, 3) := by decide +kernel
theorem dX11_init_188 : decode cX11_init 188 = .ok (.aload_n 0, 1) := by decide +kernel
theorem dX11_init_189 : decode cX11_init 189 = .ok (.getfield 26, 3) := by decide +kernel
theorem dX11_init_192 : decode cX11_init 192 = .ok (.aload_n 0, 1) := by decide +kernel
theorem dX11_init_193 : decode cX11_init 193 = .ok (.getfield 19, 3) := by decide +kernel
theorem dX11_init_196 : decode cX11_init 196 = .ok (.invokevirtual 95, 3) := by decide +kernel
theorem dX11_init_199 : decode cX11_init 199 = .ok (.return_, 1) := by decide +kernel
theorem dX11_feed_0 : decode cX11_feed 0 = .ok (.iload_n 1, 1) := by decide +kernel
theorem dX11_feed_1 : decode cX11_feed 1 = .ok (.ifCond .lt 10, 3) := by decide +kernel
theorem dX11_feed_4 : decode cX11_feed 4 = .ok (.iload_n 1, 1) := by decide +kernel
theorem dX11_feed_5 : decode cX11_feed 5 = .ok (.sipush 255, 3) := by decide +kernel
theorem dX11_feed_8 : decode cX11_feed 8 = .ok (.if_icmp .le 6, 3) := by decide +kernel
theorem dX11_feed_11 : decode cX11_feed 11 = .ok (.ldc 99, 2) := by decide +kernel
theorem dX11_feed_13 : decode cX11_feed 13 = .ok (.ireturn, 1) := by decide +kernel
theorem dX11_feed_14 : decode cX11_feed 14 = .ok (.aload_n 0, 1) := by decide +kernel
theorem dX11_feed_15 : decode cX11_feed 15 = .ok (.getfield 12, 3) := by decide +kernel
theorem dX11_feed_18 : decode cX11_feed 18 = .ok (.getfield 100, 3) := by decide +kernel
theorem dX11_feed_21 : decode cX11_feed 21 = .ok (.sipush 240, 3) := by decide +kernel
theorem dX11_feed_24 : decode cX11_feed 24 = .ok (.if_icmp .lt 6, 3) := by decide +kernel
theorem dX11_feed_27 : decode cX11_feed 27 = .ok (.ldc 104, 2) := by decide +kernel
theorem dX11_feed_29 : decode cX11_feed 29 = .ok (.ireturn, 1) := by decide +kernel
theorem dX11_feed_30 : decode cX11_feed 30 = .ok (.aload_n 0, 1) := by decide +kernel
theorem dX11_feed_31 : decode cX11_feed 31 = .ok (.getfield 12, 3) := by decide +kernel
theorem dX11_feed_34 : decode cX11_feed 34 = .ok (.iload_n 1, 1) := by decide +kernel
theorem dX11_feed_35 : decode cX11_feed 35 = .ok (.invokevirtual 105, 3) := by decide +kernel
theorem dX11_feed_38 : decode cX11_feed 38 = .ok (.aload_n 0, 1) := by decide +kernel
theorem dX11_feed_39 : decode cX11_feed 39 = .ok (.getfield 12, 3) := by decide +kernel
theorem dX11_feed_42 : decode cX11_feed 42 = .ok (.getfield 100, 3) := by decide +kernel
theorem dX11_feed_45 : decode cX11_feed 45 = .ok (.ireturn, 1) := by decide +kernel
theorem dX11_road_0 : decode cX11_road 0 = .ok (.aload_n 0, 1) := by decide +kernel
theorem dX11_road_1 : decode cX11_road 1 = .ok (.getfield 12, 3) := by decide +kernel
theorem dX11_road_4 : decode cX11_road 4 = .ok (.invokevirtual 108, 3) := by decide +kernel
theorem dX11_road_7 : decode cX11_road 7 = .ok (.istore_n 1, 1) := by decide +kernel
theorem dX11_road_8 : decode cX11_road 8 = .ok (.aload_n 0, 1) := by decide +kernel
theorem dX11_road_9 : decode cX11_road 9 = .ok (.getfield 12, 3) := by decide +kernel
theorem dX11_road_12 : decode cX11_road 12 = .ok (.iconst 0, 1) := by decide +kernel
theorem dX11_road_13 : decode cX11_road 13 = .ok (.putfield 100, 3) := by decide +kernel
theorem dX11_road_16 : decode cX11_road 16 = .ok (.iload_n 1, 1) := by decide +kernel
theorem dX11_road_17 : decode cX11_road 17 = .ok (.ifCond .eq 8, 3) := by decide +kernel
theorem dX11_road_20 : decode cX11_road 20 = .ok (.bipush (-10), 2) := by decide +kernel
theorem dX11_road_22 : decode cX11_road 22 = .ok (.iload_n 1, 1) := by decide +kernel
theorem dX11_road_23 : decode cX11_road 23 = .ok (.isub, 1) := by decide +kernel
theorem dX11_road_24 : decode cX11_road 24 = .ok (.ireturn, 1) := by decide +kernel
theorem dX11_road_25 : decode cX11_road 25 = .ok (.aload_n 0, 1) := by decide +kernel
theorem dX11_road_26 : decode cX11_road 26 = .ok (.getfield 19, 3) := by decide +kernel
theorem dX11_road_29 : decode cX11_road 29 = .ok (.aload_n 0, 1) := by decide +kernel
theorem dX11_road_30 : decode cX11_road 30 = .ok (.getfield 12, 3) := by decide +kernel
theorem dX11_road_33 : decode cX11_road 33 = .ok (.getfield 112, 3) := by decide +kernel
theorem dX11_road_36 : decode cX11_road 36 = .ok (.invokevirtual 115, 3) := by decide +kernel
theorem dX11_road_39 : decode cX11_road 39 = .ok (.aload_n 0, 1) := by decide +kernel
theorem dX11_road_40 : decode cX11_road 40 = .ok (.getfield 26, 3) := by decide +kernel
theorem dX11_road_43 : decode cX11_road 43 = .ok (.aload_n 0, 1) := by decide +kernel
theorem dX11_road_44 : decode cX11_road 44 = .ok (.getfield 19, 3) := by decide +kernel
theorem dX11_road_47 : decode cX11_road 47 = .ok (.invokevirtual 95, 3) := by decide +kernel
theorem dX11_road_50 : decode cX11_road 50 = .ok (.aload_n 0, 1) := by decide +kernel
theorem dX11_road_51 : decode cX11_road 51 = .ok (.getfield 69, 3) := by decide +kernel
theorem dX11_road_54 : decode cX11_road 54 = .ok (.iconst 0, 1) := by decide +kernel
theorem dX11_road_55 : decode cX11_road 55 = .ok (.putfield 118, 3) := by decide +kernel
theorem dX11_road_58 : decode cX11_road 58 = .ok (.aload_n 0, 1) := by decide +kernel
theorem dX11_road_59 : decode cX11_road 59 = .ok (.getfield 73, 3) := by decide +kernel
theorem dX11_road_62 : decode cX11_road 62 = .ok (.iconst 0, 1) := by decide +kernel
theorem dX11_road_63 : decode cX11_road 63 = .ok (.putfield 118, 3) := by decide +kernel
theorem dX11_road_66 : decode cX11_road 66 = .ok (.aload_n 0, 1) := by decide +kernel
theorem dX11_road_67 : decode cX11_road 67 = .ok (.getfield 88, 3) := by decide +kernel
theorem dX11_road_70 : decode cX11_road 70 = .ok (.invokevirtual 121, 3) := by decide +kernel
theorem dX11_road_73 : decode cX11_road 73 = .ok (.aload_n 0, 1) := by decide +kernel
theorem dX11_road_74 : decode cX11_road 74 = .ok (.getfield 19, 3) := by decide +kernel
theorem dX11_road_77 : decode cX11_road 77 = .ok (.getfield 124, 3) := by decide +kernel
theorem dX11_road_80 : decode cX11_road 80 = .ok (.ireturn, 1) := by decide +kernel
theorem dX11_fault_0 : decode cX11_fault 0 = .ok (.aload_n 0, 1) := by decide +kernel
theorem dX11_fault_1 : decode cX11_fault 1 = .ok (.getfield 12, 3) := by decide +kernel
theorem dX11_fault_4 : decode cX11_fault 4 = .ok (.getfield 127, 3) := by decide +kernel
theorem dX11_fault_7 : decode cX11_fault 7 = .ok (.ireturn, 1) := by decide +kernel
theorem dX11_told_0 : decode cX11_told 0 = .ok (.iload_n 1, 1) := by decide +kernel
theorem dX11_told_1 : decode cX11_told 1 = .ok (.tableswitch 208 0 15 #[79, 87, 95, 103, 111, 120, 128, 136, 144, 152, 160, 168, 176, 184, 192, 200], 79) := by decide +kernel
theorem dX11_told_80 : decode cX11_told 80 = .ok (.aload_n 0, 1) := by decide +kernel
theorem dX11_told_81 : decode cX11_told 81 = .ok (.getfield 19, 3) := by decide +kernel
theorem dX11_told_84 : decode cX11_told 84 = .ok (.getfield 124, 3) := by decide +kernel
theorem dX11_told_87 : decode cX11_told 87 = .ok (.ireturn, 1) := by decide +kernel
theorem dX11_told_88 : decode cX11_told 88 = .ok (.aload_n 0, 1) := by decide +kernel
theorem dX11_told_89 : decode cX11_told 89 = .ok (.getfield 19, 3) := by decide +kernel
theorem dX11_told_92 : decode cX11_told 92 = .ok (.getfield 130, 3) := by decide +kernel
theorem dX11_told_95 : decode cX11_told 95 = .ok (.ireturn, 1) := by decide +kernel
theorem dX11_told_96 : decode cX11_told 96 = .ok (.aload_n 0, 1) := by decide +kernel
theorem dX11_told_97 : decode cX11_told 97 = .ok (.getfield 12, 3) := by decide +kernel
theorem dX11_told_100 : decode cX11_told 100 = .ok (.getfield 100, 3) := by decide +kernel
theorem dX11_told_103 : decode cX11_told 103 = .ok (.ireturn, 1) := by decide +kernel
theorem dX11_told_104 : decode cX11_told 104 = .ok (.aload_n 0, 1) := by decide +kernel
theorem dX11_told_105 : decode cX11_told 105 = .ok (.getfield 26, 3) := by decide +kernel
theorem dX11_told_108 : decode cX11_told 108 = .ok (.getfield 133, 3) := by decide +kernel
theorem dX11_told_111 : decode cX11_told 111 = .ok (.ireturn, 1) := by decide +kernel
theorem dX11_told_112 : decode cX11_told 112 = .ok (.aload_n 0, 1) := by decide +kernel
theorem dX11_told_113 : decode cX11_told 113 = .ok (.getfield 35, 3) := by decide +kernel
theorem dX11_told_116 : decode cX11_told 116 = .ok (.iconst 0, 1) := by decide +kernel
theorem dX11_told_117 : decode cX11_told 117 = .ok (.invokevirtual 136, 3) := by decide +kernel
theorem dX11_told_120 : decode cX11_told 120 = .ok (.ireturn, 1) := by decide +kernel
theorem dX11_told_121 : decode cX11_told 121 = .ok (.aload_n 0, 1) := by decide +kernel
theorem dX11_told_122 : decode cX11_told 122 = .ok (.getfield 26, 3) := by decide +kernel
theorem dX11_told_125 : decode cX11_told 125 = .ok (.getfield 140, 3) := by decide +kernel
theorem dX11_told_128 : decode cX11_told 128 = .ok (.ireturn, 1) := by decide +kernel
theorem dX11_told_129 : decode cX11_told 129 = .ok (.aload_n 0, 1) := by decide +kernel
theorem dX11_told_130 : decode cX11_told 130 = .ok (.getfield 42, 3) := by decide +kernel
theorem dX11_told_133 : decode cX11_told 133 = .ok (.invokevirtual 143, 3) := by decide +kernel
theorem dX11_told_136 : decode cX11_told 136 = .ok (.ireturn, 1) := by decide +kernel
theorem dX11_told_137 : decode cX11_told 137 = .ok (.aload_n 0, 1) := by decide +kernel
theorem dX11_told_138 : decode cX11_told 138 = .ok (.getfield 42, 3) := by decide +kernel
theorem dX11_told_141 : decode cX11_told 141 = .ok (.invokevirtual 146, 3) := by decide +kernel
theorem dX11_told_144 : decode cX11_told 144 = .ok (.ireturn, 1) := by decide +kernel
theorem dX11_told_145 : decode cX11_told 145 = .ok (.aload_n 0, 1) := by decide +kernel
theorem dX11_told_146 : decode cX11_told 146 = .ok (.getfield 51, 3) := by decide +kernel
theorem dX11_told_149 : decode cX11_told 149 = .ok (.invokevirtual 149, 3) := by decide +kernel
theorem dX11_told_152 : decode cX11_told 152 = .ok (.ireturn, 1) := by decide +kernel
theorem dX11_told_153 : decode cX11_told 153 = .ok (.aload_n 0, 1) := by decide +kernel
theorem dX11_told_154 : decode cX11_told 154 = .ok (.getfield 42, 3) := by decide +kernel
theorem dX11_told_157 : decode cX11_told 157 = .ok (.invokevirtual 152, 3) := by decide +kernel
theorem dX11_told_160 : decode cX11_told 160 = .ok (.ireturn, 1) := by decide +kernel
theorem dX11_told_161 : decode cX11_told 161 = .ok (.aload_n 0, 1) := by decide +kernel
theorem dX11_told_162 : decode cX11_told 162 = .ok (.getfield 42, 3) := by decide +kernel
theorem dX11_told_165 : decode cX11_told 165 = .ok (.invokevirtual 155, 3) := by decide +kernel
theorem dX11_told_168 : decode cX11_told 168 = .ok (.ireturn, 1) := by decide +kernel
theorem dX11_told_169 : decode cX11_told 169 = .ok (.aload_n 0, 1) := by decide +kernel
theorem dX11_told_170 : decode cX11_told 170 = .ok (.getfield 42, 3) := by decide +kernel
theorem dX11_told_173 : decode cX11_told 173 = .ok (.invokevirtual 158, 3) := by decide +kernel
theorem dX11_told_176 : decode cX11_told 176 = .ok (.ireturn, 1) := by decide +kernel
theorem dX11_told_177 : decode cX11_told 177 = .ok (.aload_n 0, 1) := by decide +kernel
theorem dX11_told_178 : decode cX11_told 178 = .ok (.getfield 42, 3) := by decide +kernel
theorem dX11_told_181 : decode cX11_told 181 = .ok (.invokevirtual 161, 3) := by decide +kernel
theorem dX11_told_184 : decode cX11_told 184 = .ok (.ireturn, 1) := by decide +kernel
theorem dX11_told_185 : decode cX11_told 185 = .ok (.aload_n 0, 1) := by decide +kernel
theorem dX11_told_186 : decode cX11_told 186 = .ok (.getfield 69, 3) := by decide +kernel
theorem dX11_told_189 : decode cX11_told 189 = .ok (.getfield 118, 3) := by decide +kernel
theorem dX11_told_192 : decode cX11_told 192 = .ok (.ireturn, 1) := by decide +kernel
theorem dX11_told_193 : decode cX11_told 193 = .ok (.aload_n 0, 1) := by decide +kernel
theorem dX11_told_194 : decode cX11_told 194 = .ok (.getfield 73, 3) := by decide +kernel
theorem dX11_told_197 : decode cX11_told 197 = .ok (.getfield 118, 3) := by decide +kernel
theorem dX11_told_200 : decode cX11_told 200 = .ok (.ireturn, 1) := by decide +kernel
theorem dX11_told_201 : decode cX11_told 201 = .ok (.aload_n 0, 1) := by decide +kernel
theorem dX11_told_202 : decode cX11_told 202 = .ok (.getfield 88, 3) := by decide +kernel
theorem dX11_told_205 : decode cX11_told 205 = .ok (.getfield 164, 3) := by decide +kernel
theorem dX11_told_208 : decode cX11_told 208 = .ok (.ireturn, 1) := by decide +kernel
theorem dX11_told_209 : decode cX11_told 209 = .ok (.ldc 99, 2) := by decide +kernel
theorem dX11_told_211 : decode cX11_told 211 = .ok (.ireturn, 1) := by decide +kernel
theorem dX11_cell_0 : decode cX11_cell 0 = .ok (.aload_n 0, 1) := by decide +kernel
theorem dX11_cell_1 : decode cX11_cell 1 = .ok (.getfield 19, 3) := by decide +kernel
theorem dX11_cell_4 : decode cX11_cell 4 = .ok (.iload_n 1, 1) := by decide +kernel
theorem dX11_cell_5 : decode cX11_cell 5 = .ok (.invokevirtual 167, 3) := by decide +kernel
theorem dX11_cell_8 : decode cX11_cell 8 = .ok (.ifCond .ne 6, 3) := by decide +kernel
theorem dX11_cell_11 : decode cX11_cell 11 = .ok (.ldc 171, 2) := by decide +kernel
theorem dX11_cell_13 : decode cX11_cell 13 = .ok (.ireturn, 1) := by decide +kernel
theorem dX11_cell_14 : decode cX11_cell 14 = .ok (.iload_n 2, 1) := by decide +kernel
theorem dX11_cell_15 : decode cX11_cell 15 = .ok (.tableswitch 82 0 4 #[33, 43, 53, 63, 73], 33) := by decide +kernel
theorem dX11_cell_48 : decode cX11_cell 48 = .ok (.aload_n 0, 1) := by decide +kernel
theorem dX11_cell_49 : decode cX11_cell 49 = .ok (.getfield 19, 3) := by decide +kernel
theorem dX11_cell_52 : decode cX11_cell 52 = .ok (.getfield 172, 3) := by decide +kernel
theorem dX11_cell_55 : decode cX11_cell 55 = .ok (.iload_n 1, 1) := by decide +kernel
theorem dX11_cell_56 : decode cX11_cell 56 = .ok (.iaload, 1) := by decide +kernel
theorem dX11_cell_57 : decode cX11_cell 57 = .ok (.ireturn, 1) := by decide +kernel
theorem dX11_cell_58 : decode cX11_cell 58 = .ok (.aload_n 0, 1) := by decide +kernel
theorem dX11_cell_59 : decode cX11_cell 59 = .ok (.getfield 26, 3) := by decide +kernel
theorem dX11_cell_62 : decode cX11_cell 62 = .ok (.getfield 176, 3) := by decide +kernel
theorem dX11_cell_65 : decode cX11_cell 65 = .ok (.iload_n 1, 1) := by decide +kernel
theorem dX11_cell_66 : decode cX11_cell 66 = .ok (.iaload, 1) := by decide +kernel
theorem dX11_cell_67 : decode cX11_cell 67 = .ok (.ireturn, 1) := by decide +kernel
theorem dX11_cell_68 : decode cX11_cell 68 = .ok (.aload_n 0, 1) := by decide +kernel
theorem dX11_cell_69 : decode cX11_cell 69 = .ok (.getfield 26, 3) := by decide +kernel
theorem dX11_cell_72 : decode cX11_cell 72 = .ok (.getfield 179, 3) := by decide +kernel
theorem dX11_cell_75 : decode cX11_cell 75 = .ok (.iload_n 1, 1) := by decide +kernel
theorem dX11_cell_76 : decode cX11_cell 76 = .ok (.iaload, 1) := by decide +kernel
theorem dX11_cell_77 : decode cX11_cell 77 = .ok (.ireturn, 1) := by decide +kernel
theorem dX11_cell_78 : decode cX11_cell 78 = .ok (.aload_n 0, 1) := by decide +kernel
theorem dX11_cell_79 : decode cX11_cell 79 = .ok (.getfield 26, 3) := by decide +kernel
theorem dX11_cell_82 : decode cX11_cell 82 = .ok (.getfield 182, 3) := by decide +kernel
theorem dX11_cell_85 : decode cX11_cell 85 = .ok (.iload_n 1, 1) := by decide +kernel
theorem dX11_cell_86 : decode cX11_cell 86 = .ok (.iaload, 1) := by decide +kernel
theorem dX11_cell_87 : decode cX11_cell 87 = .ok (.ireturn, 1) := by decide +kernel
theorem dX11_cell_88 : decode cX11_cell 88 = .ok (.aload_n 0, 1) := by decide +kernel
theorem dX11_cell_89 : decode cX11_cell 89 = .ok (.getfield 26, 3) := by decide +kernel
theorem dX11_cell_92 : decode cX11_cell 92 = .ok (.iload_n 1, 1) := by decide +kernel
theorem dX11_cell_93 : decode cX11_cell 93 = .ok (.invokevirtual 185, 3) := by decide +kernel
theorem dX11_cell_96 : decode cX11_cell 96 = .ok (.ireturn, 1) := by decide +kernel
theorem dX11_cell_97 : decode cX11_cell 97 = .ok (.ldc 99, 2) := by decide +kernel
theorem dX11_cell_99 : decode cX11_cell 99 = .ok (.ireturn, 1) := by decide +kernel
theorem dX11_cart_0 : decode cX11_cart 0 = .ok (.aload_n 0, 1) := by decide +kernel
theorem dX11_cart_1 : decode cX11_cart 1 = .ok (.getfield 19, 3) := by decide +kernel
theorem dX11_cart_4 : decode cX11_cart 4 = .ok (.iload_n 1, 1) := by decide +kernel
theorem dX11_cart_5 : decode cX11_cart 5 = .ok (.invokevirtual 188, 3) := by decide +kernel
theorem dX11_cart_8 : decode cX11_cart 8 = .ok (.ifCond .ne 6, 3) := by decide +kernel
theorem dX11_cart_11 : decode cX11_cart 11 = .ok (.ldc 171, 2) := by decide +kernel
theorem dX11_cart_13 : decode cX11_cart 13 = .ok (.ireturn, 1) := by decide +kernel
theorem dX11_cart_14 : decode cX11_cart 14 = .ok (.iload_n 2, 1) := by decide +kernel
theorem dX11_cart_15 : decode cX11_cart 15 = .ok (.tableswitch 96 0 5 #[37, 47, 57, 67, 77, 87], 37) := by decide +kernel
theorem dX11_cart_52 : decode cX11_cart 52 = .ok (.aload_n 0, 1) := by decide +kernel
theorem dX11_cart_53 : decode cX11_cart 53 = .ok (.getfield 19, 3) := by decide +kernel
theorem dX11_cart_56 : decode cX11_cart 56 = .ok (.getfield 191, 3) := by decide +kernel
theorem dX11_cart_59 : decode cX11_cart 59 = .ok (.iload_n 1, 1) := by decide +kernel
theorem dX11_cart_60 : decode cX11_cart 60 = .ok (.iaload, 1) := by decide +kernel
theorem dX11_cart_61 : decode cX11_cart 61 = .ok (.ireturn, 1) := by decide +kernel
theorem dX11_cart_62 : decode cX11_cart 62 = .ok (.aload_n 0, 1) := by decide +kernel
theorem dX11_cart_63 : decode cX11_cart 63 = .ok (.getfield 26, 3) := by decide +kernel
theorem dX11_cart_66 : decode cX11_cart 66 = .ok (.getfield 194, 3) := by decide +kernel
theorem dX11_cart_69 : decode cX11_cart 69 = .ok (.iload_n 1, 1) := by decide +kernel
theorem dX11_cart_70 : decode cX11_cart 70 = .ok (.iaload, 1) := by decide +kernel
theorem dX11_cart_71 : decode cX11_cart 71 = .ok (.ireturn, 1) := by decide +kernel
theorem dX11_cart_72 : decode cX11_cart 72 = .ok (.aload_n 0, 1) := by decide +kernel
theorem dX11_cart_73 : decode cX11_cart 73 = .ok (.getfield 19, 3) := by decide +kernel
theorem dX11_cart_76 : decode cX11_cart 76 = .ok (.getfield 197, 3) := by decide +kernel
theorem dX11_cart_79 : decode cX11_cart 79 = .ok (.iload_n 1, 1) := by decide +kernel
theorem dX11_cart_80 : decode cX11_cart 80 = .ok (.iaload, 1) := by decide +kernel
theorem dX11_cart_81 : decode cX11_cart 81 = .ok (.ireturn, 1) := by decide +kernel
theorem dX11_cart_82 : decode cX11_cart 82 = .ok (.aload_n 0, 1) := by decide +kernel
theorem dX11_cart_83 : decode cX11_cart 83 = .ok (.getfield 26, 3) := by decide +kernel
theorem dX11_cart_86 : decode cX11_cart 86 = .ok (.getfield 200, 3) := by decide +kernel
theorem dX11_cart_89 : decode cX11_cart 89 = .ok (.iload_n 1, 1) := by decide +kernel
theorem dX11_cart_90 : decode cX11_cart 90 = .ok (.iaload, 1) := by decide +kernel
theorem dX11_cart_91 : decode cX11_cart 91 = .ok (.ireturn, 1) := by decide +kernel
theorem dX11_cart_92 : decode cX11_cart 92 = .ok (.aload_n 0, 1) := by decide +kernel
theorem dX11_cart_93 : decode cX11_cart 93 = .ok (.getfield 26, 3) := by decide +kernel
theorem dX11_cart_96 : decode cX11_cart 96 = .ok (.getfield 203, 3) := by decide +kernel
theorem dX11_cart_99 : decode cX11_cart 99 = .ok (.iload_n 1, 1) := by decide +kernel
theorem dX11_cart_100 : decode cX11_cart 100 = .ok (.iaload, 1) := by decide +kernel
theorem dX11_cart_101 : decode cX11_cart 101 = .ok (.ireturn, 1) := by decide +kernel
theorem dX11_cart_102 : decode cX11_cart 102 = .ok (.aload_n 0, 1) := by decide +kernel
theorem dX11_cart_103 : decode cX11_cart 103 = .ok (.getfield 42, 3) := by decide +kernel
theorem dX11_cart_106 : decode cX11_cart 106 = .ok (.iload_n 1, 1) := by decide +kernel
theorem dX11_cart_107 : decode cX11_cart 107 = .ok (.invokevirtual 206, 3) := by decide +kernel
theorem dX11_cart_110 : decode cX11_cart 110 = .ok (.ireturn, 1) := by decide +kernel
theorem dX11_cart_111 : decode cX11_cart 111 = .ok (.ldc 99, 2) := by decide +kernel
theorem dX11_cart_113 : decode cX11_cart 113 = .ok (.ireturn, 1) := by decide +kernel
theorem dX11_sink_0 : decode cX11_sink 0 = .ok (.aload_n 0, 1) := by decide +kernel
theorem dX11_sink_1 : decode cX11_sink 1 = .ok (.getfield 19, 3) := by decide +kernel
theorem dX11_sink_4 : decode cX11_sink 4 = .ok (.iload_n 1, 1) := by decide +kernel
theorem dX11_sink_5 : decode cX11_sink 5 = .ok (.invokevirtual 188, 3) := by decide +kernel
theorem dX11_sink_8 : decode cX11_sink 8 = .ok (.ifCond .eq 14, 3) := by decide +kernel
theorem dX11_sink_11 : decode cX11_sink 11 = .ok (.aload_n 0, 1) := by decide +kernel
theorem dX11_sink_12 : decode cX11_sink 12 = .ok (.getfield 19, 3) := by decide +kernel
theorem dX11_sink_15 : decode cX11_sink 15 = .ok (.iload_n 2, 1) := by decide +kernel
theorem dX11_sink_16 : decode cX11_sink 16 = .ok (.invokevirtual 167, 3) := by decide +kernel
theorem dX11_sink_19 : decode cX11_sink 19 = .ok (.ifCond .ne 6, 3) := by decide +kernel
theorem dX11_sink_22 : decode cX11_sink 22 = .ok (.ldc 171, 2) := by decide +kernel
theorem dX11_sink_24 : decode cX11_sink 24 = .ok (.ireturn, 1) := by decide +kernel
theorem dX11_sink_25 : decode cX11_sink 25 = .ok (.aload_n 0, 1) := by decide +kernel
theorem dX11_sink_26 : decode cX11_sink 26 = .ok (.getfield 35, 3) := by decide +kernel
theorem dX11_sink_29 : decode cX11_sink 29 = .ok (.iload_n 1, 1) := by decide +kernel
theorem dX11_sink_30 : decode cX11_sink 30 = .ok (.iload_n 2, 1) := by decide +kernel
theorem dX11_sink_31 : decode cX11_sink 31 = .ok (.aload_n 0, 1) := by decide +kernel
theorem dX11_sink_32 : decode cX11_sink 32 = .ok (.getfield 35, 3) := by decide +kernel
theorem dX11_sink_35 : decode cX11_sink 35 = .ok (.iconst 0, 1) := by decide +kernel
theorem dX11_sink_36 : decode cX11_sink 36 = .ok (.invokevirtual 136, 3) := by decide +kernel
theorem dX11_sink_39 : decode cX11_sink 39 = .ok (.aload_n 0, 1) := by decide +kernel
theorem dX11_sink_40 : decode cX11_sink 40 = .ok (.getfield 26, 3) := by decide +kernel
theorem dX11_sink_43 : decode cX11_sink 43 = .ok (.getfield 194, 3) := by decide +kernel
theorem dX11_sink_46 : decode cX11_sink 46 = .ok (.iload_n 1, 1) := by decide +kernel
theorem dX11_sink_47 : decode cX11_sink 47 = .ok (.iaload, 1) := by decide +kernel
theorem dX11_sink_48 : decode cX11_sink 48 = .ok (.invokevirtual 209, 3) := by decide +kernel
theorem dX11_sink_51 : decode cX11_sink 51 = .ok (.ireturn, 1) := by decide +kernel
theorem dX11_drive_0 : decode cX11_drive 0 = .ok (.aload_n 0, 1) := by decide +kernel
theorem dX11_drive_1 : decode cX11_drive 1 = .ok (.getfield 19, 3) := by decide +kernel
theorem dX11_drive_4 : decode cX11_drive 4 = .ok (.iload_n 1, 1) := by decide +kernel
theorem dX11_drive_5 : decode cX11_drive 5 = .ok (.invokevirtual 188, 3) := by decide +kernel
theorem dX11_drive_8 : decode cX11_drive 8 = .ok (.ifCond .ne 6, 3) := by decide +kernel
theorem dX11_drive_11 : decode cX11_drive 11 = .ok (.ldc 171, 2) := by decide +kernel
theorem dX11_drive_13 : decode cX11_drive 13 = .ok (.ireturn, 1) := by decide +kernel
theorem dX11_drive_14 : decode cX11_drive 14 = .ok (.aload_n 0, 1) := by decide +kernel
theorem dX11_drive_15 : decode cX11_drive 15 = .ok (.getfield 26, 3) := by decide +kernel
theorem dX11_drive_18 : decode cX11_drive 18 = .ok (.iload_n 1, 1) := by decide +kernel
theorem dX11_drive_19 : decode cX11_drive 19 = .ok (.invokevirtual 213, 3) := by decide +kernel
theorem dX11_drive_22 : decode cX11_drive 22 = .ok (.ifCond .eq 6, 3) := by decide +kernel
theorem dX11_drive_25 : decode cX11_drive 25 = .ok (.ldc 216, 2) := by decide +kernel
theorem dX11_drive_27 : decode cX11_drive 27 = .ok (.ireturn, 1) := by decide +kernel
theorem dX11_drive_28 : decode cX11_drive 28 = .ok (.aload_n 0, 1) := by decide +kernel
theorem dX11_drive_29 : decode cX11_drive 29 = .ok (.getfield 88, 3) := by decide +kernel
theorem dX11_drive_32 : decode cX11_drive 32 = .ok (.aload_n 0, 1) := by decide +kernel
theorem dX11_drive_33 : decode cX11_drive 33 = .ok (.getfield 26, 3) := by decide +kernel
theorem dX11_drive_36 : decode cX11_drive 36 = .ok (.invokevirtual 217, 3) := by decide +kernel
theorem dX11_drive_39 : decode cX11_drive 39 = .ok (.aload_n 0, 1) := by decide +kernel
theorem dX11_drive_40 : decode cX11_drive 40 = .ok (.getfield 35, 3) := by decide +kernel
theorem dX11_drive_43 : decode cX11_drive 43 = .ok (.iload_n 1, 1) := by decide +kernel
theorem dX11_drive_44 : decode cX11_drive 44 = .ok (.invokevirtual 221, 3) := by decide +kernel
theorem dX11_drive_47 : decode cX11_drive 47 = .ok (.ireturn, 1) := by decide +kernel
theorem dX11_pull_0 : decode cX11_pull 0 = .ok (.aload_n 0, 1) := by decide +kernel
theorem dX11_pull_1 : decode cX11_pull 1 = .ok (.getfield 19, 3) := by decide +kernel
theorem dX11_pull_4 : decode cX11_pull 4 = .ok (.iload_n 1, 1) := by decide +kernel
theorem dX11_pull_5 : decode cX11_pull 5 = .ok (.invokevirtual 188, 3) := by decide +kernel
theorem dX11_pull_8 : decode cX11_pull 8 = .ok (.ifCond .ne 6, 3) := by decide +kernel
theorem dX11_pull_11 : decode cX11_pull 11 = .ok (.ldc 171, 2) := by decide +kernel
theorem dX11_pull_13 : decode cX11_pull 13 = .ok (.ireturn, 1) := by decide +kernel
theorem dX11_pull_14 : decode cX11_pull 14 = .ok (.aload_n 0, 1) := by decide +kernel
theorem dX11_pull_15 : decode cX11_pull 15 = .ok (.getfield 26, 3) := by decide +kernel
theorem dX11_pull_18 : decode cX11_pull 18 = .ok (.iload_n 1, 1) := by decide +kernel
theorem dX11_pull_19 : decode cX11_pull 19 = .ok (.invokevirtual 213, 3) := by decide +kernel
theorem dX11_pull_22 : decode cX11_pull 22 = .ok (.ifCond .ne 6, 3) := by decide +kernel
theorem dX11_pull_25 : decode cX11_pull 25 = .ok (.ldc 216, 2) := by decide +kernel
theorem dX11_pull_27 : decode cX11_pull 27 = .ok (.ireturn, 1) := by decide +kernel
theorem dX11_pull_28 : decode cX11_pull 28 = .ok (.aload_n 0, 1) := by decide +kernel
theorem dX11_pull_29 : decode cX11_pull 29 = .ok (.getfield 88, 3) := by decide +kernel
theorem dX11_pull_32 : decode cX11_pull 32 = .ok (.aload_n 0, 1) := by decide +kernel
theorem dX11_pull_33 : decode cX11_pull 33 = .ok (.getfield 26, 3) := by decide +kernel
theorem dX11_pull_36 : decode cX11_pull 36 = .ok (.invokevirtual 217, 3) := by decide +kernel
theorem dX11_pull_39 : decode cX11_pull 39 = .ok (.aload_n 0, 1) := by decide +kernel
theorem dX11_pull_40 : decode cX11_pull 40 = .ok (.getfield 35, 3) := by decide +kernel
theorem dX11_pull_43 : decode cX11_pull 43 = .ok (.iload_n 1, 1) := by decide +kernel
theorem dX11_pull_44 : decode cX11_pull 44 = .ok (.invokevirtual 224, 3) := by decide +kernel
theorem dX11_pull_47 : decode cX11_pull 47 = .ok (.ireturn, 1) := by decide +kernel
theorem dX11_day_0 : decode cX11_day 0 = .ok (.aload_n 0, 1) := by decide +kernel
theorem dX11_day_1 : decode cX11_day 1 = .ok (.iload_n 1, 1) := by decide +kernel
theorem dX11_day_2 : decode cX11_day 2 = .ok (.invokevirtual 227, 3) := by decide +kernel
theorem dX11_day_5 : decode cX11_day 5 = .ok (.istore_n 2, 1) := by decide +kernel
theorem dX11_day_6 : decode cX11_day 6 = .ok (.iload_n 2, 1) := by decide +kernel
theorem dX11_day_7 : decode cX11_day 7 = .ok (.ifCond .eq 5, 3) := by decide +kernel
theorem dX11_day_10 : decode cX11_day 10 = .ok (.iload_n 2, 1) := by decide +kernel
theorem dX11_day_11 : decode cX11_day 11 = .ok (.ireturn, 1) := by decide +kernel
theorem dX11_day_12 : decode cX11_day 12 = .ok (.aload_n 0, 1) := by decide +kernel
theorem dX11_day_13 : decode cX11_day 13 = .ok (.getfield 88, 3) := by decide +kernel
theorem dX11_day_16 : decode cX11_day 16 = .ok (.aload_n 0, 1) := by decide +kernel
theorem dX11_day_17 : decode cX11_day 17 = .ok (.getfield 26, 3) := by decide +kernel
theorem dX11_day_20 : decode cX11_day 20 = .ok (.invokevirtual 217, 3) := by decide +kernel
theorem dX11_day_23 : decode cX11_day 23 = .ok (.iconst 0, 1) := by decide +kernel
theorem dX11_day_24 : decode cX11_day 24 = .ok (.istore_n 3, 1) := by decide +kernel
theorem dX11_day_25 : decode cX11_day 25 = .ok (.iload_n 3, 1) := by decide +kernel
theorem dX11_day_26 : decode cX11_day 26 = .ok (.iload_n 1, 1) := by decide +kernel
theorem dX11_day_27 : decode cX11_day 27 = .ok (.if_icmp .ge 16, 3) := by decide +kernel
theorem dX11_day_30 : decode cX11_day 30 = .ok (.aload_n 0, 1) := by decide +kernel
theorem dX11_day_31 : decode cX11_day 31 = .ok (.getfield 35, 3) := by decide +kernel
theorem dX11_day_34 : decode cX11_day 34 = .ok (.invokevirtual 230, 3) := by decide +kernel
theorem dX11_day_37 : decode cX11_day 37 = .ok (.iinc 3 1, 3) := by decide +kernel
theorem dX11_day_40 : decode cX11_day 40 = .ok (.goto (-15), 3) := by decide +kernel
theorem dX11_day_43 : decode cX11_day 43 = .ok (.aload_n 0, 1) := by decide +kernel
theorem dX11_day_44 : decode cX11_day 44 = .ok (.getfield 26, 3) := by decide +kernel
theorem dX11_day_47 : decode cX11_day 47 = .ok (.getfield 133, 3) := by decide +kernel
theorem dX11_day_50 : decode cX11_day 50 = .ok (.ireturn, 1) := by decide +kernel
theorem dX11_lay_0 : decode cX11_lay 0 = .ok (.aload_n 0, 1) := by decide +kernel
theorem dX11_lay_1 : decode cX11_lay 1 = .ok (.getfield 19, 3) := by decide +kernel
theorem dX11_lay_4 : decode cX11_lay 4 = .ok (.iload_n 1, 1) := by decide +kernel
theorem dX11_lay_5 : decode cX11_lay 5 = .ok (.invokevirtual 167, 3) := by decide +kernel
theorem dX11_lay_8 : decode cX11_lay 8 = .ok (.ifCond .ne 6, 3) := by decide +kernel
theorem dX11_lay_11 : decode cX11_lay 11 = .ok (.ldc 171, 2) := by decide +kernel
theorem dX11_lay_13 : decode cX11_lay 13 = .ok (.ireturn, 1) := by decide +kernel
theorem dX11_lay_14 : decode cX11_lay 14 = .ok (.iload_n 2, 1) := by decide +kernel
theorem dX11_lay_15 : decode cX11_lay 15 = .ok (.bipush (-60), 2) := by decide +kernel
theorem dX11_lay_17 : decode cX11_lay 17 = .ok (.if_icmp .lt 9, 3) := by decide +kernel
theorem dX11_lay_20 : decode cX11_lay 20 = .ok (.iload_n 2, 1) := by decide +kernel
theorem dX11_lay_21 : decode cX11_lay 21 = .ok (.bipush 60, 2) := by decide +kernel
theorem dX11_lay_23 : decode cX11_lay 23 = .ok (.if_icmp .le 6, 3) := by decide +kernel
theorem dX11_lay_26 : decode cX11_lay 26 = .ok (.ldc 99, 2) := by decide +kernel
theorem dX11_lay_28 : decode cX11_lay 28 = .ok (.ireturn, 1) := by decide +kernel
theorem dX11_lay_29 : decode cX11_lay 29 = .ok (.aload_n 0, 1) := by decide +kernel
theorem dX11_lay_30 : decode cX11_lay 30 = .ok (.getfield 88, 3) := by decide +kernel
theorem dX11_lay_33 : decode cX11_lay 33 = .ok (.aload_n 0, 1) := by decide +kernel
theorem dX11_lay_34 : decode cX11_lay 34 = .ok (.getfield 26, 3) := by decide +kernel
theorem dX11_lay_37 : decode cX11_lay 37 = .ok (.invokevirtual 217, 3) := by decide +kernel
theorem dX11_lay_40 : decode cX11_lay 40 = .ok (.aload_n 0, 1) := by decide +kernel
theorem dX11_lay_41 : decode cX11_lay 41 = .ok (.getfield 35, 3) := by decide +kernel
theorem dX11_lay_44 : decode cX11_lay 44 = .ok (.iload_n 1, 1) := by decide +kernel
theorem dX11_lay_45 : decode cX11_lay 45 = .ok (.iload_n 2, 1) := by decide +kernel
theorem dX11_lay_46 : decode cX11_lay 46 = .ok (.invokevirtual 233, 3) := by decide +kernel
theorem dX11_lay_49 : decode cX11_lay 49 = .ok (.aload_n 0, 1) := by decide +kernel
theorem dX11_lay_50 : decode cX11_lay 50 = .ok (.getfield 26, 3) := by decide +kernel
theorem dX11_lay_53 : decode cX11_lay 53 = .ok (.getfield 176, 3) := by decide +kernel
theorem dX11_lay_56 : decode cX11_lay 56 = .ok (.iload_n 1, 1) := by decide +kernel
theorem dX11_lay_57 : decode cX11_lay 57 = .ok (.iaload, 1) := by decide +kernel
theorem dX11_lay_58 : decode cX11_lay 58 = .ok (.ireturn, 1) := by decide +kernel
theorem dX11_load_0 : decode cX11_load 0 = .ok (.aload_n 0, 1) := by decide +kernel
theorem dX11_load_1 : decode cX11_load 1 = .ok (.getfield 19, 3) := by decide +kernel
theorem dX11_load_4 : decode cX11_load 4 = .ok (.iload_n 1, 1) := by decide +kernel
theorem dX11_load_5 : decode cX11_load 5 = .ok (.invokevirtual 188, 3) := by decide +kernel
theorem dX11_load_8 : decode cX11_load 8 = .ok (.ifCond .ne 6, 3) := by decide +kernel
theorem dX11_load_11 : decode cX11_load 11 = .ok (.ldc 171, 2) := by decide +kernel
theorem dX11_load_13 : decode cX11_load 13 = .ok (.ireturn, 1) := by decide +kernel
theorem dX11_load_14 : decode cX11_load 14 = .ok (.iload_n 2, 1) := by decide +kernel
theorem dX11_load_15 : decode cX11_load 15 = .ok (.iconst 1, 1) := by decide +kernel
theorem dX11_load_16 : decode cX11_load 16 = .ok (.if_icmp .lt 9, 3) := by decide +kernel
theorem dX11_load_19 : decode cX11_load 19 = .ok (.iload_n 2, 1) := by decide +kernel
theorem dX11_load_20 : decode cX11_load 20 = .ok (.bipush 60, 2) := by decide +kernel
theorem dX11_load_22 : decode cX11_load 22 = .ok (.if_icmp .le 6, 3) := by decide +kernel
theorem dX11_load_25 : decode cX11_load 25 = .ok (.ldc 99, 2) := by decide +kernel
theorem dX11_load_27 : decode cX11_load 27 = .ok (.ireturn, 1) := by decide +kernel
theorem dX11_load_28 : decode cX11_load 28 = .ok (.aload_n 0, 1) := by decide +kernel
theorem dX11_load_29 : decode cX11_load 29 = .ok (.getfield 88, 3) := by decide +kernel
theorem dX11_load_32 : decode cX11_load 32 = .ok (.aload_n 0, 1) := by decide +kernel
theorem dX11_load_33 : decode cX11_load 33 = .ok (.getfield 26, 3) := by decide +kernel
theorem dX11_load_36 : decode cX11_load 36 = .ok (.invokevirtual 217, 3) := by decide +kernel
theorem dX11_load_39 : decode cX11_load 39 = .ok (.aload_n 0, 1) := by decide +kernel
theorem dX11_load_40 : decode cX11_load 40 = .ok (.getfield 26, 3) := by decide +kernel
theorem dX11_load_43 : decode cX11_load 43 = .ok (.getfield 194, 3) := by decide +kernel
theorem dX11_load_46 : decode cX11_load 46 = .ok (.iload_n 1, 1) := by decide +kernel
theorem dX11_load_47 : decode cX11_load 47 = .ok (.iaload, 1) := by decide +kernel
theorem dX11_load_48 : decode cX11_load 48 = .ok (.istore_n 3, 1) := by decide +kernel
theorem dX11_load_49 : decode cX11_load 49 = .ok (.aload_n 0, 1) := by decide +kernel
theorem dX11_load_50 : decode cX11_load 50 = .ok (.getfield 26, 3) := by decide +kernel
theorem dX11_load_53 : decode cX11_load 53 = .ok (.getfield 194, 3) := by decide +kernel
theorem dX11_load_56 : decode cX11_load 56 = .ok (.iload_n 1, 1) := by decide +kernel
theorem dX11_load_57 : decode cX11_load 57 = .ok (.iload_n 2, 1) := by decide +kernel
theorem dX11_load_58 : decode cX11_load 58 = .ok (.iastore, 1) := by decide +kernel
theorem dX11_load_59 : decode cX11_load 59 = .ok (.iload_n 3, 1) := by decide +kernel
theorem dX11_load_60 : decode cX11_load 60 = .ok (.ireturn, 1) := by decide +kernel
theorem dX11_storm_0 : decode cX11_storm 0 = .ok (.iload_n 1, 1) := by decide +kernel
theorem dX11_storm_1 : decode cX11_storm 1 = .ok (.ifCond .lt 9, 3) := by decide +kernel
theorem dX11_storm_4 : decode cX11_storm 4 = .ok (.iload_n 1, 1) := by decide +kernel
theorem dX11_storm_5 : decode cX11_storm 5 = .ok (.bipush 60, 2) := by decide +kernel
theorem dX11_storm_7 : decode cX11_storm 7 = .ok (.if_icmp .le 6, 3) := by decide +kernel
theorem dX11_storm_10 : decode cX11_storm 10 = .ok (.ldc 99, 2) := by decide +kernel
theorem dX11_storm_12 : decode cX11_storm 12 = .ok (.ireturn, 1) := by decide +kernel
theorem dX11_storm_13 : decode cX11_storm 13 = .ok (.aload_n 0, 1) := by decide +kernel
theorem dX11_storm_14 : decode cX11_storm 14 = .ok (.getfield 19, 3) := by decide +kernel
theorem dX11_storm_17 : decode cX11_storm 17 = .ok (.getfield 124, 3) := by decide +kernel
theorem dX11_storm_20 : decode cX11_storm 20 = .ok (.ifCond .ne 6, 3) := by decide +kernel
theorem dX11_storm_23 : decode cX11_storm 23 = .ok (.ldc 216, 2) := by decide +kernel
theorem dX11_storm_25 : decode cX11_storm 25 = .ok (.ireturn, 1) := by decide +kernel
theorem dX11_storm_26 : decode cX11_storm 26 = .ok (.aload_n 0, 1) := by decide +kernel
theorem dX11_storm_27 : decode cX11_storm 27 = .ok (.getfield 88, 3) := by decide +kernel
theorem dX11_storm_30 : decode cX11_storm 30 = .ok (.aload_n 0, 1) := by decide +kernel
theorem dX11_storm_31 : decode cX11_storm 31 = .ok (.getfield 26, 3) := by decide +kernel
theorem dX11_storm_34 : decode cX11_storm 34 = .ok (.invokevirtual 217, 3) := by decide +kernel
theorem dX11_storm_37 : decode cX11_storm 37 = .ok (.aload_n 0, 1) := by decide +kernel
theorem dX11_storm_38 : decode cX11_storm 38 = .ok (.getfield 26, 3) := by decide +kernel
theorem dX11_storm_41 : decode cX11_storm 41 = .ok (.getfield 140, 3) := by decide +kernel
theorem dX11_storm_44 : decode cX11_storm 44 = .ok (.istore_n 2, 1) := by decide +kernel
theorem dX11_storm_45 : decode cX11_storm 45 = .ok (.aload_n 0, 1) := by decide +kernel
theorem dX11_storm_46 : decode cX11_storm 46 = .ok (.getfield 26, 3) := by decide +kernel
theorem dX11_storm_49 : decode cX11_storm 49 = .ok (.iload_n 1, 1) := by decide +kernel
theorem dX11_storm_50 : decode cX11_storm 50 = .ok (.putfield 140, 3) := by decide +kernel
theorem dX11_storm_53 : decode cX11_storm 53 = .ok (.iload_n 2, 1) := by decide +kernel
theorem dX11_storm_54 : decode cX11_storm 54 = .ok (.ireturn, 1) := by decide +kernel
theorem dX11_raze_0 : decode cX11_raze 0 = .ok (.aload_n 0, 1) := by decide +kernel
theorem dX11_raze_1 : decode cX11_raze 1 = .ok (.getfield 19, 3) := by decide +kernel
theorem dX11_raze_4 : decode cX11_raze 4 = .ok (.iload_n 1, 1) := by decide +kernel
theorem dX11_raze_5 : decode cX11_raze 5 = .ok (.invokevirtual 167, 3) := by decide +kernel
theorem dX11_raze_8 : decode cX11_raze 8 = .ok (.ifCond .ne 6, 3) := by decide +kernel
theorem dX11_raze_11 : decode cX11_raze 11 = .ok (.ldc 171, 2) := by decide +kernel
theorem dX11_raze_13 : decode cX11_raze 13 = .ok (.ireturn, 1) := by decide +kernel
theorem dX11_raze_14 : decode cX11_raze 14 = .ok (.aload_n 0, 1) := by decide +kernel
theorem dX11_raze_15 : decode cX11_raze 15 = .ok (.getfield 26, 3) := by decide +kernel
theorem dX11_raze_18 : decode cX11_raze 18 = .ok (.iload_n 1, 1) := by decide +kernel
theorem dX11_raze_19 : decode cX11_raze 19 = .ok (.invokevirtual 237, 3) := by decide +kernel
theorem dX11_raze_22 : decode cX11_raze 22 = .ok (.ifCond .ne 6, 3) := by decide +kernel
theorem dX11_raze_25 : decode cX11_raze 25 = .ok (.ldc 216, 2) := by decide +kernel
theorem dX11_raze_27 : decode cX11_raze 27 = .ok (.ireturn, 1) := by decide +kernel
theorem dX11_raze_28 : decode cX11_raze 28 = .ok (.aload_n 0, 1) := by decide +kernel
theorem dX11_raze_29 : decode cX11_raze 29 = .ok (.getfield 88, 3) := by decide +kernel
theorem dX11_raze_32 : decode cX11_raze 32 = .ok (.aload_n 0, 1) := by decide +kernel
theorem dX11_raze_33 : decode cX11_raze 33 = .ok (.getfield 26, 3) := by decide +kernel
theorem dX11_raze_36 : decode cX11_raze 36 = .ok (.invokevirtual 217, 3) := by decide +kernel
theorem dX11_raze_39 : decode cX11_raze 39 = .ok (.aload_n 0, 1) := by decide +kernel
theorem dX11_raze_40 : decode cX11_raze 40 = .ok (.getfield 26, 3) := by decide +kernel
theorem dX11_raze_43 : decode cX11_raze 43 = .ok (.getfield 240, 3) := by decide +kernel
theorem dX11_raze_46 : decode cX11_raze 46 = .ok (.iload_n 1, 1) := by decide +kernel
theorem dX11_raze_47 : decode cX11_raze 47 = .ok (.iaload, 1) := by decide +kernel
theorem dX11_raze_48 : decode cX11_raze 48 = .ok (.istore_n 2, 1) := by decide +kernel
theorem dX11_raze_49 : decode cX11_raze 49 = .ok (.aload_n 0, 1) := by decide +kernel
theorem dX11_raze_50 : decode cX11_raze 50 = .ok (.getfield 26, 3) := by decide +kernel
theorem dX11_raze_53 : decode cX11_raze 53 = .ok (.iload_n 1, 1) := by decide +kernel
theorem dX11_raze_54 : decode cX11_raze 54 = .ok (.invokevirtual 243, 3) := by decide +kernel
theorem dX11_raze_57 : decode cX11_raze 57 = .ok (.iload_n 2, 1) := by decide +kernel
theorem dX11_raze_58 : decode cX11_raze 58 = .ok (.ireturn, 1) := by decide +kernel
theorem dX11_drift_0 : decode cX11_drift 0 = .ok (.aload_n 0, 1) := by decide +kernel
theorem dX11_drift_1 : decode cX11_drift 1 = .ok (.iload_n 1, 1) := by decide +kernel
theorem dX11_drift_2 : decode cX11_drift 2 = .ok (.invokevirtual 227, 3) := by decide +kernel
theorem dX11_drift_5 : decode cX11_drift 5 = .ok (.istore_n 2, 1) := by decide +kernel
theorem dX11_drift_6 : decode cX11_drift 6 = .ok (.iload_n 2, 1) := by decide +kernel
theorem dX11_drift_7 : decode cX11_drift 7 = .ok (.ifCond .eq 5, 3) := by decide +kernel
theorem dX11_drift_10 : decode cX11_drift 10 = .ok (.iload_n 2, 1) := by decide +kernel
theorem dX11_drift_11 : decode cX11_drift 11 = .ok (.ireturn, 1) := by decide +kernel
theorem dX11_drift_12 : decode cX11_drift 12 = .ok (.aload_n 0, 1) := by decide +kernel
theorem dX11_drift_13 : decode cX11_drift 13 = .ok (.getfield 88, 3) := by decide +kernel
theorem dX11_drift_16 : decode cX11_drift 16 = .ok (.aload_n 0, 1) := by decide +kernel
theorem dX11_drift_17 : decode cX11_drift 17 = .ok (.getfield 26, 3) := by decide +kernel
theorem dX11_drift_20 : decode cX11_drift 20 = .ok (.invokevirtual 217, 3) := by decide +kernel
theorem dX11_drift_23 : decode cX11_drift 23 = .ok (.iconst 0, 1) := by decide +kernel
theorem dX11_drift_24 : decode cX11_drift 24 = .ok (.istore_n 3, 1) := by decide +kernel
theorem dX11_drift_25 : decode cX11_drift 25 = .ok (.iload_n 3, 1) := by decide +kernel
theorem dX11_drift_26 : decode cX11_drift 26 = .ok (.iload_n 1, 1) := by decide +kernel
theorem dX11_drift_27 : decode cX11_drift 27 = .ok (.if_icmp .ge 20, 3) := by decide +kernel
theorem dX11_drift_30 : decode cX11_drift 30 = .ok (.aload_n 0, 1) := by decide +kernel
theorem dX11_drift_31 : decode cX11_drift 31 = .ok (.invokevirtual 246, 3) := by decide +kernel
theorem dX11_drift_34 : decode cX11_drift 34 = .ok (.aload_n 0, 1) := by decide +kernel
theorem dX11_drift_35 : decode cX11_drift 35 = .ok (.getfield 35, 3) := by decide +kernel
theorem dX11_drift_38 : decode cX11_drift 38 = .ok (.invokevirtual 230, 3) := by decide +kernel
theorem dX11_drift_41 : decode cX11_drift 41 = .ok (.iinc 3 1, 3) := by decide +kernel
theorem dX11_drift_44 : decode cX11_drift 44 = .ok (.goto (-19), 3) := by decide +kernel
theorem dX11_drift_47 : decode cX11_drift 47 = .ok (.aload_n 0, 1) := by decide +kernel
theorem dX11_drift_48 : decode cX11_drift 48 = .ok (.getfield 42, 3) := by decide +kernel
theorem dX11_drift_51 : decode cX11_drift 51 = .ok (.invokevirtual 161, 3) := by decide +kernel
theorem dX11_drift_54 : decode cX11_drift 54 = .ok (.ireturn, 1) := by decide +kernel
theorem dX11_undo_0 : decode cX11_undo 0 = .ok (.aload_n 0, 1) := by decide +kernel
theorem dX11_undo_1 : decode cX11_undo 1 = .ok (.getfield 88, 3) := by decide +kernel
theorem dX11_undo_4 : decode cX11_undo 4 = .ok (.getfield 164, 3) := by decide +kernel
theorem dX11_undo_7 : decode cX11_undo 7 = .ok (.ifCond .ne 6, 3) := by decide +kernel
theorem dX11_undo_10 : decode cX11_undo 10 = .ok (.ldc 216, 2) := by decide +kernel
theorem dX11_undo_12 : decode cX11_undo 12 = .ok (.ireturn, 1) := by decide +kernel
theorem dX11_undo_13 : decode cX11_undo 13 = .ok (.aload_n 0, 1) := by decide +kernel
theorem dX11_undo_14 : decode cX11_undo 14 = .ok (.getfield 88, 3) := by decide +kernel
theorem dX11_undo_17 : decode cX11_undo 17 = .ok (.aload_n 0, 1) := by decide +kernel
theorem dX11_undo_18 : decode cX11_undo 18 = .ok (.getfield 26, 3) := by decide +kernel
theorem dX11_undo_21 : decode cX11_undo 21 = .ok (.invokevirtual 249, 3) := by decide +kernel
theorem dX11_undo_24 : decode cX11_undo 24 = .ok (.aload_n 0, 1) := by decide +kernel
theorem dX11_undo_25 : decode cX11_undo 25 = .ok (.getfield 88, 3) := by decide +kernel
theorem dX11_undo_28 : decode cX11_undo 28 = .ok (.getfield 164, 3) := by decide +kernel
theorem dX11_undo_31 : decode cX11_undo 31 = .ok (.ireturn, 1) := by decide +kernel
theorem dX11_stops_0 : decode cX11_stops 0 = .ok (.aload_n 0, 1) := by decide +kernel
theorem dX11_stops_1 : decode cX11_stops 1 = .ok (.getfield 19, 3) := by decide +kernel
theorem dX11_stops_4 : decode cX11_stops 4 = .ok (.iload_n 1, 1) := by decide +kernel
theorem dX11_stops_5 : decode cX11_stops 5 = .ok (.invokevirtual 188, 3) := by decide +kernel
theorem dX11_stops_8 : decode cX11_stops 8 = .ok (.ifCond .ne 6, 3) := by decide +kernel
theorem dX11_stops_11 : decode cX11_stops 11 = .ok (.ldc 171, 2) := by decide +kernel
theorem dX11_stops_13 : decode cX11_stops 13 = .ok (.ireturn, 1) := by decide +kernel
theorem dX11_stops_14 : decode cX11_stops 14 = .ok (.iload_n 2, 1) := by decide +kernel
theorem dX11_stops_15 : decode cX11_stops 15 = .ok (.ifCond .lt 9, 3) := by decide +kernel
theorem dX11_stops_18 : decode cX11_stops 18 = .ok (.iload_n 2, 1) := by decide +kernel
theorem dX11_stops_19 : decode cX11_stops 19 = .ok (.bipush 100, 2) := by decide +kernel
theorem dX11_stops_21 : decode cX11_stops 21 = .ok (.if_icmp .le 6, 3) := by decide +kernel
theorem dX11_stops_24 : decode cX11_stops 24 = .ok (.ldc 99, 2) := by decide +kernel
theorem dX11_stops_26 : decode cX11_stops 26 = .ok (.ireturn, 1) := by decide +kernel
theorem dX11_stops_27 : decode cX11_stops 27 = .ok (.aload_n 0, 1) := by decide +kernel
theorem dX11_stops_28 : decode cX11_stops 28 = .ok (.getfield 35, 3) := by decide +kernel
theorem dX11_stops_31 : decode cX11_stops 31 = .ok (.iload_n 1, 1) := by decide +kernel
theorem dX11_stops_32 : decode cX11_stops 32 = .ok (.iload_n 2, 1) := by decide +kernel
theorem dX11_stops_33 : decode cX11_stops 33 = .ok (.invokevirtual 252, 3) := by decide +kernel
theorem dX11_stops_36 : decode cX11_stops 36 = .ok (.ireturn, 1) := by decide +kernel
theorem dX11_soonest_0 : decode cX11_soonest 0 = .ok (.aload_n 0, 1) := by decide +kernel
theorem dX11_soonest_1 : decode cX11_soonest 1 = .ok (.getfield 19, 3) := by decide +kernel
theorem dX11_soonest_4 : decode cX11_soonest 4 = .ok (.iload_n 1, 1) := by decide +kernel
theorem dX11_soonest_5 : decode cX11_soonest 5 = .ok (.invokevirtual 188, 3) := by decide +kernel
theorem dX11_soonest_8 : decode cX11_soonest 8 = .ok (.ifCond .eq 14, 3) := by decide +kernel
theorem dX11_soonest_11 : decode cX11_soonest 11 = .ok (.aload_n 0, 1) := by decide +kernel
theorem dX11_soonest_12 : decode cX11_soonest 12 = .ok (.getfield 19, 3) := by decide +kernel
theorem dX11_soonest_15 : decode cX11_soonest 15 = .ok (.iload_n 2, 1) := by decide +kernel
theorem dX11_soonest_16 : decode cX11_soonest 16 = .ok (.invokevirtual 167, 3) := by decide +kernel
theorem dX11_soonest_19 : decode cX11_soonest 19 = .ok (.ifCond .ne 6, 3) := by decide +kernel
theorem dX11_soonest_22 : decode cX11_soonest 22 = .ok (.ldc 171, 2) := by decide +kernel
theorem dX11_soonest_24 : decode cX11_soonest 24 = .ok (.ireturn, 1) := by decide +kernel
theorem dX11_soonest_25 : decode cX11_soonest 25 = .ok (.aload_n 0, 1) := by decide +kernel
theorem dX11_soonest_26 : decode cX11_soonest 26 = .ok (.getfield 51, 3) := by decide +kernel
theorem dX11_soonest_29 : decode cX11_soonest 29 = .ok (.iload_n 1, 1) := by decide +kernel
theorem dX11_soonest_30 : decode cX11_soonest 30 = .ok (.iload_n 2, 1) := by decide +kernel
theorem dX11_soonest_31 : decode cX11_soonest 31 = .ok (.invokevirtual 256, 3) := by decide +kernel
theorem dX11_soonest_34 : decode cX11_soonest 34 = .ok (.ireturn, 1) := by decide +kernel
theorem dX11_loads_0 : decode cX11_loads 0 = .ok (.aload_n 0, 1) := by decide +kernel
theorem dX11_loads_1 : decode cX11_loads 1 = .ok (.getfield 19, 3) := by decide +kernel
theorem dX11_loads_4 : decode cX11_loads 4 = .ok (.iload_n 1, 1) := by decide +kernel
theorem dX11_loads_5 : decode cX11_loads 5 = .ok (.invokevirtual 188, 3) := by decide +kernel
theorem dX11_loads_8 : decode cX11_loads 8 = .ok (.ifCond .eq 14, 3) := by decide +kernel
theorem dX11_loads_11 : decode cX11_loads 11 = .ok (.aload_n 0, 1) := by decide +kernel
theorem dX11_loads_12 : decode cX11_loads 12 = .ok (.getfield 19, 3) := by decide +kernel
theorem dX11_loads_15 : decode cX11_loads 15 = .ok (.iload_n 2, 1) := by decide +kernel
theorem dX11_loads_16 : decode cX11_loads 16 = .ok (.invokevirtual 167, 3) := by decide +kernel
theorem dX11_loads_19 : decode cX11_loads 19 = .ok (.ifCond .ne 6, 3) := by decide +kernel
theorem dX11_loads_22 : decode cX11_loads 22 = .ok (.ldc 171, 2) := by decide +kernel
theorem dX11_loads_24 : decode cX11_loads 24 = .ok (.ireturn, 1) := by decide +kernel
theorem dX11_loads_25 : decode cX11_loads 25 = .ok (.iload_n 3, 1) := by decide +kernel
theorem dX11_loads_26 : decode cX11_loads 26 = .ok (.ifCond .lt 8, 3) := by decide +kernel
theorem dX11_loads_29 : decode cX11_loads 29 = .ok (.iload_n 3, 1) := by decide +kernel
theorem dX11_loads_30 : decode cX11_loads 30 = .ok (.iconst 2, 1) := by decide +kernel
theorem dX11_loads_31 : decode cX11_loads 31 = .ok (.if_icmp .le 6, 3) := by decide +kernel
theorem dX11_loads_34 : decode cX11_loads 34 = .ok (.ldc 99, 2) := by decide +kernel
theorem dX11_loads_36 : decode cX11_loads 36 = .ok (.ireturn, 1) := by decide +kernel
theorem dX11_loads_37 : decode cX11_loads 37 = .ok (.aload_n 0, 1) := by decide +kernel
theorem dX11_loads_38 : decode cX11_loads 38 = .ok (.getfield 51, 3) := by decide +kernel
theorem dX11_loads_41 : decode cX11_loads 41 = .ok (.iload_n 1, 1) := by decide +kernel
theorem dX11_loads_42 : decode cX11_loads 42 = .ok (.iload_n 2, 1) := by decide +kernel
theorem dX11_loads_43 : decode cX11_loads 43 = .ok (.invokevirtual 259, 3) := by decide +kernel
theorem dX11_loads_46 : decode cX11_loads 46 = .ok (.iload_n 3, 1) := by decide +kernel
theorem dX11_loads_47 : decode cX11_loads 47 = .ok (.invokevirtual 263, 3) := by decide +kernel
theorem dX11_loads_50 : decode cX11_loads 50 = .ok (.ireturn, 1) := by decide +kernel
theorem dX11_gravelTo_0 : decode cX11_gravelTo 0 = .ok (.aload_n 0, 1) := by decide +kernel
theorem dX11_gravelTo_1 : decode cX11_gravelTo 1 = .ok (.getfield 19, 3) := by decide +kernel
theorem dX11_gravelTo_4 : decode cX11_gravelTo 4 = .ok (.iload_n 1, 1) := by decide +kernel
theorem dX11_gravelTo_5 : decode cX11_gravelTo 5 = .ok (.invokevirtual 188, 3) := by decide +kernel
theorem dX11_gravelTo_8 : decode cX11_gravelTo 8 = .ok (.ifCond .eq 14, 3) := by decide +kernel
theorem dX11_gravelTo_11 : decode cX11_gravelTo 11 = .ok (.aload_n 0, 1) := by decide +kernel
theorem dX11_gravelTo_12 : decode cX11_gravelTo 12 = .ok (.getfield 19, 3) := by decide +kernel
theorem dX11_gravelTo_15 : decode cX11_gravelTo 15 = .ok (.iload_n 2, 1) := by decide +kernel
theorem dX11_gravelTo_16 : decode cX11_gravelTo 16 = .ok (.invokevirtual 167, 3) := by decide +kernel
theorem dX11_gravelTo_19 : decode cX11_gravelTo 19 = .ok (.ifCond .ne 6, 3) := by decide +kernel
theorem dX11_gravelTo_22 : decode cX11_gravelTo 22 = .ok (.ldc 171, 2) := by decide +kernel
theorem dX11_gravelTo_24 : decode cX11_gravelTo 24 = .ok (.ireturn, 1) := by decide +kernel
theorem dX11_gravelTo_25 : decode cX11_gravelTo 25 = .ok (.aload_n 0, 1) := by decide +kernel
theorem dX11_gravelTo_26 : decode cX11_gravelTo 26 = .ok (.getfield 51, 3) := by decide +kernel
theorem dX11_gravelTo_29 : decode cX11_gravelTo 29 = .ok (.iconst 1, 1) := by decide +kernel
theorem dX11_gravelTo_30 : decode cX11_gravelTo 30 = .ok (.iload_n 1, 1) := by decide +kernel
theorem dX11_gravelTo_31 : decode cX11_gravelTo 31 = .ok (.ishl, 1) := by decide +kernel
theorem dX11_gravelTo_32 : decode cX11_gravelTo 32 = .ok (.iload_n 2, 1) := by decide +kernel
theorem dX11_gravelTo_33 : decode cX11_gravelTo 33 = .ok (.invokevirtual 268, 3) := by decide +kernel
theorem dX11_gravelTo_36 : decode cX11_gravelTo 36 = .ok (.ireturn, 1) := by decide +kernel
theorem dX11_gravelForAll_0 : decode cX11_gravelForAll 0 = .ok (.aload_n 0, 1) := by decide +kernel
theorem dX11_gravelForAll_1 : decode cX11_gravelForAll 1 = .ok (.getfield 19, 3) := by decide +kernel
theorem dX11_gravelForAll_4 : decode cX11_gravelForAll 4 = .ok (.iload_n 1, 1) := by decide +kernel
theorem dX11_gravelForAll_5 : decode cX11_gravelForAll 5 = .ok (.invokevirtual 271, 3) := by decide +kernel
theorem dX11_gravelForAll_8 : decode cX11_gravelForAll 8 = .ok (.ifCond .ne 6, 3) := by decide +kernel
theorem dX11_gravelForAll_11 : decode cX11_gravelForAll 11 = .ok (.ldc 171, 2) := by decide +kernel
theorem dX11_gravelForAll_13 : decode cX11_gravelForAll 13 = .ok (.ireturn, 1) := by decide +kernel
theorem dX11_gravelForAll_14 : decode cX11_gravelForAll 14 = .ok (.aload_n 0, 1) := by decide +kernel
theorem dX11_gravelForAll_15 : decode cX11_gravelForAll 15 = .ok (.getfield 51, 3) := by decide +kernel
theorem dX11_gravelForAll_18 : decode cX11_gravelForAll 18 = .ok (.iload_n 1, 1) := by decide +kernel
theorem dX11_gravelForAll_19 : decode cX11_gravelForAll 19 = .ok (.aload_n 0, 1) := by decide +kernel
theorem dX11_gravelForAll_20 : decode cX11_gravelForAll 20 = .ok (.getfield 19, 3) := by decide +kernel
theorem dX11_gravelForAll_23 : decode cX11_gravelForAll 23 = .ok (.getfield 124, 3) := by decide +kernel
theorem dX11_gravelForAll_26 : decode cX11_gravelForAll 26 = .ok (.invokevirtual 268, 3) := by decide +kernel
theorem dX11_gravelForAll_29 : decode cX11_gravelForAll 29 = .ok (.ireturn, 1) := by decide +kernel
theorem dX11_order_0 : decode cX11_order 0 = .ok (.aload_n 0, 1) := by decide +kernel
theorem dX11_order_1 : decode cX11_order 1 = .ok (.getfield 19, 3) := by decide +kernel
theorem dX11_order_4 : decode cX11_order 4 = .ok (.iload_n 1, 1) := by decide +kernel
theorem dX11_order_5 : decode cX11_order 5 = .ok (.invokevirtual 271, 3) := by decide +kernel
theorem dX11_order_8 : decode cX11_order 8 = .ok (.ifCond .ne 6, 3) := by decide +kernel
theorem dX11_order_11 : decode cX11_order 11 = .ok (.ldc 171, 2) := by decide +kernel
theorem dX11_order_13 : decode cX11_order 13 = .ok (.ireturn, 1) := by decide +kernel
theorem dX11_order_14 : decode cX11_order 14 = .ok (.iload_n 2, 1) := by decide +kernel
theorem dX11_order_15 : decode cX11_order 15 = .ok (.ifCond .lt 8, 3) := by decide +kernel
theorem dX11_order_18 : decode cX11_order 18 = .ok (.iload_n 2, 1) := by decide +kernel
theorem dX11_order_19 : decode cX11_order 19 = .ok (.iconst 1, 1) := by decide +kernel
theorem dX11_order_20 : decode cX11_order 20 = .ok (.if_icmp .le 6, 3) := by decide +kernel
theorem dX11_order_23 : decode cX11_order 23 = .ok (.ldc 99, 2) := by decide +kernel
theorem dX11_order_25 : decode cX11_order 25 = .ok (.ireturn, 1) := by decide +kernel
theorem dX11_order_26 : decode cX11_order 26 = .ok (.iload_n 1, 1) := by decide +kernel
theorem dX11_order_27 : decode cX11_order 27 = .ok (.invokestatic 274, 3) := by decide +kernel
theorem dX11_order_30 : decode cX11_order 30 = .ok (.iconst 5, 1) := by decide +kernel
theorem dX11_order_31 : decode cX11_order 31 = .ok (.if_icmp .gt 15, 3) := by decide +kernel
theorem dX11_order_34 : decode cX11_order 34 = .ok (.iload_n 1, 1) := by decide +kernel
theorem dX11_order_35 : decode cX11_order 35 = .ok (.aload_n 0, 1) := by decide +kernel
theorem dX11_order_36 : decode cX11_order 36 = .ok (.getfield 42, 3) := by decide +kernel
theorem dX11_order_39 : decode cX11_order 39 = .ok (.invokevirtual 146, 3) := by decide +kernel
theorem dX11_order_42 : decode cX11_order 42 = .ok (.iand, 1) := by decide +kernel
theorem dX11_order_43 : decode cX11_order 43 = .ok (.ifCond .eq 6, 3) := by decide +kernel
theorem dX11_order_46 : decode cX11_order 46 = .ok (.ldc 216, 2) := by decide +kernel
theorem dX11_order_48 : decode cX11_order 48 = .ok (.ireturn, 1) := by decide +kernel
theorem dX11_order_49 : decode cX11_order 49 = .ok (.aload_n 0, 1) := by decide +kernel
theorem dX11_order_50 : decode cX11_order 50 = .ok (.getfield 60, 3) := by decide +kernel
theorem dX11_order_53 : decode cX11_order 53 = .ok (.iload_n 1, 1) := by decide +kernel
theorem dX11_order_54 : decode cX11_order 54 = .ok (.aload_n 0, 1) := by decide +kernel
theorem dX11_order_55 : decode cX11_order 55 = .ok (.getfield 42, 3) := by decide +kernel
theorem dX11_order_58 : decode cX11_order 58 = .ok (.invokevirtual 143, 3) := by decide +kernel
theorem dX11_order_61 : decode cX11_order 61 = .ok (.invokevirtual 279, 3) := by decide +kernel
theorem dX11_order_64 : decode cX11_order 64 = .ok (.iload_n 2, 1) := by decide +kernel
theorem dX11_order_65 : decode cX11_order 65 = .ok (.ifCond .ne 13, 3) := by decide +kernel
theorem dX11_order_68 : decode cX11_order 68 = .ok (.aload_n 0, 1) := by decide +kernel
theorem dX11_order_69 : decode cX11_order 69 = .ok (.getfield 60, 3) := by decide +kernel
theorem dX11_order_72 : decode cX11_order 72 = .ok (.getfield 282, 3) := by decide +kernel
theorem dX11_order_75 : decode cX11_order 75 = .ok (.goto 10, 3) := by decide +kernel
theorem dX11_order_78 : decode cX11_order 78 = .ok (.aload_n 0, 1) := by decide +kernel
theorem dX11_order_79 : decode cX11_order 79 = .ok (.getfield 60, 3) := by decide +kernel
theorem dX11_order_82 : decode cX11_order 82 = .ok (.getfield 285, 3) := by decide +kernel
theorem dX11_order_85 : decode cX11_order 85 = .ok (.ireturn, 1) := by decide +kernel
theorem dX11_place_0 : decode cX11_place 0 = .ok (.iload_n 1, 1) := by decide +kernel
theorem dX11_place_1 : decode cX11_place 1 = .ok (.ifCond .lt 8, 3) := by decide +kernel
theorem dX11_place_4 : decode cX11_place 4 = .ok (.iload_n 1, 1) := by decide +kernel
theorem dX11_place_5 : decode cX11_place 5 = .ok (.iconst 1, 1) := by decide +kernel
theorem dX11_place_6 : decode cX11_place 6 = .ok (.if_icmp .le 6, 3) := by decide +kernel
theorem dX11_place_9 : decode cX11_place 9 = .ok (.ldc 99, 2) := by decide +kernel
theorem dX11_place_11 : decode cX11_place 11 = .ok (.ireturn, 1) := by decide +kernel
theorem dX11_place_12 : decode cX11_place 12 = .ok (.aload_n 0, 1) := by decide +kernel
theorem dX11_place_13 : decode cX11_place 13 = .ok (.getfield 19, 3) := by decide +kernel
theorem dX11_place_16 : decode cX11_place 16 = .ok (.getfield 124, 3) := by decide +kernel
theorem dX11_place_19 : decode cX11_place 19 = .ok (.ifCond .ne 6, 3) := by decide +kernel
theorem dX11_place_22 : decode cX11_place 22 = .ok (.ldc 216, 2) := by decide +kernel
theorem dX11_place_24 : decode cX11_place 24 = .ok (.ireturn, 1) := by decide +kernel
theorem dX11_place_25 : decode cX11_place 25 = .ok (.aload_n 0, 1) := by decide +kernel
theorem dX11_place_26 : decode cX11_place 26 = .ok (.getfield 42, 3) := by decide +kernel
theorem dX11_place_29 : decode cX11_place 29 = .ok (.invokevirtual 288, 3) := by decide +kernel
theorem dX11_place_32 : decode cX11_place 32 = .ok (.istore_n 2, 1) := by decide +kernel
theorem dX11_place_33 : decode cX11_place 33 = .ok (.iload_n 1, 1) := by decide +kernel
theorem dX11_place_34 : decode cX11_place 34 = .ok (.ifCond .eq 8, 3) := by decide +kernel
theorem dX11_place_37 : decode cX11_place 37 = .ok (.iload_n 2, 1) := by decide +kernel
theorem dX11_place_38 : decode cX11_place 38 = .ok (.iconst (-1), 1) := by decide +kernel
theorem dX11_place_39 : decode cX11_place 39 = .ok (.if_icmp .ne 7, 3) := by decide +kernel
theorem dX11_place_42 : decode cX11_place 42 = .ok (.iload_n 2, 1) := by decide +kernel
theorem dX11_place_43 : decode cX11_place 43 = .ok (.goto 11, 3) := by decide +kernel
theorem dX11_place_46 : decode cX11_place 46 = .ok (.aload_n 0, 1) := by decide +kernel
theorem dX11_place_47 : decode cX11_place 47 = .ok (.getfield 42, 3) := by decide +kernel
theorem dX11_place_50 : decode cX11_place 50 = .ok (.iload_n 2, 1) := by decide +kernel
theorem dX11_place_51 : decode cX11_place 51 = .ok (.invokevirtual 291, 3) := by decide +kernel
theorem dX11_place_54 : decode cX11_place 54 = .ok (.ireturn, 1) := by decide +kernel
theorem dX11_said_0 : decode cX11_said 0 = .ok (.iload_n 1, 1) := by decide +kernel
theorem dX11_said_1 : decode cX11_said 1 = .ok (.ifCond .lt 9, 3) := by decide +kernel
theorem dX11_said_4 : decode cX11_said 4 = .ok (.iload_n 1, 1) := by decide +kernel
theorem dX11_said_5 : decode cX11_said 5 = .ok (.bipush 9, 2) := by decide +kernel
theorem dX11_said_7 : decode cX11_said 7 = .ok (.if_icmp .le 6, 3) := by decide +kernel
theorem dX11_said_10 : decode cX11_said 10 = .ok (.ldc 99, 2) := by decide +kernel
theorem dX11_said_12 : decode cX11_said 12 = .ok (.ireturn, 1) := by decide +kernel
theorem dX11_said_13 : decode cX11_said 13 = .ok (.aload_n 0, 1) := by decide +kernel
theorem dX11_said_14 : decode cX11_said 14 = .ok (.getfield 42, 3) := by decide +kernel
theorem dX11_said_17 : decode cX11_said 17 = .ok (.iload_n 1, 1) := by decide +kernel
theorem dX11_said_18 : decode cX11_said 18 = .ok (.invokevirtual 294, 3) := by decide +kernel
theorem dX11_said_21 : decode cX11_said 21 = .ok (.ireturn, 1) := by decide +kernel
theorem dX11_dry_0 : decode cX11_dry 0 = .ok (.iload_n 1, 1) := by decide +kernel
theorem dX11_dry_1 : decode cX11_dry 1 = .ok (.ifCond .lt 19, 3) := by decide +kernel
theorem dX11_dry_4 : decode cX11_dry 4 = .ok (.iload_n 1, 1) := by decide +kernel
theorem dX11_dry_5 : decode cX11_dry 5 = .ok (.bipush 60, 2) := by decide +kernel
theorem dX11_dry_7 : decode cX11_dry 7 = .ok (.if_icmp .gt 13, 3) := by decide +kernel
theorem dX11_dry_10 : decode cX11_dry 10 = .ok (.iload_n 2, 1) := by decide +kernel
theorem dX11_dry_11 : decode cX11_dry 11 = .ok (.ifCond .lt 9, 3) := by decide +kernel
theorem dX11_dry_14 : decode cX11_dry 14 = .ok (.iload_n 2, 1) := by decide +kernel
theorem dX11_dry_15 : decode cX11_dry 15 = .ok (.bipush 100, 2) := by decide +kernel
theorem dX11_dry_17 : decode cX11_dry 17 = .ok (.if_icmp .le 6, 3) := by decide +kernel
theorem dX11_dry_20 : decode cX11_dry 20 = .ok (.ldc 99, 2) := by decide +kernel
theorem dX11_dry_22 : decode cX11_dry 22 = .ok (.ireturn, 1) := by decide +kernel
theorem dX11_dry_23 : decode cX11_dry 23 = .ok (.ldc2_w 297, 3) := by decide +kernel
theorem dX11_dry_26 : decode cX11_dry 26 = .ok (.lstore_n 3, 1) := by decide +kernel
theorem dX11_dry_27 : decode cX11_dry 27 = .ok (.iconst 0, 1) := by decide +kernel
theorem dX11_dry_28 : decode cX11_dry 28 = .ok (.istore 5, 2) := by decide +kernel
theorem dX11_dry_30 : decode cX11_dry 30 = .ok (.iload 5, 2) := by decide +kernel
theorem dX11_dry_32 : decode cX11_dry 32 = .ok (.iload_n 1, 1) := by decide +kernel
theorem dX11_dry_33 : decode cX11_dry 33 = .ok (.if_icmp .ge 18, 3) := by decide +kernel
theorem dX11_dry_36 : decode cX11_dry 36 = .ok (.lload_n 3, 1) := by decide +kernel
theorem dX11_dry_37 : decode cX11_dry 37 = .ok (.iload_n 2, 1) := by decide +kernel
theorem dX11_dry_38 : decode cX11_dry 38 = .ok (.i2l, 1) := by decide +kernel
theorem dX11_dry_39 : decode cX11_dry 39 = .ok (.lmul, 1) := by decide +kernel
theorem dX11_dry_40 : decode cX11_dry 40 = .ok (.ldc2_w 299, 3) := by decide +kernel
theorem dX11_dry_43 : decode cX11_dry 43 = .ok (.ldiv, 1) := by decide +kernel
theorem dX11_dry_44 : decode cX11_dry 44 = .ok (.lstore_n 3, 1) := by decide +kernel
theorem dX11_dry_45 : decode cX11_dry 45 = .ok (.iinc 5 1, 3) := by decide +kernel
theorem dX11_dry_48 : decode cX11_dry 48 = .ok (.goto (-18), 3) := by decide +kernel
theorem dX11_dry_51 : decode cX11_dry 51 = .ok (.lload_n 3, 1) := by decide +kernel
theorem dX11_dry_52 : decode cX11_dry 52 = .ok (.l2i, 1) := by decide +kernel
theorem dX11_dry_53 : decode cX11_dry 53 = .ok (.ireturn, 1) := by decide +kernel
theorem dX11_hear_0 : decode cX11_hear 0 = .ok (.aload_n 0, 1) := by decide +kernel
theorem dX11_hear_1 : decode cX11_hear 1 = .ok (.getfield 19, 3) := by decide +kernel
theorem dX11_hear_4 : decode cX11_hear 4 = .ok (.iload_n 1, 1) := by decide +kernel
theorem dX11_hear_5 : decode cX11_hear 5 = .ok (.invokevirtual 188, 3) := by decide +kernel
theorem dX11_hear_8 : decode cX11_hear 8 = .ok (.ifCond .eq 19, 3) := by decide +kernel
theorem dX11_hear_11 : decode cX11_hear 11 = .ok (.iload_n 2, 1) := by decide +kernel
theorem dX11_hear_12 : decode cX11_hear 12 = .ok (.iconst (-1), 1) := by decide +kernel
theorem dX11_hear_13 : decode cX11_hear 13 = .ok (.if_icmp .eq 17, 3) := by decide +kernel
theorem dX11_hear_16 : decode cX11_hear 16 = .ok (.aload_n 0, 1) := by decide +kernel
theorem dX11_hear_17 : decode cX11_hear 17 = .ok (.getfield 19, 3) := by decide +kernel
theorem dX11_hear_20 : decode cX11_hear 20 = .ok (.iload_n 2, 1) := by decide +kernel
theorem dX11_hear_21 : decode cX11_hear 21 = .ok (.invokevirtual 167, 3) := by decide +kernel
theorem dX11_hear_24 : decode cX11_hear 24 = .ok (.ifCond .ne 6, 3) := by decide +kernel
theorem dX11_hear_27 : decode cX11_hear 27 = .ok (.ldc 171, 2) := by decide +kernel
theorem dX11_hear_29 : decode cX11_hear 29 = .ok (.ireturn, 1) := by decide +kernel
theorem dX11_hear_30 : decode cX11_hear 30 = .ok (.aload_n 0, 1) := by decide +kernel
theorem dX11_hear_31 : decode cX11_hear 31 = .ok (.getfield 69, 3) := by decide +kernel
theorem dX11_hear_34 : decode cX11_hear 34 = .ok (.invokevirtual 301, 3) := by decide +kernel
theorem dX11_hear_37 : decode cX11_hear 37 = .ok (.ifCond .eq 6, 3) := by decide +kernel
theorem dX11_hear_40 : decode cX11_hear 40 = .ok (.ldc 104, 2) := by decide +kernel
theorem dX11_hear_42 : decode cX11_hear 42 = .ok (.ireturn, 1) := by decide +kernel
theorem dX11_hear_43 : decode cX11_hear 43 = .ok (.aload_n 0, 1) := by decide +kernel
theorem dX11_hear_44 : decode cX11_hear 44 = .ok (.getfield 69, 3) := by decide +kernel
theorem dX11_hear_47 : decode cX11_hear 47 = .ok (.iload_n 1, 1) := by decide +kernel
theorem dX11_hear_48 : decode cX11_hear 48 = .ok (.iload_n 2, 1) := by decide +kernel
theorem dX11_hear_49 : decode cX11_hear 49 = .ok (.invokevirtual 305, 3) := by decide +kernel
theorem dX11_hear_52 : decode cX11_hear 52 = .ok (.aload_n 0, 1) := by decide +kernel
theorem dX11_hear_53 : decode cX11_hear 53 = .ok (.getfield 69, 3) := by decide +kernel
theorem dX11_hear_56 : decode cX11_hear 56 = .ok (.getfield 118, 3) := by decide +kernel
theorem dX11_hear_59 : decode cX11_hear 59 = .ok (.ireturn, 1) := by decide +kernel
theorem dX11_rains_0 : decode cX11_rains 0 = .ok (.iload_n 1, 1) := by decide +kernel
theorem dX11_rains_1 : decode cX11_rains 1 = .ok (.ifCond .lt 8, 3) := by decide +kernel
theorem dX11_rains_4 : decode cX11_rains 4 = .ok (.iload_n 1, 1) := by decide +kernel
theorem dX11_rains_5 : decode cX11_rains 5 = .ok (.iconst 2, 1) := by decide +kernel
theorem dX11_rains_6 : decode cX11_rains 6 = .ok (.if_icmp .le 6, 3) := by decide +kernel
theorem dX11_rains_9 : decode cX11_rains 9 = .ok (.ldc 99, 2) := by decide +kernel
theorem dX11_rains_11 : decode cX11_rains 11 = .ok (.ireturn, 1) := by decide +kernel
theorem dX11_rains_12 : decode cX11_rains 12 = .ok (.aload_n 0, 1) := by decide +kernel
theorem dX11_rains_13 : decode cX11_rains 13 = .ok (.getfield 81, 3) := by decide +kernel
theorem dX11_rains_16 : decode cX11_rains 16 = .ok (.invokevirtual 307, 3) := by decide +kernel
theorem dX11_rains_19 : decode cX11_rains 19 = .ok (.iload_n 1, 1) := by decide +kernel
theorem dX11_rains_20 : decode cX11_rains 20 = .ok (.invokevirtual 263, 3) := by decide +kernel
theorem dX11_rains_23 : decode cX11_rains 23 = .ok (.ireturn, 1) := by decide +kernel
theorem dX11_send_0 : decode cX11_send 0 = .ok (.aload_n 0, 1) := by decide +kernel
theorem dX11_send_1 : decode cX11_send 1 = .ok (.getfield 81, 3) := by decide +kernel
theorem dX11_send_4 : decode cX11_send 4 = .ok (.invokevirtual 311, 3) := by decide +kernel
theorem dX11_send_7 : decode cX11_send 7 = .ok (.ireturn, 1) := by decide +kernel
theorem dX11_write_0 : decode cX11_write 0 = .ok (.aload_n 0, 1) := by decide +kernel
theorem dX11_write_1 : decode cX11_write 1 = .ok (.getfield 19, 3) := by decide +kernel
theorem dX11_write_4 : decode cX11_write 4 = .ok (.iload_n 1, 1) := by decide +kernel
theorem dX11_write_5 : decode cX11_write 5 = .ok (.invokevirtual 167, 3) := by decide +kernel
theorem dX11_write_8 : decode cX11_write 8 = .ok (.ifCond .ne 6, 3) := by decide +kernel
theorem dX11_write_11 : decode cX11_write 11 = .ok (.ldc 171, 2) := by decide +kernel
theorem dX11_write_13 : decode cX11_write 13 = .ok (.ireturn, 1) := by decide +kernel
theorem dX11_write_14 : decode cX11_write 14 = .ok (.iload_n 2, 1) := by decide +kernel
theorem dX11_write_15 : decode cX11_write 15 = .ok (.iconst (-1), 1) := by decide +kernel
theorem dX11_write_16 : decode cX11_write 16 = .ok (.if_icmp .lt 10, 3) := by decide +kernel
theorem dX11_write_19 : decode cX11_write 19 = .ok (.iload_n 2, 1) := by decide +kernel
theorem dX11_write_20 : decode cX11_write 20 = .ok (.sipush 9999, 3) := by decide +kernel
theorem dX11_write_23 : decode cX11_write 23 = .ok (.if_icmp .le 6, 3) := by decide +kernel
theorem dX11_write_26 : decode cX11_write 26 = .ok (.ldc 99, 2) := by decide +kernel
theorem dX11_write_28 : decode cX11_write 28 = .ok (.ireturn, 1) := by decide +kernel
theorem dX11_write_29 : decode cX11_write 29 = .ok (.aload_n 0, 1) := by decide +kernel
theorem dX11_write_30 : decode cX11_write 30 = .ok (.getfield 73, 3) := by decide +kernel
theorem dX11_write_33 : decode cX11_write 33 = .ok (.invokevirtual 301, 3) := by decide +kernel
theorem dX11_write_36 : decode cX11_write 36 = .ok (.ifCond .eq 6, 3) := by decide +kernel
theorem dX11_write_39 : decode cX11_write 39 = .ok (.ldc 104, 2) := by decide +kernel
theorem dX11_write_41 : decode cX11_write 41 = .ok (.ireturn, 1) := by decide +kernel
theorem dX11_write_42 : decode cX11_write 42 = .ok (.aload_n 0, 1) := by decide +kernel
theorem dX11_write_43 : decode cX11_write 43 = .ok (.getfield 73, 3) := by decide +kernel
theorem dX11_write_46 : decode cX11_write 46 = .ok (.iload_n 1, 1) := by decide +kernel
theorem dX11_write_47 : decode cX11_write 47 = .ok (.iload_n 2, 1) := by decide +kernel
theorem dX11_write_48 : decode cX11_write 48 = .ok (.invokevirtual 305, 3) := by decide +kernel
theorem dX11_write_51 : decode cX11_write 51 = .ok (.aload_n 0, 1) := by decide +kernel
theorem dX11_write_52 : decode cX11_write 52 = .ok (.getfield 73, 3) := by decide +kernel
theorem dX11_write_55 : decode cX11_write 55 = .ok (.getfield 118, 3) := by decide +kernel
theorem dX11_write_58 : decode cX11_write 58 = .ok (.ireturn, 1) := by decide +kernel
theorem dX11_tear_0 : decode cX11_tear 0 = .ok (.aload_n 0, 1) := by decide +kernel
theorem dX11_tear_1 : decode cX11_tear 1 = .ok (.getfield 69, 3) := by decide +kernel
theorem dX11_tear_4 : decode cX11_tear 4 = .ok (.getfield 118, 3) := by decide +kernel
theorem dX11_tear_7 : decode cX11_tear 7 = .ok (.aload_n 0, 1) := by decide +kernel
theorem dX11_tear_8 : decode cX11_tear 8 = .ok (.getfield 73, 3) := by decide +kernel
theorem dX11_tear_11 : decode cX11_tear 11 = .ok (.getfield 118, 3) := by decide +kernel
theorem dX11_tear_14 : decode cX11_tear 14 = .ok (.iadd, 1) := by decide +kernel
theorem dX11_tear_15 : decode cX11_tear 15 = .ok (.istore_n 1, 1) := by decide +kernel
theorem dX11_tear_16 : decode cX11_tear 16 = .ok (.aload_n 0, 1) := by decide +kernel
theorem dX11_tear_17 : decode cX11_tear 17 = .ok (.getfield 69, 3) := by decide +kernel
theorem dX11_tear_20 : decode cX11_tear 20 = .ok (.iconst 0, 1) := by decide +kernel
theorem dX11_tear_21 : decode cX11_tear 21 = .ok (.putfield 118, 3) := by decide +kernel
theorem dX11_tear_24 : decode cX11_tear 24 = .ok (.aload_n 0, 1) := by decide +kernel
theorem dX11_tear_25 : decode cX11_tear 25 = .ok (.getfield 73, 3) := by decide +kernel
theorem dX11_tear_28 : decode cX11_tear 28 = .ok (.iconst 0, 1) := by decide +kernel
theorem dX11_tear_29 : decode cX11_tear 29 = .ok (.putfield 118, 3) := by decide +kernel
theorem dX11_tear_32 : decode cX11_tear 32 = .ok (.iload_n 1, 1) := by decide +kernel
theorem dX11_tear_33 : decode cX11_tear 33 = .ok (.ireturn, 1) := by decide +kernel
theorem dX11_judge_0 : decode cX11_judge 0 = .ok (.iconst 0, 1) := by decide +kernel
theorem dX11_judge_1 : decode cX11_judge 1 = .ok (.istore_n 1, 1) := by decide +kernel
theorem dX11_judge_2 : decode cX11_judge 2 = .ok (.iload_n 1, 1) := by decide +kernel
theorem dX11_judge_3 : decode cX11_judge 3 = .ok (.aload_n 0, 1) := by decide +kernel
theorem dX11_judge_4 : decode cX11_judge 4 = .ok (.getfield 73, 3) := by decide +kernel
theorem dX11_judge_7 : decode cX11_judge 7 = .ok (.getfield 118, 3) := by decide +kernel
theorem dX11_judge_10 : decode cX11_judge 10 = .ok (.if_icmp .ge 52, 3) := by decide +kernel
theorem dX11_judge_13 : decode cX11_judge 13 = .ok (.aload_n 0, 1) := by decide +kernel
theorem dX11_judge_14 : decode cX11_judge 14 = .ok (.getfield 73, 3) := by decide +kernel
theorem dX11_judge_17 : decode cX11_judge 17 = .ok (.getfield 314, 3) := by decide +kernel
theorem dX11_judge_20 : decode cX11_judge 20 = .ok (.iload_n 1, 1) := by decide +kernel
theorem dX11_judge_21 : decode cX11_judge 21 = .ok (.iaload, 1) := by decide +kernel
theorem dX11_judge_22 : decode cX11_judge 22 = .ok (.istore_n 2, 1) := by decide +kernel
theorem dX11_judge_23 : decode cX11_judge 23 = .ok (.aload_n 0, 1) := by decide +kernel
theorem dX11_judge_24 : decode cX11_judge 24 = .ok (.getfield 19, 3) := by decide +kernel
theorem dX11_judge_27 : decode cX11_judge 27 = .ok (.iload_n 2, 1) := by decide +kernel
theorem dX11_judge_28 : decode cX11_judge 28 = .ok (.invokevirtual 167, 3) := by decide +kernel
theorem dX11_judge_31 : decode cX11_judge 31 = .ok (.ifCond .eq 25, 3) := by decide +kernel
theorem dX11_judge_34 : decode cX11_judge 34 = .ok (.aload_n 0, 1) := by decide +kernel
theorem dX11_judge_35 : decode cX11_judge 35 = .ok (.getfield 26, 3) := by decide +kernel
theorem dX11_judge_38 : decode cX11_judge 38 = .ok (.iload_n 2, 1) := by decide +kernel
theorem dX11_judge_39 : decode cX11_judge 39 = .ok (.invokevirtual 185, 3) := by decide +kernel
theorem dX11_judge_42 : decode cX11_judge 42 = .ok (.aload_n 0, 1) := by decide +kernel
theorem dX11_judge_43 : decode cX11_judge 43 = .ok (.getfield 73, 3) := by decide +kernel
theorem dX11_judge_46 : decode cX11_judge 46 = .ok (.getfield 317, 3) := by decide +kernel
theorem dX11_judge_49 : decode cX11_judge 49 = .ok (.iload_n 1, 1) := by decide +kernel
theorem dX11_judge_50 : decode cX11_judge 50 = .ok (.iaload, 1) := by decide +kernel
theorem dX11_judge_51 : decode cX11_judge 51 = .ok (.if_icmp .eq 5, 3) := by decide +kernel
theorem dX11_judge_54 : decode cX11_judge 54 = .ok (.iload_n 1, 1) := by decide +kernel
theorem dX11_judge_55 : decode cX11_judge 55 = .ok (.ireturn, 1) := by decide +kernel
theorem dX11_judge_56 : decode cX11_judge 56 = .ok (.iinc 1 1, 3) := by decide +kernel
theorem dX11_judge_59 : decode cX11_judge 59 = .ok (.goto (-57), 3) := by decide +kernel
theorem dX11_judge_62 : decode cX11_judge 62 = .ok (.iconst (-1), 1) := by decide +kernel
theorem dX11_judge_63 : decode cX11_judge 63 = .ok (.ireturn, 1) := by decide +kernel
theorem dX11_seed_0 : decode cX11_seed 0 = .ok (.iload_n 1, 1) := by decide +kernel
theorem dX11_seed_1 : decode cX11_seed 1 = .ok (.ifCond .ge 6, 3) := by decide +kernel
theorem dX11_seed_4 : decode cX11_seed 4 = .ok (.ldc 99, 2) := by decide +kernel
theorem dX11_seed_6 : decode cX11_seed 6 = .ok (.ireturn, 1) := by decide +kernel
theorem dX11_seed_7 : decode cX11_seed 7 = .ok (.aload_n 0, 1) := by decide +kernel
theorem dX11_seed_8 : decode cX11_seed 8 = .ok (.getfield 320, 3) := by decide +kernel
theorem dX11_seed_11 : decode cX11_seed 11 = .ok (.istore_n 2, 1) := by decide +kernel
theorem dX11_seed_12 : decode cX11_seed 12 = .ok (.aload_n 0, 1) := by decide +kernel
theorem dX11_seed_13 : decode cX11_seed 13 = .ok (.iload_n 1, 1) := by decide +kernel
theorem dX11_seed_14 : decode cX11_seed 14 = .ok (.putfield 320, 3) := by decide +kernel
theorem dX11_seed_17 : decode cX11_seed 17 = .ok (.iload_n 2, 1) := by decide +kernel
theorem dX11_seed_18 : decode cX11_seed 18 = .ok (.ireturn, 1) := by decide +kernel
theorem dX11_keep_0 : decode cX11_keep 0 = .ok (.aload_n 0, 1) := by decide +kernel
theorem dX11_keep_1 : decode cX11_keep 1 = .ok (.getfield 88, 3) := by decide +kernel
theorem dX11_keep_4 : decode cX11_keep 4 = .ok (.iload_n 1, 1) := by decide +kernel
theorem dX11_keep_5 : decode cX11_keep 5 = .ok (.invokevirtual 323, 3) := by decide +kernel
theorem dX11_keep_8 : decode cX11_keep 8 = .ok (.ifCond .ne 6, 3) := by decide +kernel
theorem dX11_keep_11 : decode cX11_keep 11 = .ok (.ldc 171, 2) := by decide +kernel
theorem dX11_keep_13 : decode cX11_keep 13 = .ok (.ireturn, 1) := by decide +kernel
theorem dX11_keep_14 : decode cX11_keep 14 = .ok (.aload_n 0, 1) := by decide +kernel
theorem dX11_keep_15 : decode cX11_keep 15 = .ok (.getfield 88, 3) := by decide +kernel
theorem dX11_keep_18 : decode cX11_keep 18 = .ok (.iload_n 1, 1) := by decide +kernel
theorem dX11_keep_19 : decode cX11_keep 19 = .ok (.aload_n 0, 1) := by decide +kernel
theorem dX11_keep_20 : decode cX11_keep 20 = .ok (.getfield 26, 3) := by decide +kernel
theorem dX11_keep_23 : decode cX11_keep 23 = .ok (.aload_n 0, 1) := by decide +kernel
theorem dX11_keep_24 : decode cX11_keep 24 = .ok (.getfield 320, 3) := by decide +kernel
theorem dX11_keep_27 : decode cX11_keep 27 = .ok (.invokevirtual 326, 3) := by decide +kernel
theorem dX11_keep_30 : decode cX11_keep 30 = .ok (.aload_n 0, 1) := by decide +kernel
theorem dX11_keep_31 : decode cX11_keep 31 = .ok (.getfield 88, 3) := by decide +kernel
theorem dX11_keep_34 : decode cX11_keep 34 = .ok (.iconst 0, 1) := by decide +kernel
theorem dX11_keep_35 : decode cX11_keep 35 = .ok (.putfield 164, 3) := by decide +kernel
theorem dX11_keep_38 : decode cX11_keep 38 = .ok (.iconst 1, 1) := by decide +kernel
theorem dX11_keep_39 : decode cX11_keep 39 = .ok (.ireturn, 1) := by decide +kernel
theorem dX11_goBack_0 : decode cX11_goBack 0 = .ok (.aload_n 0, 1) := by decide +kernel
theorem dX11_goBack_1 : decode cX11_goBack 1 = .ok (.getfield 88, 3) := by decide +kernel
theorem dX11_goBack_4 : decode cX11_goBack 4 = .ok (.iload_n 1, 1) := by decide +kernel
theorem dX11_goBack_5 : decode cX11_goBack 5 = .ok (.invokevirtual 323, 3) := by decide +kernel
theorem dX11_goBack_8 : decode cX11_goBack 8 = .ok (.ifCond .ne 6, 3) := by decide +kernel
theorem dX11_goBack_11 : decode cX11_goBack 11 = .ok (.ldc 171, 2) := by decide +kernel
theorem dX11_goBack_13 : decode cX11_goBack 13 = .ok (.ireturn, 1) := by decide +kernel
theorem dX11_goBack_14 : decode cX11_goBack 14 = .ok (.aload_n 0, 1) := by decide +kernel
theorem dX11_goBack_15 : decode cX11_goBack 15 = .ok (.getfield 88, 3) := by decide +kernel
theorem dX11_goBack_18 : decode cX11_goBack 18 = .ok (.iload_n 1, 1) := by decide +kernel
theorem dX11_goBack_19 : decode cX11_goBack 19 = .ok (.invokevirtual 330, 3) := by decide +kernel
theorem dX11_goBack_22 : decode cX11_goBack 22 = .ok (.ifCond .ne 6, 3) := by decide +kernel
theorem dX11_goBack_25 : decode cX11_goBack 25 = .ok (.ldc 216, 2) := by decide +kernel
theorem dX11_goBack_27 : decode cX11_goBack 27 = .ok (.ireturn, 1) := by decide +kernel
theorem dX11_goBack_28 : decode cX11_goBack 28 = .ok (.aload_n 0, 1) := by decide +kernel
theorem dX11_goBack_29 : decode cX11_goBack 29 = .ok (.getfield 88, 3) := by decide +kernel
theorem dX11_goBack_32 : decode cX11_goBack 32 = .ok (.iload_n 1, 1) := by decide +kernel
theorem dX11_goBack_33 : decode cX11_goBack 33 = .ok (.aload_n 0, 1) := by decide +kernel
theorem dX11_goBack_34 : decode cX11_goBack 34 = .ok (.getfield 26, 3) := by decide +kernel
theorem dX11_goBack_37 : decode cX11_goBack 37 = .ok (.invokevirtual 333, 3) := by decide +kernel
theorem dX11_goBack_40 : decode cX11_goBack 40 = .ok (.aload_n 0, 1) := by decide +kernel
theorem dX11_goBack_41 : decode cX11_goBack 41 = .ok (.aload_n 0, 1) := by decide +kernel
theorem dX11_goBack_42 : decode cX11_goBack 42 = .ok (.getfield 88, 3) := by decide +kernel
theorem dX11_goBack_45 : decode cX11_goBack 45 = .ok (.iload_n 1, 1) := by decide +kernel
theorem dX11_goBack_46 : decode cX11_goBack 46 = .ok (.invokevirtual 337, 3) := by decide +kernel
theorem dX11_goBack_49 : decode cX11_goBack 49 = .ok (.putfield 320, 3) := by decide +kernel
theorem dX11_goBack_52 : decode cX11_goBack 52 = .ok (.aload_n 0, 1) := by decide +kernel
theorem dX11_goBack_53 : decode cX11_goBack 53 = .ok (.getfield 88, 3) := by decide +kernel
theorem dX11_goBack_56 : decode cX11_goBack 56 = .ok (.iconst 0, 1) := by decide +kernel
theorem dX11_goBack_57 : decode cX11_goBack 57 = .ok (.putfield 164, 3) := by decide +kernel
theorem dX11_goBack_60 : decode cX11_goBack 60 = .ok (.iconst 1, 1) := by decide +kernel
theorem dX11_goBack_61 : decode cX11_goBack 61 = .ok (.ireturn, 1) := by decide +kernel
theorem dX11_refusalOfDays_0 : decode cX11_refusalOfDays 0 = .ok (.iload_n 1, 1) := by decide +kernel
theorem dX11_refusalOfDays_1 : decode cX11_refusalOfDays 1 = .ok (.iconst 1, 1) := by decide +kernel
theorem dX11_refusalOfDays_2 : decode cX11_refusalOfDays 2 = .ok (.if_icmp .lt 9, 3) := by decide +kernel
theorem dX11_refusalOfDays_5 : decode cX11_refusalOfDays 5 = .ok (.iload_n 1, 1) := by decide +kernel
theorem dX11_refusalOfDays_6 : decode cX11_refusalOfDays 6 = .ok (.bipush 60, 2) := by decide +kernel
theorem dX11_refusalOfDays_8 : decode cX11_refusalOfDays 8 = .ok (.if_icmp .le 6, 3) := by decide +kernel
theorem dX11_refusalOfDays_11 : decode cX11_refusalOfDays 11 = .ok (.ldc 99, 2) := by decide +kernel
theorem dX11_refusalOfDays_13 : decode cX11_refusalOfDays 13 = .ok (.ireturn, 1) := by decide +kernel
theorem dX11_refusalOfDays_14 : decode cX11_refusalOfDays 14 = .ok (.aload_n 0, 1) := by decide +kernel
theorem dX11_refusalOfDays_15 : decode cX11_refusalOfDays 15 = .ok (.getfield 19, 3) := by decide +kernel
theorem dX11_refusalOfDays_18 : decode cX11_refusalOfDays 18 = .ok (.getfield 124, 3) := by decide +kernel
theorem dX11_refusalOfDays_21 : decode cX11_refusalOfDays 21 = .ok (.ifCond .ne 6, 3) := by decide +kernel
theorem dX11_refusalOfDays_24 : decode cX11_refusalOfDays 24 = .ok (.ldc 216, 2) := by decide +kernel
theorem dX11_refusalOfDays_26 : decode cX11_refusalOfDays 26 = .ok (.ireturn, 1) := by decide +kernel
theorem dX11_refusalOfDays_27 : decode cX11_refusalOfDays 27 = .ok (.aload_n 0, 1) := by decide +kernel
theorem dX11_refusalOfDays_28 : decode cX11_refusalOfDays 28 = .ok (.getfield 26, 3) := by decide +kernel
theorem dX11_refusalOfDays_31 : decode cX11_refusalOfDays 31 = .ok (.getfield 133, 3) := by decide +kernel
theorem dX11_refusalOfDays_34 : decode cX11_refusalOfDays 34 = .ok (.sipush 9000, 3) := by decide +kernel
theorem dX11_refusalOfDays_37 : decode cX11_refusalOfDays 37 = .ok (.if_icmp .le 8, 3) := by decide +kernel
theorem dX11_refusalOfDays_40 : decode cX11_refusalOfDays 40 = .ok (.ldc 104, 2) := by decide +kernel
theorem dX11_refusalOfDays_42 : decode cX11_refusalOfDays 42 = .ok (.goto 4, 3) := by decide +kernel
theorem dX11_refusalOfDays_45 : decode cX11_refusalOfDays 45 = .ok (.iconst 0, 1) := by decide +kernel
theorem dX11_refusalOfDays_46 : decode cX11_refusalOfDays 46 = .ok (.ireturn, 1) := by decide +kernel
theorem dX11_doByDraw_0 : decode cX11_doByDraw 0 = .ok (.aload_n 0, 1) := by decide +kernel
theorem dX11_doByDraw_1 : decode cX11_doByDraw 1 = .ok (.iconst 5, 1) := by decide +kernel
theorem dX11_doByDraw_2 : decode cX11_doByDraw 2 = .ok (.invokevirtual 340, 3) := by decide +kernel
theorem dX11_doByDraw_5 : decode cX11_doByDraw 5 = .ok (.istore_n 1, 1) := by decide +kernel
theorem dX11_doByDraw_6 : decode cX11_doByDraw 6 = .ok (.iload_n 1, 1) := by decide +kernel
theorem dX11_doByDraw_7 : decode cX11_doByDraw 7 = .ok (.ifCond .ne 19, 3) := by decide +kernel
theorem dX11_doByDraw_10 : decode cX11_doByDraw 10 = .ok (.aload_n 0, 1) := by decide +kernel
theorem dX11_doByDraw_11 : decode cX11_doByDraw 11 = .ok (.getfield 26, 3) := by decide +kernel
theorem dX11_doByDraw_14 : decode cX11_doByDraw 14 = .ok (.aload_n 0, 1) := by decide +kernel
theorem dX11_doByDraw_15 : decode cX11_doByDraw 15 = .ok (.bipush 31, 2) := by decide +kernel
theorem dX11_doByDraw_17 : decode cX11_doByDraw 17 = .ok (.invokevirtual 340, 3) := by decide +kernel
theorem dX11_doByDraw_20 : decode cX11_doByDraw 20 = .ok (.putfield 140, 3) := by decide +kernel
theorem dX11_doByDraw_23 : decode cX11_doByDraw 23 = .ok (.goto 122, 3) := by decide +kernel
theorem dX11_doByDraw_26 : decode cX11_doByDraw 26 = .ok (.iload_n 1, 1) := by decide +kernel
theorem dX11_doByDraw_27 : decode cX11_doByDraw 27 = .ok (.iconst 1, 1) := by decide +kernel
theorem dX11_doByDraw_28 : decode cX11_doByDraw 28 = .ok (.if_icmp .eq 8, 3) := by decide +kernel
theorem dX11_doByDraw_31 : decode cX11_doByDraw 31 = .ok (.iload_n 1, 1) := by decide +kernel
theorem dX11_doByDraw_32 : decode cX11_doByDraw 32 = .ok (.iconst 2, 1) := by decide +kernel
theorem dX11_doByDraw_33 : decode cX11_doByDraw 33 = .ok (.if_icmp .ne 81, 3) := by decide +kernel
theorem dX11_doByDraw_36 : decode cX11_doByDraw 36 = .ok (.aload_n 0, 1) := by decide +kernel
theorem dX11_doByDraw_37 : decode cX11_doByDraw 37 = .ok (.getfield 19, 3) := by decide +kernel
theorem dX11_doByDraw_40 : decode cX11_doByDraw 40 = .ok (.getfield 130, 3) := by decide +kernel
theorem dX11_doByDraw_43 : decode cX11_doByDraw 43 = .ok (.ifCond .le 71, 3) := by decide +kernel
theorem dX11_doByDraw_46 : decode cX11_doByDraw 46 = .ok (.aload_n 0, 1) := by decide +kernel
theorem dX11_doByDraw_47 : decode cX11_doByDraw 47 = .ok (.aload_n 0, 1) := by decide +kernel
theorem dX11_doByDraw_48 : decode cX11_doByDraw 48 = .ok (.getfield 19, 3) := by decide +kernel
theorem dX11_doByDraw_51 : decode cX11_doByDraw 51 = .ok (.getfield 130, 3) := by decide +kernel
theorem dX11_doByDraw_54 : decode cX11_doByDraw 54 = .ok (.invokevirtual 340, 3) := by decide +kernel
theorem dX11_doByDraw_57 : decode cX11_doByDraw 57 = .ok (.istore_n 2, 1) := by decide +kernel
theorem dX11_doByDraw_58 : decode cX11_doByDraw 58 = .ok (.iload_n 1, 1) := by decide +kernel
theorem dX11_doByDraw_59 : decode cX11_doByDraw 59 = .ok (.iconst 1, 1) := by decide +kernel
theorem dX11_doByDraw_60 : decode cX11_doByDraw 60 = .ok (.if_icmp .ne 26, 3) := by decide +kernel
theorem dX11_doByDraw_63 : decode cX11_doByDraw 63 = .ok (.aload_n 0, 1) := by decide +kernel
theorem dX11_doByDraw_64 : decode cX11_doByDraw 64 = .ok (.getfield 26, 3) := by decide +kernel
theorem dX11_doByDraw_67 : decode cX11_doByDraw 67 = .ok (.iload_n 2, 1) := by decide +kernel
theorem dX11_doByDraw_68 : decode cX11_doByDraw 68 = .ok (.invokevirtual 213, 3) := by decide +kernel
theorem dX11_doByDraw_71 : decode cX11_doByDraw 71 = .ok (.ifCond .ne 15, 3) := by decide +kernel
theorem dX11_doByDraw_74 : decode cX11_doByDraw 74 = .ok (.aload_n 0, 1) := by decide +kernel
theorem dX11_doByDraw_75 : decode cX11_doByDraw 75 = .ok (.getfield 35, 3) := by decide +kernel
theorem dX11_doByDraw_78 : decode cX11_doByDraw 78 = .ok (.iload_n 2, 1) := by decide +kernel
theorem dX11_doByDraw_79 : decode cX11_doByDraw 79 = .ok (.invokevirtual 221, 3) := by decide +kernel
theorem dX11_doByDraw_82 : decode cX11_doByDraw 82 = .ok (.pop, 1) := by decide +kernel
theorem dX11_doByDraw_83 : decode cX11_doByDraw 83 = .ok (.goto 28, 3) := by decide +kernel
theorem dX11_doByDraw_86 : decode cX11_doByDraw 86 = .ok (.iload_n 1, 1) := by decide +kernel
theorem dX11_doByDraw_87 : decode cX11_doByDraw 87 = .ok (.iconst 2, 1) := by decide +kernel
theorem dX11_doByDraw_88 : decode cX11_doByDraw 88 = .ok (.if_icmp .ne 23, 3) := by decide +kernel
theorem dX11_doByDraw_91 : decode cX11_doByDraw 91 = .ok (.aload_n 0, 1) := by decide +kernel
theorem dX11_doByDraw_92 : decode cX11_doByDraw 92 = .ok (.getfield 26, 3) := by decide +kernel
theorem dX11_doByDraw_95 : decode cX11_doByDraw 95 = .ok (.iload_n 2, 1) := by decide +kernel
theorem dX11_doByDraw_96 : decode cX11_doByDraw 96 = .ok (.invokevirtual 213, 3) := by decide +kernel
theorem dX11_doByDraw_99 : decode cX11_doByDraw 99 = .ok (.ifCond .eq 12, 3) := by decide +kernel
theorem dX11_doByDraw_102 : decode cX11_doByDraw 102 = .ok (.aload_n 0, 1) := by decide +kernel
theorem dX11_doByDraw_103 : decode cX11_doByDraw 103 = .ok (.getfield 35, 3) := by decide +kernel
theorem dX11_doByDraw_106 : decode cX11_doByDraw 106 = .ok (.iload_n 2, 1) := by decide +kernel
theorem dX11_doByDraw_107 : decode cX11_doByDraw 107 = .ok (.invokevirtual 224, 3) := by decide +kernel
theorem dX11_doByDraw_110 : decode cX11_doByDraw 110 = .ok (.pop, 1) := by decide +kernel
theorem dX11_doByDraw_111 : decode cX11_doByDraw 111 = .ok (.goto 34, 3) := by decide +kernel
theorem dX11_doByDraw_114 : decode cX11_doByDraw 114 = .ok (.iload_n 1, 1) := by decide +kernel
theorem dX11_doByDraw_115 : decode cX11_doByDraw 115 = .ok (.iconst 3, 1) := by decide +kernel
theorem dX11_doByDraw_116 : decode cX11_doByDraw 116 = .ok (.if_icmp .ne 29, 3) := by decide +kernel
theorem dX11_doByDraw_119 : decode cX11_doByDraw 119 = .ok (.aload_n 0, 1) := by decide +kernel
theorem dX11_doByDraw_120 : decode cX11_doByDraw 120 = .ok (.aload_n 0, 1) := by decide +kernel
theorem dX11_doByDraw_121 : decode cX11_doByDraw 121 = .ok (.getfield 19, 3) := by decide +kernel
theorem dX11_doByDraw_124 : decode cX11_doByDraw 124 = .ok (.getfield 124, 3) := by decide +kernel
theorem dX11_doByDraw_127 : decode cX11_doByDraw 127 = .ok (.invokevirtual 340, 3) := by decide +kernel
theorem dX11_doByDraw_130 : decode cX11_doByDraw 130 = .ok (.istore_n 2, 1) := by decide +kernel
theorem dX11_doByDraw_131 : decode cX11_doByDraw 131 = .ok (.aload_n 0, 1) := by decide +kernel
theorem dX11_doByDraw_132 : decode cX11_doByDraw 132 = .ok (.getfield 35, 3) := by decide +kernel
theorem dX11_doByDraw_135 : decode cX11_doByDraw 135 = .ok (.iload_n 2, 1) := by decide +kernel
theorem dX11_doByDraw_136 : decode cX11_doByDraw 136 = .ok (.aload_n 0, 1) := by decide +kernel
theorem dX11_doByDraw_137 : decode cX11_doByDraw 137 = .ok (.bipush 10, 2) := by decide +kernel
theorem dX11_doByDraw_139 : decode cX11_doByDraw 139 = .ok (.invokevirtual 340, 3) := by decide +kernel
theorem dX11_doByDraw_142 : decode cX11_doByDraw 142 = .ok (.invokevirtual 233, 3) := by decide +kernel
theorem dX11_doByDraw_145 : decode cX11_doByDraw 145 = .ok (.return_, 1) := by decide +kernel
theorem dX11_drawOf_0 : decode cX11_drawOf 0 = .ok (.aload_n 0, 1) := by decide +kernel
theorem dX11_drawOf_1 : decode cX11_drawOf 1 = .ok (.aload_n 0, 1) := by decide +kernel
theorem dX11_drawOf_2 : decode cX11_drawOf 2 = .ok (.getfield 320, 3) := by decide +kernel
theorem dX11_drawOf_5 : decode cX11_drawOf 5 = .ok (.i2l, 1) := by decide +kernel
theorem dX11_drawOf_6 : decode cX11_drawOf 6 = .ok (.ldc2_w 343, 3) := by decide +kernel
theorem dX11_drawOf_9 : decode cX11_drawOf 9 = .ok (.lmul, 1) := by decide +kernel
theorem dX11_drawOf_10 : decode cX11_drawOf 10 = .ok (.ldc2_w 345, 3) := by decide +kernel
theorem dX11_drawOf_13 : decode cX11_drawOf 13 = .ok (.ladd, 1) := by decide +kernel
theorem dX11_drawOf_14 : decode cX11_drawOf 14 = .ok (.ldc2_w 347, 3) := by decide +kernel
theorem dX11_drawOf_17 : decode cX11_drawOf 17 = .ok (.land, 1) := by decide +kernel
theorem dX11_drawOf_18 : decode cX11_drawOf 18 = .ok (.l2i, 1) := by decide +kernel
theorem dX11_drawOf_19 : decode cX11_drawOf 19 = .ok (.putfield 320, 3) := by decide +kernel
theorem dX11_drawOf_22 : decode cX11_drawOf 22 = .ok (.iload_n 1, 1) := by decide +kernel
theorem dX11_drawOf_23 : decode cX11_drawOf 23 = .ok (.iconst 1, 1) := by decide +kernel
theorem dX11_drawOf_24 : decode cX11_drawOf 24 = .ok (.if_icmp .ge 7, 3) := by decide +kernel
theorem dX11_drawOf_27 : decode cX11_drawOf 27 = .ok (.iconst 0, 1) := by decide +kernel
theorem dX11_drawOf_28 : decode cX11_drawOf 28 = .ok (.goto 13, 3) := by decide +kernel
theorem dX11_drawOf_31 : decode cX11_drawOf 31 = .ok (.aload_n 0, 1) := by decide +kernel
theorem dX11_drawOf_32 : decode cX11_drawOf 32 = .ok (.getfield 320, 3) := by decide +kernel
theorem dX11_drawOf_35 : decode cX11_drawOf 35 = .ok (.ldc_w 349, 3) := by decide +kernel
theorem dX11_drawOf_38 : decode cX11_drawOf 38 = .ok (.idiv, 1) := by decide +kernel
theorem dX11_drawOf_39 : decode cX11_drawOf 39 = .ok (.iload_n 1, 1) := by decide +kernel
theorem dX11_drawOf_40 : decode cX11_drawOf 40 = .ok (.irem, 1) := by decide +kernel
theorem dX11_drawOf_41 : decode cX11_drawOf 41 = .ok (.ireturn, 1) := by decide +kernel
theorem dX12_init_0 : decode cX12_init 0 = .ok (.aload_n 0, 1) := by decide +kernel
theorem dX12_init_1 : decode cX12_init 1 = .ok (.invokespecial 1, 3) := by decide +kernel
theorem dX12_init_4 : decode cX12_init 4 = .ok (.aload_n 0, 1) := by decide +kernel
theorem dX12_init_5 : decode cX12_init 5 = .ok (.bipush 20, 2) := by decide +kernel
theorem dX12_init_7 : decode cX12_init 7 = .ok (.newarray .int, 2) := by decide +kernel
theorem dX12_init_9 : decode cX12_init 9 = .ok (.putfield 7, 3) := by decide +kernel
theorem dX12_init_12 : decode cX12_init 12 = .ok (.aload_n 0, 1) := by decide +kernel
theorem dX12_init_13 : decode cX12_init 13 = .ok (.bipush 12, 2) := by decide +kernel
theorem dX12_init_15 : decode cX12_init 15 = .ok (.newarray .int, 2) := by decide +kernel
theorem dX12_init_17 : decode cX12_init 17 = .ok (.putfield 13, 3) := by decide +kernel
theorem dX12_init_20 : decode cX12_init 20 = .ok (.aload_n 0, 1) := by decide +kernel
theorem dX12_init_21 : decode cX12_init 21 = .ok (.bipush 8, 2) := by decide +kernel
theorem dX12_init_23 : decode cX12_init 23 = .ok (.newarray .int, 2) := by decide +kernel
theorem dX12_init_25 : decode cX12_init 25 = .ok (.putfield 16, 3) := by decide +kernel
theorem dX12_init_28 : decode cX12_init 28 = .ok (.aload_n 0, 1) := by decide +kernel
theorem dX12_init_29 : decode cX12_init 29 = .ok (.bipush 8, 2) := by decide +kernel
theorem dX12_init_31 : decode cX12_init 31 = .ok (.newarray .int, 2) := by decide +kernel
theorem dX12_init_33 : decode cX12_init 33 = .ok (.putfield 19, 3) := by decide +kernel
theorem dX12_init_36 : decode cX12_init 36 = .ok (.aload_n 0, 1) := by decide +kernel
theorem dX12_init_37 : decode cX12_init 37 = .ok (.bipush 8, 2) := by decide +kernel
theorem dX12_init_39 : decode cX12_init 39 = .ok (.newarray .int, 2) := by decide +kernel
theorem dX12_init_41 : decode cX12_init 41 = .ok (.putfield 22, 3) := by decide +kernel
theorem dX12_init_44 : decode cX12_init 44 = .ok (.aload_n 0, 1) := by decide +kernel
theorem dX12_init_45 : decode cX12_init 45 = .ok (.bipush 106, 2) := by decide +kernel
theorem dX12_init_47 : decode cX12_init 47 = .ok (.newarray .int, 2) := by decide +kernel
theorem dX12_init_49 : decode cX12_init 49 = .ok (.putfield 25, 3) := by decide +kernel
theorem dX12_init_52 : decode cX12_init 52 = .ok (.aload_n 0, 1) := by decide +kernel
theorem dX12_init_53 : decode cX12_init 53 = .ok (.sipush 240, 3) := by decide +kernel
theorem dX12_init_56 : decode cX12_init 56 = .ok (.newarray .int, 2) := by decide +kernel
theorem dX12_init_58 : decode cX12_init 58 = .ok (.putfield 28, 3) := by decide +kernel
theorem dX12_init_61 : decode cX12_init 61 = .ok (.aload_n 0, 1) := by decide +kernel
theorem dX12_init_62 : decode cX12_init 62 = .ok (.iconst (-1), 1) := by decide +kernel
theorem dX12_init_63 : decode cX12_init 63 = .ok (.putfield 31, 3) := by decide +kernel
theorem dX12_init_66 : decode cX12_init 66 = .ok (.aload_n 0, 1) := by decide +kernel
theorem dX12_init_67 : decode cX12_init 67 = .ok (.bipush 20, 2) := by decide +kernel
theorem dX12_init_69 : decode cX12_init 69 = .ok (.newarray .int, 2) := by decide +kernel
theorem dX12_init_71 : decode cX12_init 71 = .ok (.putfield 35, 3) := by decide +kernel
theorem dX12_init_74 : decode cX12_init 74 = .ok (.aload_n 0, 1) := by decide +kernel
theorem dX12_init_75 : decode cX12_init 75 = .ok (.bipush 12, 2) := by decide +kernel
theorem dX12_init_77 : decode cX12_init 77 = .ok (.newarray .int, 2) := by decide +kernel
theorem dX12_init_79 : decode cX12_init 79 = .ok (.putfield 38, 3) := by decide +kernel
theorem dX12_init_82 : decode cX12_init 82 = .ok (.aload_n 0, 1) := by decide +kernel
theorem dX12_init_83 : decode cX12_init 83 = .ok (.bipush 8, 2) := by decide +kernel
theorem dX12_init_85 : decode cX12_init 85 = .ok (.newarray .int, 2) := by decide +kernel
theorem dX12_init_87 : decode cX12_init 87 = .ok (.putfield 41, 3) := by decide +kernel
theorem dX12_init_90 : decode cX12_init 90 = .ok (.aload_n 0, 1) := by decide +kernel
theorem dX12_init_91 : decode cX12_init 91 = .ok (.bipush 8, 2) := by decide +kernel
theorem dX12_init_93 : decode cX12_init 93 = .ok (.newarray .int, 2) := by decide +kernel
theorem dX12_init_95 : decode cX12_init 95 = .ok (.putfield 44, 3) := by decide +kernel
theorem dX12_init_98 : decode cX12_init 98 = .ok (.aload_n 0, 1) := by decide +kernel
theorem dX12_init_99 : decode cX12_init 99 = .ok (.bipush 8, 2) := by decide +kernel
theorem dX12_init_101 : decode cX12_init 101 = .ok (.newarray .int, 2) := by decide +kernel
theorem dX12_init_103 : decode cX12_init 103 = .ok (.putfield 47, 3) := by decide +kernel
theorem dX12_init_106 : decode cX12_init 106 = .ok (.aload_n 0, 1) := by decide +kernel
theorem dX12_init_107 : decode cX12_init 107 = .ok (.sipush 1696, 3) := by decide +kernel
theorem dX12_init_110 : decode cX12_init 110 = .ok (.newarray .int, 2) := by decide +kernel
theorem dX12_init_112 : decode cX12_init 112 = .ok (.putfield 50, 3) := by decide +kernel
theorem dX12_init_115 : decode cX12_init 115 = .ok (.aload_n 0, 1) := by decide +kernel
theorem dX12_init_116 : decode cX12_init 116 = .ok (.bipush 40, 2) := by decide +kernel
theorem dX12_init_118 : decode cX12_init 118 = .ok (.newarray .int, 2) := by decide +kernel
theorem dX12_init_120 : decode cX12_init 120 = .ok (.putfield 53, 3) := by decide +kernel
theorem dX12_init_123 : decode cX12_init 123 = .ok (.aload_n 0, 1) := by decide +kernel
theorem dX12_init_124 : decode cX12_init 124 = .ok (.bipush 6, 2) := by decide +kernel
theorem dX12_init_126 : decode cX12_init 126 = .ok (.newarray .int, 2) := by decide +kernel
theorem dX12_init_128 : decode cX12_init 128 = .ok (.putfield 56, 3) := by decide +kernel
theorem dX12_init_131 : decode cX12_init 131 = .ok (.aload_n 0, 1) := by decide +kernel
theorem dX12_init_132 : decode cX12_init 132 = .ok (.bipush 6, 2) := by decide +kernel
theorem dX12_init_134 : decode cX12_init 134 = .ok (.newarray .int, 2) := by decide +kernel
theorem dX12_init_136 : decode cX12_init 136 = .ok (.putfield 59, 3) := by decide +kernel
theorem dX12_init_139 : decode cX12_init 139 = .ok (.aload_n 0, 1) := by decide +kernel
theorem dX12_init_140 : decode cX12_init 140 = .ok (.bipush 21, 2) := by decide +kernel
theorem dX12_init_142 : decode cX12_init 142 = .ok (.newarray .int, 2) := by decide +kernel
theorem dX12_init_144 : decode cX12_init 144 = .ok (.putfield 62, 3) := by decide +kernel
theorem dX12_init_147 : decode cX12_init 147 = .ok (.aload_n 0, 1) := by decide +kernel
theorem dX12_init_148 : decode cX12_init 148 = .ok (.bipush 15, 2) := by decide +kernel
theorem dX12_init_150 : decode cX12_init 150 = .ok (.newarray .int, 2) := by decide +kernel
theorem dX12_init_152 : decode cX12_init 152 = .ok (.putfield 65, 3) := by decide +kernel
theorem dX12_init_155 : decode cX12_init 155 = .ok (.aload_n 0, 1) := by decide +kernel
theorem dX12_init_156 : decode cX12_init 156 = .ok (.bipush 15, 2) := by decide +kernel
theorem dX12_init_158 : decode cX12_init 158 = .ok (.newarray .int, 2) := by decide +kernel
theorem dX12_init_160 : decode cX12_init 160 = .ok (.putfield 68, 3) := by decide +kernel
theorem dX12_init_163 : decode cX12_init 163 = .ok (.aload_n 0, 1) := by decide +kernel
theorem dX12_init_164 : decode cX12_init 164 = .ok (.sipush 214, 3) := by decide +kernel
theorem dX12_init_167 : decode cX12_init 167 = .ok (.newarray .int, 2) := by decide +kernel
theorem dX12_init_169 : decode cX12_init 169 = .ok (.putfield 71, 3) := by decide +kernel
theorem dX12_init_172 : decode cX12_init 172 = .ok (.aload_n 0, 1) := by decide +kernel
theorem dX12_init_173 : decode cX12_init 173 = .ok (.iconst 2, 1) := by decide +kernel
theorem dX12_init_174 : decode cX12_init 174 = .ok (.newarray .boolean, 2) := by decide +kernel
theorem dX12_init_176 : decode cX12_init 176 = .ok (.putfield 74, 3) := by decide +kernel
theorem dX12_init_179 : decode cX12_init 179 = .ok (.aload_n 0, 1) := by decide +kernel
theorem dX12_init_180 : decode cX12_init 180 = .ok (.iconst 0, 1) := by decide +kernel
theorem dX12_init_181 : decode cX12_init 181 = .ok (.putfield 78, 3) := by decide +kernel
theorem dX12_init_184 : decode cX12_init 184 = .ok (.return_, 1) := by decide +kernel
theorem dX12_in_0 : decode cX12_in 0 = .ok (.lload_n 0, 1) := by decide +kernel
theorem dX12_in_1 : decode cX12_in 1 = .ok (.lload_n 2, 1) := by decide +kernel
theorem dX12_in_2 : decode cX12_in 2 = .ok (.lcmp, 1) := by decide +kernel
theorem dX12_in_3 : decode cX12_in 3 = .ok (.ifCond .lt 14, 3) := by decide +kernel
theorem dX12_in_6 : decode cX12_in 6 = .ok (.lload_n 0, 1) := by decide +kernel
theorem dX12_in_7 : decode cX12_in 7 = .ok (.lload 4, 2) := by decide +kernel
theorem dX12_in_9 : decode cX12_in 9 = .ok (.lcmp, 1) := by decide +kernel
theorem dX12_in_10 : decode cX12_in 10 = .ok (.ifCond .gt 7, 3) := by decide +kernel
theorem dX12_in_13 : decode cX12_in 13 = .ok (.iconst 1, 1) := by decide +kernel
theorem dX12_in_14 : decode cX12_in 14 = .ok (.goto 4, 3) := by decide +kernel
theorem dX12_in_17 : decode cX12_in 17 = .ok (.iconst 0, 1) := by decide +kernel
theorem dX12_in_18 : decode cX12_in 18 = .ok (.ireturn, 1) := by decide +kernel
theorem dX12_has_0 : decode cX12_has 0 = .ok (.iload_n 0, 1) := by decide +kernel
theorem dX12_has_1 : decode cX12_has 1 = .ok (.iload_n 1, 1) := by decide +kernel
theorem dX12_has_2 : decode cX12_has 2 = .ok (.ishr, 1) := by decide +kernel
theorem dX12_has_3 : decode cX12_has 3 = .ok (.iconst 1, 1) := by decide +kernel
theorem dX12_has_4 : decode cX12_has 4 = .ok (.iand, 1) := by decide +kernel
theorem dX12_has_5 : decode cX12_has 5 = .ok (.iconst 1, 1) := by decide +kernel
theorem dX12_has_6 : decode cX12_has 6 = .ok (.if_icmp .ne 7, 3) := by decide +kernel
theorem dX12_has_9 : decode cX12_has 9 = .ok (.iconst 1, 1) := by decide +kernel
theorem dX12_has_10 : decode cX12_has 10 = .ok (.goto 4, 3) := by decide +kernel
theorem dX12_has_13 : decode cX12_has 13 = .ok (.iconst 0, 1) := by decide +kernel
theorem dX12_has_14 : decode cX12_has 14 = .ok (.ireturn, 1) := by decide +kernel
theorem dX12_bits_0 : decode cX12_bits 0 = .ok (.iconst 0, 1) := by decide +kernel
theorem dX12_bits_1 : decode cX12_bits 1 = .ok (.istore_n 1, 1) := by decide +kernel
theorem dX12_bits_2 : decode cX12_bits 2 = .ok (.iconst 0, 1) := by decide +kernel
theorem dX12_bits_3 : decode cX12_bits 3 = .ok (.istore_n 2, 1) := by decide +kernel
theorem dX12_bits_4 : decode cX12_bits 4 = .ok (.iload_n 2, 1) := by decide +kernel
theorem dX12_bits_5 : decode cX12_bits 5 = .ok (.bipush 20, 2) := by decide +kernel
theorem dX12_bits_7 : decode cX12_bits 7 = .ok (.if_icmp .ge 17, 3) := by decide +kernel
theorem dX12_bits_10 : decode cX12_bits 10 = .ok (.iload_n 1, 1) := by decide +kernel
theorem dX12_bits_11 : decode cX12_bits 11 = .ok (.iload_n 0, 1) := by decide +kernel
theorem dX12_bits_12 : decode cX12_bits 12 = .ok (.iload_n 2, 1) := by decide +kernel
theorem dX12_bits_13 : decode cX12_bits 13 = .ok (.ishr, 1) := by decide +kernel
theorem dX12_bits_14 : decode cX12_bits 14 = .ok (.iconst 1, 1) := by decide +kernel
theorem dX12_bits_15 : decode cX12_bits 15 = .ok (.iand, 1) := by decide +kernel
theorem dX12_bits_16 : decode cX12_bits 16 = .ok (.iadd, 1) := by decide +kernel
theorem dX12_bits_17 : decode cX12_bits 17 = .ok (.istore_n 1, 1) := by decide +kernel
theorem dX12_bits_18 : decode cX12_bits 18 = .ok (.iinc 2 1, 3) := by decide +kernel
theorem dX12_bits_21 : decode cX12_bits 21 = .ok (.goto (-17), 3) := by decide +kernel
theorem dX12_bits_24 : decode cX12_bits 24 = .ok (.iload_n 1, 1) := by decide +kernel
theorem dX12_bits_25 : decode cX12_bits 25 = .ok (.ireturn, 1) := by decide +kernel
theorem dX12_isCell_0 : decode cX12_isCell 0 = .ok (.iload_n 1, 1) := by decide +kernel
theorem dX12_isCell_1 : decode cX12_isCell 1 = .ok (.i2l, 1) := by decide +kernel
theorem dX12_isCell_2 : decode cX12_isCell 2 = .ok (.lconst 0, 1) := by decide +kernel
theorem dX12_isCell_3 : decode cX12_isCell 3 = .ok (.aload_n 0, 1) := by decide +kernel
theorem dX12_isCell_4 : decode cX12_isCell 4 = .ok (.getfield 78, 3) := by decide +kernel
theorem dX12_isCell_7 : decode cX12_isCell 7 = .ok (.iconst 1, 1) := by decide +kernel
theorem dX12_isCell_8 : decode cX12_isCell 8 = .ok (.isub, 1) := by decide +kernel
theorem dX12_isCell_9 : decode cX12_isCell 9 = .ok (.i2l, 1) := by decide +kernel
theorem dX12_isCell_10 : decode cX12_isCell 10 = .ok (.invokestatic 81, 3) := by decide +kernel
theorem dX12_isCell_13 : decode cX12_isCell 13 = .ok (.ireturn, 1) := by decide +kernel
theorem dX12_isCart_0 : decode cX12_isCart 0 = .ok (.iload_n 1, 1) := by decide +kernel
theorem dX12_isCart_1 : decode cX12_isCart 1 = .ok (.i2l, 1) := by decide +kernel
theorem dX12_isCart_2 : decode cX12_isCart 2 = .ok (.lconst 0, 1) := by decide +kernel
theorem dX12_isCart_3 : decode cX12_isCart 3 = .ok (.aload_n 0, 1) := by decide +kernel
theorem dX12_isCart_4 : decode cX12_isCart 4 = .ok (.getfield 85, 3) := by decide +kernel
theorem dX12_isCart_7 : decode cX12_isCart 7 = .ok (.iconst 1, 1) := by decide +kernel
theorem dX12_isCart_8 : decode cX12_isCart 8 = .ok (.isub, 1) := by decide +kernel
theorem dX12_isCart_9 : decode cX12_isCart 9 = .ok (.i2l, 1) := by decide +kernel
theorem dX12_isCart_10 : decode cX12_isCart 10 = .ok (.invokestatic 81, 3) := by decide +kernel
theorem dX12_isCart_13 : decode cX12_isCart 13 = .ok (.ireturn, 1) := by decide +kernel
theorem dX12_feed_0 : decode cX12_feed 0 = .ok (.iload_n 1, 1) := by decide +kernel
theorem dX12_feed_1 : decode cX12_feed 1 = .ok (.i2l, 1) := by decide +kernel
theorem dX12_feed_2 : decode cX12_feed 2 = .ok (.lconst 0, 1) := by decide +kernel
theorem dX12_feed_3 : decode cX12_feed 3 = .ok (.ldc2_w 88, 3) := by decide +kernel
theorem dX12_feed_6 : decode cX12_feed 6 = .ok (.invokestatic 81, 3) := by decide +kernel
theorem dX12_feed_9 : decode cX12_feed 9 = .ok (.ifCond .ne 6, 3) := by decide +kernel
theorem dX12_feed_12 : decode cX12_feed 12 = .ok (.ldc 90, 2) := by decide +kernel
theorem dX12_feed_14 : decode cX12_feed 14 = .ok (.ireturn, 1) := by decide +kernel
theorem dX12_feed_15 : decode cX12_feed 15 = .ok (.aload_n 0, 1) := by decide +kernel
theorem dX12_feed_16 : decode cX12_feed 16 = .ok (.getfield 91, 3) := by decide +kernel
theorem dX12_feed_19 : decode cX12_feed 19 = .ok (.sipush 240, 3) := by decide +kernel
theorem dX12_feed_22 : decode cX12_feed 22 = .ok (.if_icmp .ne 6, 3) := by decide +kernel
theorem dX12_feed_25 : decode cX12_feed 25 = .ok (.ldc 94, 2) := by decide +kernel
theorem dX12_feed_27 : decode cX12_feed 27 = .ok (.ireturn, 1) := by decide +kernel
theorem dX12_feed_28 : decode cX12_feed 28 = .ok (.aload_n 0, 1) := by decide +kernel
theorem dX12_feed_29 : decode cX12_feed 29 = .ok (.getfield 28, 3) := by decide +kernel
theorem dX12_feed_32 : decode cX12_feed 32 = .ok (.aload_n 0, 1) := by decide +kernel
theorem dX12_feed_33 : decode cX12_feed 33 = .ok (.getfield 91, 3) := by decide +kernel
theorem dX12_feed_36 : decode cX12_feed 36 = .ok (.iload_n 1, 1) := by decide +kernel
theorem dX12_feed_37 : decode cX12_feed 37 = .ok (.iastore, 1) := by decide +kernel
theorem dX12_feed_38 : decode cX12_feed 38 = .ok (.aload_n 0, 1) := by decide +kernel
theorem dX12_feed_39 : decode cX12_feed 39 = .ok (.dup, 1) := by decide +kernel
theorem dX12_feed_40 : decode cX12_feed 40 = .ok (.getfield 91, 3) := by decide +kernel
theorem dX12_feed_43 : decode cX12_feed 43 = .ok (.iconst 1, 1) := by decide +kernel
theorem dX12_feed_44 : decode cX12_feed 44 = .ok (.iadd, 1) := by decide +kernel
theorem dX12_feed_45 : decode cX12_feed 45 = .ok (.putfield 91, 3) := by decide +kernel
theorem dX12_feed_48 : decode cX12_feed 48 = .ok (.aload_n 0, 1) := by decide +kernel
theorem dX12_feed_49 : decode cX12_feed 49 = .ok (.getfield 91, 3) := by decide +kernel
theorem dX12_feed_52 : decode cX12_feed 52 = .ok (.ireturn, 1) := by decide +kernel
theorem dX12_here_0 : decode cX12_here 0 = .ok (.aload_n 0, 1) := by decide +kernel
theorem dX12_here_1 : decode cX12_here 1 = .ok (.getfield 95, 3) := by decide +kernel
theorem dX12_here_4 : decode cX12_here 4 = .ok (.aload_n 0, 1) := by decide +kernel
theorem dX12_here_5 : decode cX12_here 5 = .ok (.getfield 91, 3) := by decide +kernel
theorem dX12_here_8 : decode cX12_here 8 = .ok (.if_icmp .ge 30, 3) := by decide +kernel
theorem dX12_here_11 : decode cX12_here 11 = .ok (.aload_n 0, 1) := by decide +kernel
theorem dX12_here_12 : decode cX12_here 12 = .ok (.getfield 28, 3) := by decide +kernel
theorem dX12_here_15 : decode cX12_here 15 = .ok (.aload_n 0, 1) := by decide +kernel
theorem dX12_here_16 : decode cX12_here 16 = .ok (.getfield 95, 3) := by decide +kernel
theorem dX12_here_19 : decode cX12_here 19 = .ok (.iaload, 1) := by decide +kernel
theorem dX12_here_20 : decode cX12_here 20 = .ok (.bipush 32, 2) := by decide +kernel
theorem dX12_here_22 : decode cX12_here 22 = .ok (.if_icmp .ne 16, 3) := by decide +kernel
theorem dX12_here_25 : decode cX12_here 25 = .ok (.aload_n 0, 1) := by decide +kernel
theorem dX12_here_26 : decode cX12_here 26 = .ok (.dup, 1) := by decide +kernel
theorem dX12_here_27 : decode cX12_here 27 = .ok (.getfield 95, 3) := by decide +kernel
theorem dX12_here_30 : decode cX12_here 30 = .ok (.iconst 1, 1) := by decide +kernel
theorem dX12_here_31 : decode cX12_here 31 = .ok (.iadd, 1) := by decide +kernel
theorem dX12_here_32 : decode cX12_here 32 = .ok (.putfield 95, 3) := by decide +kernel
theorem dX12_here_35 : decode cX12_here 35 = .ok (.goto (-35), 3) := by decide +kernel
theorem dX12_here_38 : decode cX12_here 38 = .ok (.aload_n 0, 1) := by decide +kernel
theorem dX12_here_39 : decode cX12_here 39 = .ok (.getfield 95, 3) := by decide +kernel
theorem dX12_here_42 : decode cX12_here 42 = .ok (.aload_n 0, 1) := by decide +kernel
theorem dX12_here_43 : decode cX12_here 43 = .ok (.getfield 91, 3) := by decide +kernel
theorem dX12_here_46 : decode cX12_here 46 = .ok (.if_icmp .ge 15, 3) := by decide +kernel
theorem dX12_here_49 : decode cX12_here 49 = .ok (.aload_n 0, 1) := by decide +kernel
theorem dX12_here_50 : decode cX12_here 50 = .ok (.getfield 28, 3) := by decide +kernel
