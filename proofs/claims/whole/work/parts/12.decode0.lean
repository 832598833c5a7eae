theorem dX0_init_0 : decode cX0_init 0 = .ok (.aload_n 0, 1) := by decide +kernel
theorem dX0_init_1 : decode cX0_init 1 = .ok (.invokespecial 1, 3) := by decide +kernel
theorem dX0_init_4 : decode cX0_init 4 = .ok (.iconst 0, 1) := by decide +kernel
theorem dX0_init_5 : decode cX0_init 5 = .ok (.iload_n 1, 1) := by decide +kernel
theorem dX0_init_6 : decode cX0_init 6 = .ok (.invokestatic 7, 3) := by decide +kernel
theorem dX0_init_9 : decode cX0_init 9 = .ok (.istore_n 2, 1) := by decide +kernel
theorem dX0_init_10 : decode cX0_init 10 = .ok (.aload_n 0, 1) := by decide +kernel
theorem dX0_init_11 : decode cX0_init 11 = .ok (.iload_n 2, 1) := by decide +kernel
theorem dX0_init_12 : decode cX0_init 12 = .ok (.newarray .int, 2) := by decide +kernel
theorem dX0_init_14 : decode cX0_init 14 = .ok (.putfield 13, 3) := by decide +kernel
theorem dX0_init_17 : decode cX0_init 17 = .ok (.aload_n 0, 1) := by decide +kernel
theorem dX0_init_18 : decode cX0_init 18 = .ok (.iload_n 2, 1) := by decide +kernel
theorem dX0_init_19 : decode cX0_init 19 = .ok (.newarray .int, 2) := by decide +kernel
theorem dX0_init_21 : decode cX0_init 21 = .ok (.putfield 19, 3) := by decide +kernel
theorem dX0_init_24 : decode cX0_init 24 = .ok (.return_, 1) := by decide +kernel
theorem dX0_isFull_0 : decode cX0_isFull 0 = .ok (.aload_n 0, 1) := by decide +kernel
theorem dX0_isFull_1 : decode cX0_isFull 1 = .ok (.getfield 22, 3) := by decide +kernel
theorem dX0_isFull_4 : decode cX0_isFull 4 = .ok (.aload_n 0, 1) := by decide +kernel
theorem dX0_isFull_5 : decode cX0_isFull 5 = .ok (.getfield 13, 3) := by decide +kernel
theorem dX0_isFull_8 : decode cX0_isFull 8 = .ok (.arraylength, 1) := by decide +kernel
theorem dX0_isFull_9 : decode cX0_isFull 9 = .ok (.if_icmp .lt 7, 3) := by decide +kernel
theorem dX0_isFull_12 : decode cX0_isFull 12 = .ok (.iconst 1, 1) := by decide +kernel
theorem dX0_isFull_13 : decode cX0_isFull 13 = .ok (.goto 4, 3) := by decide +kernel
theorem dX0_isFull_16 : decode cX0_isFull 16 = .ok (.iconst 0, 1) := by decide +kernel
theorem dX0_isFull_17 : decode cX0_isFull 17 = .ok (.ireturn, 1) := by decide +kernel
theorem dX0_append_0 : decode cX0_append 0 = .ok (.aload_n 0, 1) := by decide +kernel
theorem dX0_append_1 : decode cX0_append 1 = .ok (.invokevirtual 26, 3) := by decide +kernel
theorem dX0_append_4 : decode cX0_append 4 = .ok (.ifCond .ne 33, 3) := by decide +kernel
theorem dX0_append_7 : decode cX0_append 7 = .ok (.aload_n 0, 1) := by decide +kernel
theorem dX0_append_8 : decode cX0_append 8 = .ok (.getfield 13, 3) := by decide +kernel
theorem dX0_append_11 : decode cX0_append 11 = .ok (.aload_n 0, 1) := by decide +kernel
theorem dX0_append_12 : decode cX0_append 12 = .ok (.getfield 22, 3) := by decide +kernel
theorem dX0_append_15 : decode cX0_append 15 = .ok (.iload_n 1, 1) := by decide +kernel
theorem dX0_append_16 : decode cX0_append 16 = .ok (.iastore, 1) := by decide +kernel
theorem dX0_append_17 : decode cX0_append 17 = .ok (.aload_n 0, 1) := by decide +kernel
theorem dX0_append_18 : decode cX0_append 18 = .ok (.getfield 19, 3) := by decide +kernel
theorem dX0_append_21 : decode cX0_append 21 = .ok (.aload_n 0, 1) := by decide +kernel
theorem dX0_append_22 : decode cX0_append 22 = .ok (.getfield 22, 3) := by decide +kernel
theorem dX0_append_25 : decode cX0_append 25 = .ok (.iload_n 2, 1) := by decide +kernel
theorem dX0_append_26 : decode cX0_append 26 = .ok (.iastore, 1) := by decide +kernel
theorem dX0_append_27 : decode cX0_append 27 = .ok (.aload_n 0, 1) := by decide +kernel
theorem dX0_append_28 : decode cX0_append 28 = .ok (.dup, 1) := by decide +kernel
theorem dX0_append_29 : decode cX0_append 29 = .ok (.getfield 22, 3) := by decide +kernel
theorem dX0_append_32 : decode cX0_append 32 = .ok (.iconst 1, 1) := by decide +kernel
theorem dX0_append_33 : decode cX0_append 33 = .ok (.iadd, 1) := by decide +kernel
theorem dX0_append_34 : decode cX0_append 34 = .ok (.putfield 22, 3) := by decide +kernel
theorem dX0_append_37 : decode cX0_append 37 = .ok (.return_, 1) := by decide +kernel
theorem dX1_init_0 : decode cX1_init 0 = .ok (.aload_n 0, 1) := by decide +kernel
theorem dX1_init_1 : decode cX1_init 1 = .ok (.invokespecial 3, 3) := by decide +kernel
theorem dX1_init_4 : decode cX1_init 4 = .ok (.aload_n 0, 1) := by decide +kernel
theorem dX1_init_5 : decode cX1_init 5 = .ok (.bipush 61, 2) := by decide +kernel
theorem dX1_init_7 : decode cX1_init 7 = .ok (.newarray .boolean, 2) := by decide +kernel
theorem dX1_init_9 : decode cX1_init 9 = .ok (.putfield 9, 3) := by decide +kernel
theorem dX1_init_12 : decode cX1_init 12 = .ok (.aload_n 0, 1) := by decide +kernel
theorem dX1_init_13 : decode cX1_init 13 = .ok (.bipush 21, 2) := by decide +kernel
theorem dX1_init_15 : decode cX1_init 15 = .ok (.newarray .int, 2) := by decide +kernel
theorem dX1_init_17 : decode cX1_init 17 = .ok (.putfield 15, 3) := by decide +kernel
theorem dX1_init_20 : decode cX1_init 20 = .ok (.aload_n 0, 1) := by decide +kernel
theorem dX1_init_21 : decode cX1_init 21 = .ok (.new 19, 3) := by decide +kernel
theorem dX1_init_24 : decode cX1_init 24 = .ok (.dup, 1) := by decide +kernel
theorem dX1_init_25 : decode cX1_init 25 = .ok (.invokespecial 21, 3) := by decide +kernel
theorem dX1_init_28 : decode cX1_init 28 = .ok (.putfield 22, 3) := by decide +kernel
theorem dX1_init_31 : decode cX1_init 31 = .ok (.aload_n 0, 1) := by decide +kernel
theorem dX1_init_32 : decode cX1_init 32 = .ok (.aload_n 1, 1) := by decide +kernel
theorem dX1_init_33 : decode cX1_init 33 = .ok (.putfield 26, 3) := by decide +kernel
theorem dX1_init_36 : decode cX1_init 36 = .ok (.aload_n 0, 1) := by decide +kernel
theorem dX1_init_37 : decode cX1_init 37 = .ok (.aload_n 2, 1) := by decide +kernel
theorem dX1_init_38 : decode cX1_init 38 = .ok (.putfield 30, 3) := by decide +kernel
theorem dX1_init_41 : decode cX1_init 41 = .ok (.aload_n 0, 1) := by decide +kernel
theorem dX1_init_42 : decode cX1_init 42 = .ok (.aload_n 3, 1) := by decide +kernel
theorem dX1_init_43 : decode cX1_init 43 = .ok (.putfield 34, 3) := by decide +kernel
theorem dX1_init_46 : decode cX1_init 46 = .ok (.aload_n 0, 1) := by decide +kernel
theorem dX1_init_47 : decode cX1_init 47 = .ok (.aload 4, 2) := by decide +kernel
theorem dX1_init_49 : decode cX1_init 49 = .ok (.putfield 38, 3) := by decide +kernel
theorem dX1_init_52 : decode cX1_init 52 = .ok (.return_, 1) := by decide +kernel
theorem dX1_isAsHeard_0 : decode cX1_isAsHeard 0 = .ok (.iconst 0, 1) := by decide +kernel
theorem dX1_isAsHeard_1 : decode cX1_isAsHeard 1 = .ok (.istore_n 2, 1) := by decide +kernel
theorem dX1_isAsHeard_2 : decode cX1_isAsHeard 2 = .ok (.iload_n 2, 1) := by decide +kernel
theorem dX1_isAsHeard_3 : decode cX1_isAsHeard 3 = .ok (.aload_n 0, 1) := by decide +kernel
theorem dX1_isAsHeard_4 : decode cX1_isAsHeard 4 = .ok (.getfield 38, 3) := by decide +kernel
theorem dX1_isAsHeard_7 : decode cX1_isAsHeard 7 = .ok (.getfield 42, 3) := by decide +kernel
theorem dX1_isAsHeard_10 : decode cX1_isAsHeard 10 = .ok (.if_icmp .ge 62, 3) := by decide +kernel
theorem dX1_isAsHeard_13 : decode cX1_isAsHeard 13 = .ok (.aload_n 0, 1) := by decide +kernel
theorem dX1_isAsHeard_14 : decode cX1_isAsHeard 14 = .ok (.getfield 38, 3) := by decide +kernel
theorem dX1_isAsHeard_17 : decode cX1_isAsHeard 17 = .ok (.getfield 48, 3) := by decide +kernel
theorem dX1_isAsHeard_20 : decode cX1_isAsHeard 20 = .ok (.iload_n 2, 1) := by decide +kernel
theorem dX1_isAsHeard_21 : decode cX1_isAsHeard 21 = .ok (.iaload, 1) := by decide +kernel
theorem dX1_isAsHeard_22 : decode cX1_isAsHeard 22 = .ok (.istore_n 3, 1) := by decide +kernel
theorem dX1_isAsHeard_23 : decode cX1_isAsHeard 23 = .ok (.aload_n 0, 1) := by decide +kernel
theorem dX1_isAsHeard_24 : decode cX1_isAsHeard 24 = .ok (.getfield 26, 3) := by decide +kernel
theorem dX1_isAsHeard_27 : decode cX1_isAsHeard 27 = .ok (.iload_n 3, 1) := by decide +kernel
theorem dX1_isAsHeard_28 : decode cX1_isAsHeard 28 = .ok (.invokevirtual 51, 3) := by decide +kernel
theorem dX1_isAsHeard_31 : decode cX1_isAsHeard 31 = .ok (.ifCond .eq 35, 3) := by decide +kernel
theorem dX1_isAsHeard_34 : decode cX1_isAsHeard 34 = .ok (.aload_n 0, 1) := by decide +kernel
theorem dX1_isAsHeard_35 : decode cX1_isAsHeard 35 = .ok (.getfield 34, 3) := by decide +kernel
theorem dX1_isAsHeard_38 : decode cX1_isAsHeard 38 = .ok (.iload_n 3, 1) := by decide +kernel
theorem dX1_isAsHeard_39 : decode cX1_isAsHeard 39 = .ok (.iload_n 1, 1) := by decide +kernel
theorem dX1_isAsHeard_40 : decode cX1_isAsHeard 40 = .ok (.aload_n 0, 1) := by decide +kernel
theorem dX1_isAsHeard_41 : decode cX1_isAsHeard 41 = .ok (.getfield 30, 3) := by decide +kernel
theorem dX1_isAsHeard_44 : decode cX1_isAsHeard 44 = .ok (.getfield 57, 3) := by decide +kernel
theorem dX1_isAsHeard_47 : decode cX1_isAsHeard 47 = .ok (.iload_n 3, 1) := by decide +kernel
theorem dX1_isAsHeard_48 : decode cX1_isAsHeard 48 = .ok (.iaload, 1) := by decide +kernel
theorem dX1_isAsHeard_49 : decode cX1_isAsHeard 49 = .ok (.invokevirtual 62, 3) := by decide +kernel
theorem dX1_isAsHeard_52 : decode cX1_isAsHeard 52 = .ok (.aload_n 0, 1) := by decide +kernel
theorem dX1_isAsHeard_53 : decode cX1_isAsHeard 53 = .ok (.getfield 38, 3) := by decide +kernel
theorem dX1_isAsHeard_56 : decode cX1_isAsHeard 56 = .ok (.getfield 68, 3) := by decide +kernel
theorem dX1_isAsHeard_59 : decode cX1_isAsHeard 59 = .ok (.iload_n 2, 1) := by decide +kernel
theorem dX1_isAsHeard_60 : decode cX1_isAsHeard 60 = .ok (.iaload, 1) := by decide +kernel
theorem dX1_isAsHeard_61 : decode cX1_isAsHeard 61 = .ok (.if_icmp .eq 5, 3) := by decide +kernel
theorem dX1_isAsHeard_64 : decode cX1_isAsHeard 64 = .ok (.iconst 0, 1) := by decide +kernel
theorem dX1_isAsHeard_65 : decode cX1_isAsHeard 65 = .ok (.ireturn, 1) := by decide +kernel
theorem dX1_isAsHeard_66 : decode cX1_isAsHeard 66 = .ok (.iinc 2 1, 3) := by decide +kernel
theorem dX1_isAsHeard_69 : decode cX1_isAsHeard 69 = .ok (.goto (-67), 3) := by decide +kernel
theorem dX1_isAsHeard_72 : decode cX1_isAsHeard 72 = .ok (.iconst 1, 1) := by decide +kernel
theorem dX1_isAsHeard_73 : decode cX1_isAsHeard 73 = .ok (.ireturn, 1) := by decide +kernel
theorem dX1_fittingRains_0 : decode cX1_fittingRains 0 = .ok (.aload_n 0, 1) := by decide +kernel
theorem dX1_fittingRains_1 : decode cX1_fittingRains 1 = .ok (.getfield 22, 3) := by decide +kernel
theorem dX1_fittingRains_4 : decode cX1_fittingRains 4 = .ok (.invokevirtual 71, 3) := by decide +kernel
theorem dX1_fittingRains_7 : decode cX1_fittingRains 7 = .ok (.iconst 0, 1) := by decide +kernel
theorem dX1_fittingRains_8 : decode cX1_fittingRains 8 = .ok (.istore_n 1, 1) := by decide +kernel
theorem dX1_fittingRains_9 : decode cX1_fittingRains 9 = .ok (.iload_n 1, 1) := by decide +kernel
theorem dX1_fittingRains_10 : decode cX1_fittingRains 10 = .ok (.bipush 60, 2) := by decide +kernel
theorem dX1_fittingRains_12 : decode cX1_fittingRains 12 = .ok (.if_icmp .gt 37, 3) := by decide +kernel
theorem dX1_fittingRains_15 : decode cX1_fittingRains 15 = .ok (.aload_n 0, 1) := by decide +kernel
theorem dX1_fittingRains_16 : decode cX1_fittingRains 16 = .ok (.getfield 9, 3) := by decide +kernel
theorem dX1_fittingRains_19 : decode cX1_fittingRains 19 = .ok (.iload_n 1, 1) := by decide +kernel
theorem dX1_fittingRains_20 : decode cX1_fittingRains 20 = .ok (.aload_n 0, 1) := by decide +kernel
theorem dX1_fittingRains_21 : decode cX1_fittingRains 21 = .ok (.iload_n 1, 1) := by decide +kernel
theorem dX1_fittingRains_22 : decode cX1_fittingRains 22 = .ok (.invokevirtual 74, 3) := by decide +kernel
theorem dX1_fittingRains_25 : decode cX1_fittingRains 25 = .ok (.bastore, 1) := by decide +kernel
theorem dX1_fittingRains_26 : decode cX1_fittingRains 26 = .ok (.aload_n 0, 1) := by decide +kernel
theorem dX1_fittingRains_27 : decode cX1_fittingRains 27 = .ok (.getfield 9, 3) := by decide +kernel
theorem dX1_fittingRains_30 : decode cX1_fittingRains 30 = .ok (.iload_n 1, 1) := by decide +kernel
theorem dX1_fittingRains_31 : decode cX1_fittingRains 31 = .ok (.baload, 1) := by decide +kernel
theorem dX1_fittingRains_32 : decode cX1_fittingRains 32 = .ok (.ifCond .eq 11, 3) := by decide +kernel
theorem dX1_fittingRains_35 : decode cX1_fittingRains 35 = .ok (.aload_n 0, 1) := by decide +kernel
theorem dX1_fittingRains_36 : decode cX1_fittingRains 36 = .ok (.getfield 22, 3) := by decide +kernel
theorem dX1_fittingRains_39 : decode cX1_fittingRains 39 = .ok (.iload_n 1, 1) := by decide +kernel
theorem dX1_fittingRains_40 : decode cX1_fittingRains 40 = .ok (.invokevirtual 77, 3) := by decide +kernel
theorem dX1_fittingRains_43 : decode cX1_fittingRains 43 = .ok (.iinc 1 1, 3) := by decide +kernel
theorem dX1_fittingRains_46 : decode cX1_fittingRains 46 = .ok (.goto (-37), 3) := by decide +kernel
theorem dX1_fittingRains_49 : decode cX1_fittingRains 49 = .ok (.aload_n 0, 1) := by decide +kernel
theorem dX1_fittingRains_50 : decode cX1_fittingRains 50 = .ok (.getfield 22, 3) := by decide +kernel
theorem dX1_fittingRains_53 : decode cX1_fittingRains 53 = .ok (.areturn, 1) := by decide +kernel
theorem dX1_bestToSend_0 : decode cX1_bestToSend 0 = .ok (.aload_n 0, 1) := by decide +kernel
theorem dX1_bestToSend_1 : decode cX1_bestToSend 1 = .ok (.invokevirtual 81, 3) := by decide +kernel
theorem dX1_bestToSend_4 : decode cX1_bestToSend 4 = .ok (.iconst 0, 1) := by decide +kernel
theorem dX1_bestToSend_5 : decode cX1_bestToSend 5 = .ok (.invokevirtual 85, 3) := by decide +kernel
theorem dX1_bestToSend_8 : decode cX1_bestToSend 8 = .ok (.istore_n 1, 1) := by decide +kernel
theorem dX1_bestToSend_9 : decode cX1_bestToSend 9 = .ok (.iconst (-1), 1) := by decide +kernel
theorem dX1_bestToSend_10 : decode cX1_bestToSend 10 = .ok (.istore_n 2, 1) := by decide +kernel
theorem dX1_bestToSend_11 : decode cX1_bestToSend 11 = .ok (.iconst 0, 1) := by decide +kernel
theorem dX1_bestToSend_12 : decode cX1_bestToSend 12 = .ok (.istore_n 3, 1) := by decide +kernel
theorem dX1_bestToSend_13 : decode cX1_bestToSend 13 = .ok (.iload_n 3, 1) := by decide +kernel
theorem dX1_bestToSend_14 : decode cX1_bestToSend 14 = .ok (.aload_n 0, 1) := by decide +kernel
theorem dX1_bestToSend_15 : decode cX1_bestToSend 15 = .ok (.getfield 26, 3) := by decide +kernel
theorem dX1_bestToSend_18 : decode cX1_bestToSend 18 = .ok (.getfield 89, 3) := by decide +kernel
theorem dX1_bestToSend_21 : decode cX1_bestToSend 21 = .ok (.if_icmp .ge 27, 3) := by decide +kernel
theorem dX1_bestToSend_24 : decode cX1_bestToSend 24 = .ok (.aload_n 0, 1) := by decide +kernel
theorem dX1_bestToSend_25 : decode cX1_bestToSend 25 = .ok (.iload_n 3, 1) := by decide +kernel
theorem dX1_bestToSend_26 : decode cX1_bestToSend 26 = .ok (.invokevirtual 92, 3) := by decide +kernel
theorem dX1_bestToSend_29 : decode cX1_bestToSend 29 = .ok (.istore 4, 2) := by decide +kernel
theorem dX1_bestToSend_31 : decode cX1_bestToSend 31 = .ok (.iload 4, 2) := by decide +kernel
theorem dX1_bestToSend_33 : decode cX1_bestToSend 33 = .ok (.iload_n 1, 1) := by decide +kernel
theorem dX1_bestToSend_34 : decode cX1_bestToSend 34 = .ok (.if_icmp .ge 8, 3) := by decide +kernel
theorem dX1_bestToSend_37 : decode cX1_bestToSend 37 = .ok (.iload_n 3, 1) := by decide +kernel
theorem dX1_bestToSend_38 : decode cX1_bestToSend 38 = .ok (.istore_n 2, 1) := by decide +kernel
theorem dX1_bestToSend_39 : decode cX1_bestToSend 39 = .ok (.iload 4, 2) := by decide +kernel
theorem dX1_bestToSend_41 : decode cX1_bestToSend 41 = .ok (.istore_n 1, 1) := by decide +kernel
theorem dX1_bestToSend_42 : decode cX1_bestToSend 42 = .ok (.iinc 3 1, 3) := by decide +kernel
theorem dX1_bestToSend_45 : decode cX1_bestToSend 45 = .ok (.goto (-32), 3) := by decide +kernel
theorem dX1_bestToSend_48 : decode cX1_bestToSend 48 = .ok (.iload_n 2, 1) := by decide +kernel
theorem dX1_bestToSend_49 : decode cX1_bestToSend 49 = .ok (.ireturn, 1) := by decide +kernel
theorem dX1_greatestPart_0 : decode cX1_greatestPart 0 = .ok (.aload_n 0, 1) := by decide +kernel
theorem dX1_greatestPart_1 : decode cX1_greatestPart 1 = .ok (.getfield 15, 3) := by decide +kernel
theorem dX1_greatestPart_4 : decode cX1_greatestPart 4 = .ok (.iconst 0, 1) := by decide +kernel
theorem dX1_greatestPart_5 : decode cX1_greatestPart 5 = .ok (.invokestatic 95, 3) := by decide +kernel
theorem dX1_greatestPart_8 : decode cX1_greatestPart 8 = .ok (.iconst 0, 1) := by decide +kernel
theorem dX1_greatestPart_9 : decode cX1_greatestPart 9 = .ok (.istore_n 2, 1) := by decide +kernel
theorem dX1_greatestPart_10 : decode cX1_greatestPart 10 = .ok (.iconst 0, 1) := by decide +kernel
theorem dX1_greatestPart_11 : decode cX1_greatestPart 11 = .ok (.istore_n 3, 1) := by decide +kernel
theorem dX1_greatestPart_12 : decode cX1_greatestPart 12 = .ok (.iload_n 3, 1) := by decide +kernel
theorem dX1_greatestPart_13 : decode cX1_greatestPart 13 = .ok (.bipush 60, 2) := by decide +kernel
theorem dX1_greatestPart_15 : decode cX1_greatestPart 15 = .ok (.if_icmp .gt 63, 3) := by decide +kernel
theorem dX1_greatestPart_18 : decode cX1_greatestPart 18 = .ok (.aload_n 0, 1) := by decide +kernel
theorem dX1_greatestPart_19 : decode cX1_greatestPart 19 = .ok (.getfield 9, 3) := by decide +kernel
theorem dX1_greatestPart_22 : decode cX1_greatestPart 22 = .ok (.iload_n 3, 1) := by decide +kernel
theorem dX1_greatestPart_23 : decode cX1_greatestPart 23 = .ok (.baload, 1) := by decide +kernel
theorem dX1_greatestPart_24 : decode cX1_greatestPart 24 = .ok (.ifCond .eq 48, 3) := by decide +kernel
theorem dX1_greatestPart_27 : decode cX1_greatestPart 27 = .ok (.aload_n 0, 1) := by decide +kernel
theorem dX1_greatestPart_28 : decode cX1_greatestPart 28 = .ok (.getfield 34, 3) := by decide +kernel
theorem dX1_greatestPart_31 : decode cX1_greatestPart 31 = .ok (.iload_n 1, 1) := by decide +kernel
theorem dX1_greatestPart_32 : decode cX1_greatestPart 32 = .ok (.iload_n 3, 1) := by decide +kernel
theorem dX1_greatestPart_33 : decode cX1_greatestPart 33 = .ok (.aload_n 0, 1) := by decide +kernel
theorem dX1_greatestPart_34 : decode cX1_greatestPart 34 = .ok (.getfield 30, 3) := by decide +kernel
theorem dX1_greatestPart_37 : decode cX1_greatestPart 37 = .ok (.getfield 57, 3) := by decide +kernel
theorem dX1_greatestPart_40 : decode cX1_greatestPart 40 = .ok (.iload_n 1, 1) := by decide +kernel
theorem dX1_greatestPart_41 : decode cX1_greatestPart 41 = .ok (.iaload, 1) := by decide +kernel
theorem dX1_greatestPart_42 : decode cX1_greatestPart 42 = .ok (.invokevirtual 62, 3) := by decide +kernel
theorem dX1_greatestPart_45 : decode cX1_greatestPart 45 = .ok (.iconst 1, 1) := by decide +kernel
theorem dX1_greatestPart_46 : decode cX1_greatestPart 46 = .ok (.iadd, 1) := by decide +kernel
theorem dX1_greatestPart_47 : decode cX1_greatestPart 47 = .ok (.istore 4, 2) := by decide +kernel
theorem dX1_greatestPart_49 : decode cX1_greatestPart 49 = .ok (.aload_n 0, 1) := by decide +kernel
theorem dX1_greatestPart_50 : decode cX1_greatestPart 50 = .ok (.getfield 15, 3) := by decide +kernel
theorem dX1_greatestPart_53 : decode cX1_greatestPart 53 = .ok (.iload 4, 2) := by decide +kernel
theorem dX1_greatestPart_55 : decode cX1_greatestPart 55 = .ok (.dup2, 1) := by decide +kernel
theorem dX1_greatestPart_56 : decode cX1_greatestPart 56 = .ok (.iaload, 1) := by decide +kernel
theorem dX1_greatestPart_57 : decode cX1_greatestPart 57 = .ok (.iconst 1, 1) := by decide +kernel
theorem dX1_greatestPart_58 : decode cX1_greatestPart 58 = .ok (.iadd, 1) := by decide +kernel
theorem dX1_greatestPart_59 : decode cX1_greatestPart 59 = .ok (.iastore, 1) := by decide +kernel
theorem dX1_greatestPart_60 : decode cX1_greatestPart 60 = .ok (.iload_n 2, 1) := by decide +kernel
theorem dX1_greatestPart_61 : decode cX1_greatestPart 61 = .ok (.aload_n 0, 1) := by decide +kernel
theorem dX1_greatestPart_62 : decode cX1_greatestPart 62 = .ok (.getfield 15, 3) := by decide +kernel
theorem dX1_greatestPart_65 : decode cX1_greatestPart 65 = .ok (.iload 4, 2) := by decide +kernel
theorem dX1_greatestPart_67 : decode cX1_greatestPart 67 = .ok (.iaload, 1) := by decide +kernel
theorem dX1_greatestPart_68 : decode cX1_greatestPart 68 = .ok (.invokestatic 101, 3) := by decide +kernel
theorem dX1_greatestPart_71 : decode cX1_greatestPart 71 = .ok (.istore_n 2, 1) := by decide +kernel
theorem dX1_greatestPart_72 : decode cX1_greatestPart 72 = .ok (.iinc 3 1, 3) := by decide +kernel
theorem dX1_greatestPart_75 : decode cX1_greatestPart 75 = .ok (.goto (-63), 3) := by decide +kernel
theorem dX1_greatestPart_78 : decode cX1_greatestPart 78 = .ok (.iload_n 2, 1) := by decide +kernel
theorem dX1_greatestPart_79 : decode cX1_greatestPart 79 = .ok (.ireturn, 1) := by decide +kernel
theorem dX2_init_0 : decode cX2_init 0 = .ok (.aload_n 0, 1) := by decide +kernel
theorem dX2_init_1 : decode cX2_init 1 = .ok (.invokespecial 3, 3) := by decide +kernel
theorem dX2_init_4 : decode cX2_init 4 = .ok (.aload_n 0, 1) := by decide +kernel
theorem dX2_init_5 : decode cX2_init 5 = .ok (.aload_n 1, 1) := by decide +kernel
theorem dX2_init_6 : decode cX2_init 6 = .ok (.putfield 9, 3) := by decide +kernel
theorem dX2_init_9 : decode cX2_init 9 = .ok (.aload_n 0, 1) := by decide +kernel
theorem dX2_init_10 : decode cX2_init 10 = .ok (.aload_n 2, 1) := by decide +kernel
theorem dX2_init_11 : decode cX2_init 11 = .ok (.putfield 15, 3) := by decide +kernel
theorem dX2_init_14 : decode cX2_init 14 = .ok (.return_, 1) := by decide +kernel
theorem dX2_wetBehind_0 : decode cX2_wetBehind 0 = .ok (.aload_n 0, 1) := by decide +kernel
theorem dX2_wetBehind_1 : decode cX2_wetBehind 1 = .ok (.getfield 15, 3) := by decide +kernel
theorem dX2_wetBehind_4 : decode cX2_wetBehind 4 = .ok (.getfield 19, 3) := by decide +kernel
theorem dX2_wetBehind_7 : decode cX2_wetBehind 7 = .ok (.istore_n 2, 1) := by decide +kernel
theorem dX2_wetBehind_8 : decode cX2_wetBehind 8 = .ok (.iconst 0, 1) := by decide +kernel
theorem dX2_wetBehind_9 : decode cX2_wetBehind 9 = .ok (.istore_n 3, 1) := by decide +kernel
theorem dX2_wetBehind_10 : decode cX2_wetBehind 10 = .ok (.iload_n 3, 1) := by decide +kernel
theorem dX2_wetBehind_11 : decode cX2_wetBehind 11 = .ok (.iload_n 1, 1) := by decide +kernel
theorem dX2_wetBehind_12 : decode cX2_wetBehind 12 = .ok (.if_icmp .ge 13, 3) := by decide +kernel
theorem dX2_wetBehind_15 : decode cX2_wetBehind 15 = .ok (.iload_n 2, 1) := by decide +kernel
theorem dX2_wetBehind_16 : decode cX2_wetBehind 16 = .ok (.iconst 2, 1) := by decide +kernel
theorem dX2_wetBehind_17 : decode cX2_wetBehind 17 = .ok (.idiv, 1) := by decide +kernel
theorem dX2_wetBehind_18 : decode cX2_wetBehind 18 = .ok (.istore_n 2, 1) := by decide +kernel
theorem dX2_wetBehind_19 : decode cX2_wetBehind 19 = .ok (.iinc 3 1, 3) := by decide +kernel
theorem dX2_wetBehind_22 : decode cX2_wetBehind 22 = .ok (.goto (-12), 3) := by decide +kernel
theorem dX2_wetBehind_25 : decode cX2_wetBehind 25 = .ok (.aload_n 0, 1) := by decide +kernel
theorem dX2_wetBehind_26 : decode cX2_wetBehind 26 = .ok (.getfield 9, 3) := by decide +kernel
theorem dX2_wetBehind_29 : decode cX2_wetBehind 29 = .ok (.aload_n 0, 1) := by decide +kernel
theorem dX2_wetBehind_30 : decode cX2_wetBehind 30 = .ok (.getfield 15, 3) := by decide +kernel
theorem dX2_wetBehind_33 : decode cX2_wetBehind 33 = .ok (.getfield 25, 3) := by decide +kernel
theorem dX2_wetBehind_36 : decode cX2_wetBehind 36 = .ok (.iload_n 1, 1) := by decide +kernel
theorem dX2_wetBehind_37 : decode cX2_wetBehind 37 = .ok (.iadd, 1) := by decide +kernel
theorem dX2_wetBehind_38 : decode cX2_wetBehind 38 = .ok (.invokevirtual 28, 3) := by decide +kernel
theorem dX2_wetBehind_41 : decode cX2_wetBehind 41 = .ok (.iload_n 2, 1) := by decide +kernel
theorem dX2_wetBehind_42 : decode cX2_wetBehind 42 = .ok (.iadd, 1) := by decide +kernel
theorem dX2_wetBehind_43 : decode cX2_wetBehind 43 = .ok (.ireturn, 1) := by decide +kernel
theorem dX2_groundFor_0 : decode cX2_groundFor 0 = .ok (.aload_n 0, 1) := by decide +kernel
theorem dX2_groundFor_1 : decode cX2_groundFor 1 = .ok (.getfield 9, 3) := by decide +kernel
theorem dX2_groundFor_4 : decode cX2_groundFor 4 = .ok (.getfield 34, 3) := by decide +kernel
theorem dX2_groundFor_7 : decode cX2_groundFor 7 = .ok (.iload_n 1, 1) := by decide +kernel
theorem dX2_groundFor_8 : decode cX2_groundFor 8 = .ok (.iaload, 1) := by decide +kernel
theorem dX2_groundFor_9 : decode cX2_groundFor 9 = .ok (.iconst 2, 1) := by decide +kernel
theorem dX2_groundFor_10 : decode cX2_groundFor 10 = .ok (.if_icmp .ne 7, 3) := by decide +kernel
theorem dX2_groundFor_13 : decode cX2_groundFor 13 = .ok (.iconst 0, 1) := by decide +kernel
theorem dX2_groundFor_14 : decode cX2_groundFor 14 = .ok (.goto 4, 3) := by decide +kernel
theorem dX2_groundFor_17 : decode cX2_groundFor 17 = .ok (.iload_n 3, 1) := by decide +kernel
theorem dX2_groundFor_18 : decode cX2_groundFor 18 = .ok (.istore 4, 2) := by decide +kernel
theorem dX2_groundFor_20 : decode cX2_groundFor 20 = .ok (.aload_n 0, 1) := by decide +kernel
theorem dX2_groundFor_21 : decode cX2_groundFor 21 = .ok (.getfield 9, 3) := by decide +kernel
theorem dX2_groundFor_24 : decode cX2_groundFor 24 = .ok (.getfield 38, 3) := by decide +kernel
theorem dX2_groundFor_27 : decode cX2_groundFor 27 = .ok (.iload_n 2, 1) := by decide +kernel
theorem dX2_groundFor_28 : decode cX2_groundFor 28 = .ok (.iaload, 1) := by decide +kernel
theorem dX2_groundFor_29 : decode cX2_groundFor 29 = .ok (.iload 4, 2) := by decide +kernel
theorem dX2_groundFor_31 : decode cX2_groundFor 31 = .ok (.iadd, 1) := by decide +kernel
theorem dX2_groundFor_32 : decode cX2_groundFor 32 = .ok (.aload_n 0, 1) := by decide +kernel
theorem dX2_groundFor_33 : decode cX2_groundFor 33 = .ok (.getfield 15, 3) := by decide +kernel
theorem dX2_groundFor_36 : decode cX2_groundFor 36 = .ok (.getfield 41, 3) := by decide +kernel
theorem dX2_groundFor_39 : decode cX2_groundFor 39 = .ok (.iload_n 2, 1) := by decide +kernel
theorem dX2_groundFor_40 : decode cX2_groundFor 40 = .ok (.iaload, 1) := by decide +kernel
theorem dX2_groundFor_41 : decode cX2_groundFor 41 = .ok (.isub, 1) := by decide +kernel
theorem dX2_groundFor_42 : decode cX2_groundFor 42 = .ok (.istore 5, 2) := by decide +kernel
theorem dX2_groundFor_44 : decode cX2_groundFor 44 = .ok (.iload 5, 2) := by decide +kernel
theorem dX2_groundFor_46 : decode cX2_groundFor 46 = .ok (.ifCond .ge 7, 3) := by decide +kernel
theorem dX2_groundFor_49 : decode cX2_groundFor 49 = .ok (.iconst 0, 1) := by decide +kernel
theorem dX2_groundFor_50 : decode cX2_groundFor 50 = .ok (.goto 5, 3) := by decide +kernel
theorem dX2_groundFor_53 : decode cX2_groundFor 53 = .ok (.iload 5, 2) := by decide +kernel
theorem dX2_groundFor_55 : decode cX2_groundFor 55 = .ok (.ireturn, 1) := by decide +kernel
theorem dX2_weightOf_0 : decode cX2_weightOf 0 = .ok (.aload_n 0, 1) := by decide +kernel
theorem dX2_weightOf_1 : decode cX2_weightOf 1 = .ok (.getfield 9, 3) := by decide +kernel
theorem dX2_weightOf_4 : decode cX2_weightOf 4 = .ok (.getfield 34, 3) := by decide +kernel
theorem dX2_weightOf_7 : decode cX2_weightOf 7 = .ok (.iload_n 1, 1) := by decide +kernel
theorem dX2_weightOf_8 : decode cX2_weightOf 8 = .ok (.iaload, 1) := by decide +kernel
theorem dX2_weightOf_9 : decode cX2_weightOf 9 = .ok (.iconst 1, 1) := by decide +kernel
theorem dX2_weightOf_10 : decode cX2_weightOf 10 = .ok (.if_icmp .ne 7, 3) := by decide +kernel
theorem dX2_weightOf_13 : decode cX2_weightOf 13 = .ok (.iload_n 2, 1) := by decide +kernel
theorem dX2_weightOf_14 : decode cX2_weightOf 14 = .ok (.iconst 2, 1) := by decide +kernel
theorem dX2_weightOf_15 : decode cX2_weightOf 15 = .ok (.idiv, 1) := by decide +kernel
theorem dX2_weightOf_16 : decode cX2_weightOf 16 = .ok (.ireturn, 1) := by decide +kernel
theorem dX2_weightOf_17 : decode cX2_weightOf 17 = .ok (.aload_n 0, 1) := by decide +kernel
theorem dX2_weightOf_18 : decode cX2_weightOf 18 = .ok (.getfield 9, 3) := by decide +kernel
theorem dX2_weightOf_21 : decode cX2_weightOf 21 = .ok (.getfield 34, 3) := by decide +kernel
theorem dX2_weightOf_24 : decode cX2_weightOf 24 = .ok (.iload_n 1, 1) := by decide +kernel
theorem dX2_weightOf_25 : decode cX2_weightOf 25 = .ok (.iaload, 1) := by decide +kernel
theorem dX2_weightOf_26 : decode cX2_weightOf 26 = .ok (.iconst 3, 1) := by decide +kernel
theorem dX2_weightOf_27 : decode cX2_weightOf 27 = .ok (.if_icmp .ne 34, 3) := by decide +kernel
theorem dX2_weightOf_30 : decode cX2_weightOf 30 = .ok (.iload_n 2, 1) := by decide +kernel
theorem dX2_weightOf_31 : decode cX2_weightOf 31 = .ok (.aload_n 0, 1) := by decide +kernel
theorem dX2_weightOf_32 : decode cX2_weightOf 32 = .ok (.getfield 15, 3) := by decide +kernel
theorem dX2_weightOf_35 : decode cX2_weightOf 35 = .ok (.getfield 44, 3) := by decide +kernel
theorem dX2_weightOf_38 : decode cX2_weightOf 38 = .ok (.iload_n 1, 1) := by decide +kernel
theorem dX2_weightOf_39 : decode cX2_weightOf 39 = .ok (.iaload, 1) := by decide +kernel
theorem dX2_weightOf_40 : decode cX2_weightOf 40 = .ok (.bipush 20, 2) := by decide +kernel
theorem dX2_weightOf_42 : decode cX2_weightOf 42 = .ok (.if_icmp .ge 15, 3) := by decide +kernel
theorem dX2_weightOf_45 : decode cX2_weightOf 45 = .ok (.aload_n 0, 1) := by decide +kernel
theorem dX2_weightOf_46 : decode cX2_weightOf 46 = .ok (.getfield 15, 3) := by decide +kernel
theorem dX2_weightOf_49 : decode cX2_weightOf 49 = .ok (.getfield 44, 3) := by decide +kernel
theorem dX2_weightOf_52 : decode cX2_weightOf 52 = .ok (.iload_n 1, 1) := by decide +kernel
theorem dX2_weightOf_53 : decode cX2_weightOf 53 = .ok (.iaload, 1) := by decide +kernel
theorem dX2_weightOf_54 : decode cX2_weightOf 54 = .ok (.goto 5, 3) := by decide +kernel
theorem dX2_weightOf_57 : decode cX2_weightOf 57 = .ok (.bipush 20, 2) := by decide +kernel
theorem dX2_weightOf_59 : decode cX2_weightOf 59 = .ok (.iadd, 1) := by decide +kernel
theorem dX2_weightOf_60 : decode cX2_weightOf 60 = .ok (.ireturn, 1) := by decide +kernel
theorem dX2_weightOf_61 : decode cX2_weightOf 61 = .ok (.iload_n 2, 1) := by decide +kernel
theorem dX2_weightOf_62 : decode cX2_weightOf 62 = .ok (.ireturn, 1) := by decide +kernel
theorem dX2_sinkOf_0 : decode cX2_sinkOf 0 = .ok (.aload_n 0, 1) := by decide +kernel
theorem dX2_sinkOf_1 : decode cX2_sinkOf 1 = .ok (.iload_n 1, 1) := by decide +kernel
theorem dX2_sinkOf_2 : decode cX2_sinkOf 2 = .ok (.iload_n 2, 1) := by decide +kernel
theorem dX2_sinkOf_3 : decode cX2_sinkOf 3 = .ok (.iload_n 3, 1) := by decide +kernel
theorem dX2_sinkOf_4 : decode cX2_sinkOf 4 = .ok (.invokevirtual 47, 3) := by decide +kernel
theorem dX2_sinkOf_7 : decode cX2_sinkOf 7 = .ok (.aload_n 0, 1) := by decide +kernel
theorem dX2_sinkOf_8 : decode cX2_sinkOf 8 = .ok (.iload_n 1, 1) := by decide +kernel
theorem dX2_sinkOf_9 : decode cX2_sinkOf 9 = .ok (.iload 4, 2) := by decide +kernel
theorem dX2_sinkOf_11 : decode cX2_sinkOf 11 = .ok (.invokevirtual 51, 3) := by decide +kernel
theorem dX2_sinkOf_14 : decode cX2_sinkOf 14 = .ok (.iadd, 1) := by decide +kernel
theorem dX2_sinkOf_15 : decode cX2_sinkOf 15 = .ok (.ireturn, 1) := by decide +kernel
theorem dX2_stopOf_0 : decode cX2_stopOf 0 = .ok (.iconst 0, 1) := by decide +kernel
theorem dX2_stopOf_1 : decode cX2_stopOf 1 = .ok (.istore 4, 2) := by decide +kernel
theorem dX2_stopOf_3 : decode cX2_stopOf 3 = .ok (.iload 4, 2) := by decide +kernel
theorem dX2_stopOf_5 : decode cX2_stopOf 5 = .ok (.aload_n 0, 1) := by decide +kernel
theorem dX2_stopOf_6 : decode cX2_stopOf 6 = .ok (.getfield 9, 3) := by decide +kernel
theorem dX2_stopOf_9 : decode cX2_stopOf 9 = .ok (.getfield 55, 3) := by decide +kernel
theorem dX2_stopOf_12 : decode cX2_stopOf 12 = .ok (.if_icmp .ge 26, 3) := by decide +kernel
theorem dX2_stopOf_15 : decode cX2_stopOf 15 = .ok (.aload_n 0, 1) := by decide +kernel
theorem dX2_stopOf_16 : decode cX2_stopOf 16 = .ok (.iload_n 1, 1) := by decide +kernel
theorem dX2_stopOf_17 : decode cX2_stopOf 17 = .ok (.iload 4, 2) := by decide +kernel
theorem dX2_stopOf_19 : decode cX2_stopOf 19 = .ok (.iload_n 2, 1) := by decide +kernel
theorem dX2_stopOf_20 : decode cX2_stopOf 20 = .ok (.iload_n 3, 1) := by decide +kernel
theorem dX2_stopOf_21 : decode cX2_stopOf 21 = .ok (.invokevirtual 58, 3) := by decide +kernel
theorem dX2_stopOf_24 : decode cX2_stopOf 24 = .ok (.bipush 60, 2) := by decide +kernel
theorem dX2_stopOf_26 : decode cX2_stopOf 26 = .ok (.if_icmp .lt 6, 3) := by decide +kernel
theorem dX2_stopOf_29 : decode cX2_stopOf 29 = .ok (.iload 4, 2) := by decide +kernel
theorem dX2_stopOf_31 : decode cX2_stopOf 31 = .ok (.ireturn, 1) := by decide +kernel
theorem dX2_stopOf_32 : decode cX2_stopOf 32 = .ok (.iinc 4 1, 3) := by decide +kernel
theorem dX2_stopOf_35 : decode cX2_stopOf 35 = .ok (.goto (-32), 3) := by decide +kernel
theorem dX2_stopOf_38 : decode cX2_stopOf 38 = .ok (.iconst (-1), 1) := by decide +kernel
theorem dX2_stopOf_39 : decode cX2_stopOf 39 = .ok (.ireturn, 1) := by decide +kernel
theorem dX2_stopBehind_0 : decode cX2_stopBehind 0 = .ok (.aload_n 0, 1) := by decide +kernel
theorem dX2_stopBehind_1 : decode cX2_stopBehind 1 = .ok (.iload_n 1, 1) := by decide +kernel
theorem dX2_stopBehind_2 : decode cX2_stopBehind 2 = .ok (.aload_n 0, 1) := by decide +kernel
theorem dX2_stopBehind_3 : decode cX2_stopBehind 3 = .ok (.iload_n 2, 1) := by decide +kernel
theorem dX2_stopBehind_4 : decode cX2_stopBehind 4 = .ok (.invokevirtual 62, 3) := by decide +kernel
theorem dX2_stopBehind_7 : decode cX2_stopBehind 7 = .ok (.aload_n 0, 1) := by decide +kernel
theorem dX2_stopBehind_8 : decode cX2_stopBehind 8 = .ok (.getfield 15, 3) := by decide +kernel
theorem dX2_stopBehind_11 : decode cX2_stopBehind 11 = .ok (.getfield 65, 3) := by decide +kernel
theorem dX2_stopBehind_14 : decode cX2_stopBehind 14 = .ok (.iload_n 1, 1) := by decide +kernel
theorem dX2_stopBehind_15 : decode cX2_stopBehind 15 = .ok (.iaload, 1) := by decide +kernel
theorem dX2_stopBehind_16 : decode cX2_stopBehind 16 = .ok (.invokevirtual 68, 3) := by decide +kernel
theorem dX2_stopBehind_19 : decode cX2_stopBehind 19 = .ok (.ireturn, 1) := by decide +kernel
theorem dX2_driveOut_0 : decode cX2_driveOut 0 = .ok (.aload_n 0, 1) := by decide +kernel
theorem dX2_driveOut_1 : decode cX2_driveOut 1 = .ok (.iload_n 1, 1) := by decide +kernel
theorem dX2_driveOut_2 : decode cX2_driveOut 2 = .ok (.iconst 0, 1) := by decide +kernel
theorem dX2_driveOut_3 : decode cX2_driveOut 3 = .ok (.invokevirtual 71, 3) := by decide +kernel
theorem dX2_driveOut_6 : decode cX2_driveOut 6 = .ok (.istore_n 2, 1) := by decide +kernel
theorem dX2_driveOut_7 : decode cX2_driveOut 7 = .ok (.iload_n 2, 1) := by decide +kernel
theorem dX2_driveOut_8 : decode cX2_driveOut 8 = .ok (.iconst (-1), 1) := by decide +kernel
theorem dX2_driveOut_9 : decode cX2_driveOut 9 = .ok (.if_icmp .eq 9, 3) := by decide +kernel
theorem dX2_driveOut_12 : decode cX2_driveOut 12 = .ok (.aload_n 0, 1) := by decide +kernel
theorem dX2_driveOut_13 : decode cX2_driveOut 13 = .ok (.iload_n 1, 1) := by decide +kernel
theorem dX2_driveOut_14 : decode cX2_driveOut 14 = .ok (.iload_n 2, 1) := by decide +kernel
theorem dX2_driveOut_15 : decode cX2_driveOut 15 = .ok (.invokevirtual 74, 3) := by decide +kernel
theorem dX2_driveOut_18 : decode cX2_driveOut 18 = .ok (.iload_n 2, 1) := by decide +kernel
theorem dX2_driveOut_19 : decode cX2_driveOut 19 = .ok (.ireturn, 1) := by decide +kernel
theorem dX2_settle_0 : decode cX2_settle 0 = .ok (.aload_n 0, 1) := by decide +kernel
theorem dX2_settle_1 : decode cX2_settle 1 = .ok (.getfield 15, 3) := by decide +kernel
theorem dX2_settle_4 : decode cX2_settle 4 = .ok (.getfield 78, 3) := by decide +kernel
theorem dX2_settle_7 : decode cX2_settle 7 = .ok (.iload_n 1, 1) := by decide +kernel
theorem dX2_settle_8 : decode cX2_settle 8 = .ok (.iload_n 2, 1) := by decide +kernel
theorem dX2_settle_9 : decode cX2_settle 9 = .ok (.iastore, 1) := by decide +kernel
theorem dX2_settle_10 : decode cX2_settle 10 = .ok (.aload_n 0, 1) := by decide +kernel
theorem dX2_settle_11 : decode cX2_settle 11 = .ok (.getfield 15, 3) := by decide +kernel
theorem dX2_settle_14 : decode cX2_settle 14 = .ok (.getfield 44, 3) := by decide +kernel
theorem dX2_settle_17 : decode cX2_settle 17 = .ok (.iload_n 1, 1) := by decide +kernel
theorem dX2_settle_18 : decode cX2_settle 18 = .ok (.dup2, 1) := by decide +kernel
theorem dX2_settle_19 : decode cX2_settle 19 = .ok (.iaload, 1) := by decide +kernel
theorem dX2_settle_20 : decode cX2_settle 20 = .ok (.iconst 1, 1) := by decide +kernel
theorem dX2_settle_21 : decode cX2_settle 21 = .ok (.iadd, 1) := by decide +kernel
theorem dX2_settle_22 : decode cX2_settle 22 = .ok (.iastore, 1) := by decide +kernel
theorem dX2_settle_23 : decode cX2_settle 23 = .ok (.aload_n 0, 1) := by decide +kernel
theorem dX2_settle_24 : decode cX2_settle 24 = .ok (.getfield 15, 3) := by decide +kernel
theorem dX2_settle_27 : decode cX2_settle 27 = .ok (.iload_n 2, 1) := by decide +kernel
theorem dX2_settle_28 : decode cX2_settle 28 = .ok (.invokevirtual 81, 3) := by decide +kernel
theorem dX2_settle_31 : decode cX2_settle 31 = .ok (.ifCond .ne 31, 3) := by decide +kernel
theorem dX2_settle_34 : decode cX2_settle 34 = .ok (.aload_n 0, 1) := by decide +kernel
theorem dX2_settle_35 : decode cX2_settle 35 = .ok (.getfield 15, 3) := by decide +kernel
theorem dX2_settle_38 : decode cX2_settle 38 = .ok (.getfield 85, 3) := by decide +kernel
theorem dX2_settle_41 : decode cX2_settle 41 = .ok (.iload_n 2, 1) := by decide +kernel
theorem dX2_settle_42 : decode cX2_settle 42 = .ok (.aload_n 0, 1) := by decide +kernel
theorem dX2_settle_43 : decode cX2_settle 43 = .ok (.getfield 9, 3) := by decide +kernel
theorem dX2_settle_46 : decode cX2_settle 46 = .ok (.getfield 88, 3) := by decide +kernel
theorem dX2_settle_49 : decode cX2_settle 49 = .ok (.iload_n 1, 1) := by decide +kernel
theorem dX2_settle_50 : decode cX2_settle 50 = .ok (.iaload, 1) := by decide +kernel
theorem dX2_settle_51 : decode cX2_settle 51 = .ok (.iastore, 1) := by decide +kernel
theorem dX2_settle_52 : decode cX2_settle 52 = .ok (.aload_n 0, 1) := by decide +kernel
theorem dX2_settle_53 : decode cX2_settle 53 = .ok (.getfield 15, 3) := by decide +kernel
theorem dX2_settle_56 : decode cX2_settle 56 = .ok (.getfield 91, 3) := by decide +kernel
theorem dX2_settle_59 : decode cX2_settle 59 = .ok (.iload_n 2, 1) := by decide +kernel
theorem dX2_settle_60 : decode cX2_settle 60 = .ok (.iconst 0, 1) := by decide +kernel
theorem dX2_settle_61 : decode cX2_settle 61 = .ok (.iastore, 1) := by decide +kernel
theorem dX2_settle_62 : decode cX2_settle 62 = .ok (.aload_n 0, 1) := by decide +kernel
theorem dX2_settle_63 : decode cX2_settle 63 = .ok (.getfield 15, 3) := by decide +kernel
theorem dX2_settle_66 : decode cX2_settle 66 = .ok (.getfield 94, 3) := by decide +kernel
theorem dX2_settle_69 : decode cX2_settle 69 = .ok (.iload_n 2, 1) := by decide +kernel
theorem dX2_settle_70 : decode cX2_settle 70 = .ok (.iaload, 1) := by decide +kernel
theorem dX2_settle_71 : decode cX2_settle 71 = .ok (.iconst (-1), 1) := by decide +kernel
theorem dX2_settle_72 : decode cX2_settle 72 = .ok (.if_icmp .ne 13, 3) := by decide +kernel
theorem dX2_settle_75 : decode cX2_settle 75 = .ok (.aload_n 0, 1) := by decide +kernel
theorem dX2_settle_76 : decode cX2_settle 76 = .ok (.getfield 15, 3) := by decide +kernel
theorem dX2_settle_79 : decode cX2_settle 79 = .ok (.getfield 94, 3) := by decide +kernel
theorem dX2_settle_82 : decode cX2_settle 82 = .ok (.iload_n 2, 1) := by decide +kernel
theorem dX2_settle_83 : decode cX2_settle 83 = .ok (.iload_n 1, 1) := by decide +kernel
theorem dX2_settle_84 : decode cX2_settle 84 = .ok (.iastore, 1) := by decide +kernel
theorem dX2_settle_85 : decode cX2_settle 85 = .ok (.aload_n 0, 1) := by decide +kernel
theorem dX2_settle_86 : decode cX2_settle 86 = .ok (.getfield 15, 3) := by decide +kernel
theorem dX2_settle_89 : decode cX2_settle 89 = .ok (.getfield 91, 3) := by decide +kernel
theorem dX2_settle_92 : decode cX2_settle 92 = .ok (.iload_n 2, 1) := by decide +kernel
theorem dX2_settle_93 : decode cX2_settle 93 = .ok (.sipush 9999, 3) := by decide +kernel
theorem dX2_settle_96 : decode cX2_settle 96 = .ok (.aload_n 0, 1) := by decide +kernel
theorem dX2_settle_97 : decode cX2_settle 97 = .ok (.getfield 15, 3) := by decide +kernel
theorem dX2_settle_100 : decode cX2_settle 100 = .ok (.getfield 91, 3) := by decide +kernel
theorem dX2_settle_103 : decode cX2_settle 103 = .ok (.iload_n 2, 1) := by decide +kernel
theorem dX2_settle_104 : decode cX2_settle 104 = .ok (.iaload, 1) := by decide +kernel
theorem dX2_settle_105 : decode cX2_settle 105 = .ok (.iconst 1, 1) := by decide +kernel
theorem dX2_settle_106 : decode cX2_settle 106 = .ok (.iadd, 1) := by decide +kernel
theorem dX2_settle_107 : decode cX2_settle 107 = .ok (.invokestatic 97, 3) := by decide +kernel
theorem dX2_settle_110 : decode cX2_settle 110 = .ok (.iastore, 1) := by decide +kernel
theorem dX2_settle_111 : decode cX2_settle 111 = .ok (.return_, 1) := by decide +kernel
theorem dX2_pullOut_0 : decode cX2_pullOut 0 = .ok (.aload_n 0, 1) := by decide +kernel
theorem dX2_pullOut_1 : decode cX2_pullOut 1 = .ok (.getfield 15, 3) := by decide +kernel
theorem dX2_pullOut_4 : decode cX2_pullOut 4 = .ok (.getfield 78, 3) := by decide +kernel
theorem dX2_pullOut_7 : decode cX2_pullOut 7 = .ok (.iload_n 1, 1) := by decide +kernel
theorem dX2_pullOut_8 : decode cX2_pullOut 8 = .ok (.iaload, 1) := by decide +kernel
theorem dX2_pullOut_9 : decode cX2_pullOut 9 = .ok (.istore_n 2, 1) := by decide +kernel
theorem dX2_pullOut_10 : decode cX2_pullOut 10 = .ok (.aload_n 0, 1) := by decide +kernel
theorem dX2_pullOut_11 : decode cX2_pullOut 11 = .ok (.getfield 15, 3) := by decide +kernel
theorem dX2_pullOut_14 : decode cX2_pullOut 14 = .ok (.getfield 78, 3) := by decide +kernel
theorem dX2_pullOut_17 : decode cX2_pullOut 17 = .ok (.iload_n 1, 1) := by decide +kernel
theorem dX2_pullOut_18 : decode cX2_pullOut 18 = .ok (.iconst (-1), 1) := by decide +kernel
theorem dX2_pullOut_19 : decode cX2_pullOut 19 = .ok (.iastore, 1) := by decide +kernel
theorem dX2_pullOut_20 : decode cX2_pullOut 20 = .ok (.aload_n 0, 1) := by decide +kernel
theorem dX2_pullOut_21 : decode cX2_pullOut 21 = .ok (.getfield 9, 3) := by decide +kernel
theorem dX2_pullOut_24 : decode cX2_pullOut 24 = .ok (.iload_n 2, 1) := by decide +kernel
theorem dX2_pullOut_25 : decode cX2_pullOut 25 = .ok (.invokevirtual 102, 3) := by decide +kernel
theorem dX2_pullOut_28 : decode cX2_pullOut 28 = .ok (.ifCond .eq 61, 3) := by decide +kernel
theorem dX2_pullOut_31 : decode cX2_pullOut 31 = .ok (.aload_n 0, 1) := by decide +kernel
theorem dX2_pullOut_32 : decode cX2_pullOut 32 = .ok (.getfield 15, 3) := by decide +kernel
theorem dX2_pullOut_35 : decode cX2_pullOut 35 = .ok (.iload_n 2, 1) := by decide +kernel
theorem dX2_pullOut_36 : decode cX2_pullOut 36 = .ok (.invokevirtual 81, 3) := by decide +kernel
theorem dX2_pullOut_39 : decode cX2_pullOut 39 = .ok (.ifCond .eq 50, 3) := by decide +kernel
theorem dX2_pullOut_42 : decode cX2_pullOut 42 = .ok (.aload_n 0, 1) := by decide +kernel
theorem dX2_pullOut_43 : decode cX2_pullOut 43 = .ok (.getfield 15, 3) := by decide +kernel
theorem dX2_pullOut_46 : decode cX2_pullOut 46 = .ok (.getfield 91, 3) := by decide +kernel
theorem dX2_pullOut_49 : decode cX2_pullOut 49 = .ok (.iload_n 2, 1) := by decide +kernel
theorem dX2_pullOut_50 : decode cX2_pullOut 50 = .ok (.iconst 0, 1) := by decide +kernel
theorem dX2_pullOut_51 : decode cX2_pullOut 51 = .ok (.aload_n 0, 1) := by decide +kernel
theorem dX2_pullOut_52 : decode cX2_pullOut 52 = .ok (.getfield 15, 3) := by decide +kernel
theorem dX2_pullOut_55 : decode cX2_pullOut 55 = .ok (.getfield 91, 3) := by decide +kernel
theorem dX2_pullOut_58 : decode cX2_pullOut 58 = .ok (.iload_n 2, 1) := by decide +kernel
theorem dX2_pullOut_59 : decode cX2_pullOut 59 = .ok (.iaload, 1) := by decide +kernel
theorem dX2_pullOut_60 : decode cX2_pullOut 60 = .ok (.iconst 1, 1) := by decide +kernel
theorem dX2_pullOut_61 : decode cX2_pullOut 61 = .ok (.isub, 1) := by decide +kernel
theorem dX2_pullOut_62 : decode cX2_pullOut 62 = .ok (.invokestatic 105, 3) := by decide +kernel
theorem dX2_pullOut_65 : decode cX2_pullOut 65 = .ok (.iastore, 1) := by decide +kernel
theorem dX2_pullOut_66 : decode cX2_pullOut 66 = .ok (.aload_n 0, 1) := by decide +kernel
theorem dX2_pullOut_67 : decode cX2_pullOut 67 = .ok (.getfield 15, 3) := by decide +kernel
theorem dX2_pullOut_70 : decode cX2_pullOut 70 = .ok (.getfield 94, 3) := by decide +kernel
theorem dX2_pullOut_73 : decode cX2_pullOut 73 = .ok (.iload_n 2, 1) := by decide +kernel
theorem dX2_pullOut_74 : decode cX2_pullOut 74 = .ok (.iaload, 1) := by decide +kernel
theorem dX2_pullOut_75 : decode cX2_pullOut 75 = .ok (.iload_n 1, 1) := by decide +kernel
theorem dX2_pullOut_76 : decode cX2_pullOut 76 = .ok (.if_icmp .ne 13, 3) := by decide +kernel
theorem dX2_pullOut_79 : decode cX2_pullOut 79 = .ok (.aload_n 0, 1) := by decide +kernel
theorem dX2_pullOut_80 : decode cX2_pullOut 80 = .ok (.getfield 15, 3) := by decide +kernel
theorem dX2_pullOut_83 : decode cX2_pullOut 83 = .ok (.getfield 94, 3) := by decide +kernel
theorem dX2_pullOut_86 : decode cX2_pullOut 86 = .ok (.iload_n 2, 1) := by decide +kernel
theorem dX2_pullOut_87 : decode cX2_pullOut 87 = .ok (.iconst (-1), 1) := by decide +kernel
theorem dX2_pullOut_88 : decode cX2_pullOut 88 = .ok (.iastore, 1) := by decide +kernel
theorem dX2_pullOut_89 : decode cX2_pullOut 89 = .ok (.iload_n 2, 1) := by decide +kernel
theorem dX2_pullOut_90 : decode cX2_pullOut 90 = .ok (.ireturn, 1) := by decide +kernel
theorem dX2_passDay_0 : decode cX2_passDay 0 = .ok (.aload_n 0, 1) := by decide +kernel
theorem dX2_passDay_1 : decode cX2_passDay 1 = .ok (.getfield 15, 3) := by decide +kernel
theorem dX2_passDay_4 : decode cX2_passDay 4 = .ok (.aload_n 0, 1) := by decide +kernel
theorem dX2_passDay_5 : decode cX2_passDay 5 = .ok (.getfield 15, 3) := by decide +kernel
theorem dX2_passDay_8 : decode cX2_passDay 8 = .ok (.getfield 19, 3) := by decide +kernel
theorem dX2_passDay_11 : decode cX2_passDay 11 = .ok (.iconst 2, 1) := by decide +kernel
theorem dX2_passDay_12 : decode cX2_passDay 12 = .ok (.idiv, 1) := by decide +kernel
theorem dX2_passDay_13 : decode cX2_passDay 13 = .ok (.putfield 19, 3) := by decide +kernel
theorem dX2_passDay_16 : decode cX2_passDay 16 = .ok (.aload_n 0, 1) := by decide +kernel
theorem dX2_passDay_17 : decode cX2_passDay 17 = .ok (.getfield 15, 3) := by decide +kernel
theorem dX2_passDay_20 : decode cX2_passDay 20 = .ok (.dup, 1) := by decide +kernel
theorem dX2_passDay_21 : decode cX2_passDay 21 = .ok (.getfield 25, 3) := by decide +kernel
theorem dX2_passDay_24 : decode cX2_passDay 24 = .ok (.iconst 1, 1) := by decide +kernel
theorem dX2_passDay_25 : decode cX2_passDay 25 = .ok (.iadd, 1) := by decide +kernel
theorem dX2_passDay_26 : decode cX2_passDay 26 = .ok (.putfield 25, 3) := by decide +kernel
theorem dX2_passDay_29 : decode cX2_passDay 29 = .ok (.return_, 1) := by decide +kernel
theorem dX2_layGravel_0 : decode cX2_layGravel 0 = .ok (.aload_n 0, 1) := by decide +kernel
theorem dX2_layGravel_1 : decode cX2_layGravel 1 = .ok (.getfield 15, 3) := by decide +kernel
theorem dX2_layGravel_4 : decode cX2_layGravel 4 = .ok (.getfield 41, 3) := by decide +kernel
theorem dX2_layGravel_7 : decode cX2_layGravel 7 = .ok (.iload_n 1, 1) := by decide +kernel
theorem dX2_layGravel_8 : decode cX2_layGravel 8 = .ok (.iconst 0, 1) := by decide +kernel
theorem dX2_layGravel_9 : decode cX2_layGravel 9 = .ok (.bipush 60, 2) := by decide +kernel
theorem dX2_layGravel_11 : decode cX2_layGravel 11 = .ok (.aload_n 0, 1) := by decide +kernel
theorem dX2_layGravel_12 : decode cX2_layGravel 12 = .ok (.getfield 15, 3) := by decide +kernel
theorem dX2_layGravel_15 : decode cX2_layGravel 15 = .ok (.getfield 41, 3) := by decide +kernel
theorem dX2_layGravel_18 : decode cX2_layGravel 18 = .ok (.iload_n 1, 1) := by decide +kernel
theorem dX2_layGravel_19 : decode cX2_layGravel 19 = .ok (.iaload, 1) := by decide +kernel
theorem dX2_layGravel_20 : decode cX2_layGravel 20 = .ok (.iload_n 2, 1) := by decide +kernel
theorem dX2_layGravel_21 : decode cX2_layGravel 21 = .ok (.iadd, 1) := by decide +kernel
theorem dX2_layGravel_22 : decode cX2_layGravel 22 = .ok (.invokestatic 97, 3) := by decide +kernel
theorem dX2_layGravel_25 : decode cX2_layGravel 25 = .ok (.invokestatic 105, 3) := by decide +kernel
theorem dX2_layGravel_28 : decode cX2_layGravel 28 = .ok (.iastore, 1) := by decide +kernel
theorem dX2_layGravel_29 : decode cX2_layGravel 29 = .ok (.return_, 1) := by decide +kernel
theorem dX3_init_0 : decode cX3_init 0 = .ok (.aload_n 0, 1) := by decide +kernel
theorem dX3_init_1 : decode cX3_init 1 = .ok (.invokespecial 3, 3) := by decide +kernel
theorem dX3_init_4 : decode cX3_init 4 = .ok (.aload_n 0, 1) := by decide +kernel
theorem dX3_init_5 : decode cX3_init 5 = .ok (.sipush 1908, 3) := by decide +kernel
theorem dX3_init_8 : decode cX3_init 8 = .ok (.newarray .int, 2) := by decide +kernel
theorem dX3_init_10 : decode cX3_init 10 = .ok (.putfield 9, 3) := by decide +kernel
theorem dX3_init_13 : decode cX3_init 13 = .ok (.aload_n 0, 1) := by decide +kernel
theorem dX3_init_14 : decode cX3_init 14 = .ok (.iconst 2, 1) := by decide +kernel
theorem dX3_init_15 : decode cX3_init 15 = .ok (.newarray .boolean, 2) := by decide +kernel
theorem dX3_init_17 : decode cX3_init 17 = .ok (.putfield 15, 3) := by decide +kernel
theorem dX3_init_20 : decode cX3_init 20 = .ok (.aload_n 0, 1) := by decide +kernel
theorem dX3_init_21 : decode cX3_init 21 = .ok (.iconst 2, 1) := by decide +kernel
theorem dX3_init_22 : decode cX3_init 22 = .ok (.newarray .int, 2) := by decide +kernel
theorem dX3_init_24 : decode cX3_init 24 = .ok (.putfield 19, 3) := by decide +kernel
theorem dX3_init_27 : decode cX3_init 27 = .ok (.return_, 1) := by decide +kernel
theorem dX3_forgetAll_0 : decode cX3_forgetAll 0 = .ok (.aload_n 0, 1) := by decide +kernel
theorem dX3_forgetAll_1 : decode cX3_forgetAll 1 = .ok (.iconst 0, 1) := by decide +kernel
theorem dX3_forgetAll_2 : decode cX3_forgetAll 2 = .ok (.putfield 22, 3) := by decide +kernel
theorem dX3_forgetAll_5 : decode cX3_forgetAll 5 = .ok (.aload_n 0, 1) := by decide +kernel
theorem dX3_forgetAll_6 : decode cX3_forgetAll 6 = .ok (.getfield 19, 3) := by decide +kernel
theorem dX3_forgetAll_9 : decode cX3_forgetAll 9 = .ok (.iconst 0, 1) := by decide +kernel
theorem dX3_forgetAll_10 : decode cX3_forgetAll 10 = .ok (.invokestatic 26, 3) := by decide +kernel
theorem dX3_forgetAll_13 : decode cX3_forgetAll 13 = .ok (.iconst 0, 1) := by decide +kernel
theorem dX3_forgetAll_14 : decode cX3_forgetAll 14 = .ok (.istore_n 1, 1) := by decide +kernel
theorem dX3_forgetAll_15 : decode cX3_forgetAll 15 = .ok (.iload_n 1, 1) := by decide +kernel
theorem dX3_forgetAll_16 : decode cX3_forgetAll 16 = .ok (.iconst 2, 1) := by decide +kernel
theorem dX3_forgetAll_17 : decode cX3_forgetAll 17 = .ok (.if_icmp .ge 16, 3) := by decide +kernel
theorem dX3_forgetAll_20 : decode cX3_forgetAll 20 = .ok (.aload_n 0, 1) := by decide +kernel
theorem dX3_forgetAll_21 : decode cX3_forgetAll 21 = .ok (.getfield 15, 3) := by decide +kernel
theorem dX3_forgetAll_24 : decode cX3_forgetAll 24 = .ok (.iload_n 1, 1) := by decide +kernel
theorem dX3_forgetAll_25 : decode cX3_forgetAll 25 = .ok (.iconst 0, 1) := by decide +kernel
theorem dX3_forgetAll_26 : decode cX3_forgetAll 26 = .ok (.bastore, 1) := by decide +kernel
theorem dX3_forgetAll_27 : decode cX3_forgetAll 27 = .ok (.iinc 1 1, 3) := by decide +kernel
theorem dX3_forgetAll_30 : decode cX3_forgetAll 30 = .ok (.goto (-15), 3) := by decide +kernel
theorem dX3_forgetAll_33 : decode cX3_forgetAll 33 = .ok (.return_, 1) := by decide +kernel
theorem dX3_remember_0 : decode cX3_remember 0 = .ok (.aload_n 1, 1) := by decide +kernel
theorem dX3_remember_1 : decode cX3_remember 1 = .ok (.aload_n 0, 1) := by decide +kernel
theorem dX3_remember_2 : decode cX3_remember 2 = .ok (.getfield 9, 3) := by decide +kernel
theorem dX3_remember_5 : decode cX3_remember 5 = .ok (.aload_n 0, 1) := by decide +kernel
theorem dX3_remember_6 : decode cX3_remember 6 = .ok (.getfield 32, 3) := by decide +kernel
theorem dX3_remember_9 : decode cX3_remember 9 = .ok (.bipush 106, 2) := by decide +kernel
theorem dX3_remember_11 : decode cX3_remember 11 = .ok (.imul, 1) := by decide +kernel
theorem dX3_remember_12 : decode cX3_remember 12 = .ok (.invokevirtual 35, 3) := by decide +kernel
theorem dX3_remember_15 : decode cX3_remember 15 = .ok (.aload_n 0, 1) := by decide +kernel
theorem dX3_remember_16 : decode cX3_remember 16 = .ok (.aload_n 0, 1) := by decide +kernel
theorem dX3_remember_17 : decode cX3_remember 17 = .ok (.getfield 32, 3) := by decide +kernel
theorem dX3_remember_20 : decode cX3_remember 20 = .ok (.iconst 1, 1) := by decide +kernel
theorem dX3_remember_21 : decode cX3_remember 21 = .ok (.iadd, 1) := by decide +kernel
theorem dX3_remember_22 : decode cX3_remember 22 = .ok (.bipush 16, 2) := by decide +kernel
theorem dX3_remember_24 : decode cX3_remember 24 = .ok (.irem, 1) := by decide +kernel
theorem dX3_remember_25 : decode cX3_remember 25 = .ok (.putfield 32, 3) := by decide +kernel
theorem dX3_remember_28 : decode cX3_remember 28 = .ok (.aload_n 0, 1) := by decide +kernel
theorem dX3_remember_29 : decode cX3_remember 29 = .ok (.bipush 16, 2) := by decide +kernel
theorem dX3_remember_31 : decode cX3_remember 31 = .ok (.aload_n 0, 1) := by decide +kernel
theorem dX3_remember_32 : decode cX3_remember 32 = .ok (.getfield 22, 3) := by decide +kernel
theorem dX3_remember_35 : decode cX3_remember 35 = .ok (.iconst 1, 1) := by decide +kernel
theorem dX3_remember_36 : decode cX3_remember 36 = .ok (.iadd, 1) := by decide +kernel
theorem dX3_remember_37 : decode cX3_remember 37 = .ok (.invokestatic 40, 3) := by decide +kernel
theorem dX3_remember_40 : decode cX3_remember 40 = .ok (.putfield 22, 3) := by decide +kernel
theorem dX3_remember_43 : decode cX3_remember 43 = .ok (.return_, 1) := by decide +kernel
theorem dX3_takeBack_0 : decode cX3_takeBack 0 = .ok (.aload_n 0, 1) := by decide +kernel
theorem dX3_takeBack_1 : decode cX3_takeBack 1 = .ok (.aload_n 0, 1) := by decide +kernel
theorem dX3_takeBack_2 : decode cX3_takeBack 2 = .ok (.getfield 32, 3) := by decide +kernel
theorem dX3_takeBack_5 : decode cX3_takeBack 5 = .ok (.bipush 16, 2) := by decide +kernel
theorem dX3_takeBack_7 : decode cX3_takeBack 7 = .ok (.iadd, 1) := by decide +kernel
theorem dX3_takeBack_8 : decode cX3_takeBack 8 = .ok (.iconst 1, 1) := by decide +kernel
theorem dX3_takeBack_9 : decode cX3_takeBack 9 = .ok (.isub, 1) := by decide +kernel
theorem dX3_takeBack_10 : decode cX3_takeBack 10 = .ok (.bipush 16, 2) := by decide +kernel
theorem dX3_takeBack_12 : decode cX3_takeBack 12 = .ok (.irem, 1) := by decide +kernel
theorem dX3_takeBack_13 : decode cX3_takeBack 13 = .ok (.putfield 32, 3) := by decide +kernel
theorem dX3_takeBack_16 : decode cX3_takeBack 16 = .ok (.aload_n 0, 1) := by decide +kernel
theorem dX3_takeBack_17 : decode cX3_takeBack 17 = .ok (.iconst 0, 1) := by decide +kernel
theorem dX3_takeBack_18 : decode cX3_takeBack 18 = .ok (.aload_n 0, 1) := by decide +kernel
theorem dX3_takeBack_19 : decode cX3_takeBack 19 = .ok (.getfield 22, 3) := by decide +kernel
theorem dX3_takeBack_22 : decode cX3_takeBack 22 = .ok (.iconst 1, 1) := by decide +kernel
theorem dX3_takeBack_23 : decode cX3_takeBack 23 = .ok (.isub, 1) := by decide +kernel
theorem dX3_takeBack_24 : decode cX3_takeBack 24 = .ok (.invokestatic 46, 3) := by decide +kernel
theorem dX3_takeBack_27 : decode cX3_takeBack 27 = .ok (.putfield 22, 3) := by decide +kernel
theorem dX3_takeBack_30 : decode cX3_takeBack 30 = .ok (.aload_n 1, 1) := by decide +kernel
theorem dX3_takeBack_31 : decode cX3_takeBack 31 = .ok (.aload_n 0, 1) := by decide +kernel
theorem dX3_takeBack_32 : decode cX3_takeBack 32 = .ok (.getfield 9, 3) := by decide +kernel
theorem dX3_takeBack_35 : decode cX3_takeBack 35 = .ok (.aload_n 0, 1) := by decide +kernel
theorem dX3_takeBack_36 : decode cX3_takeBack 36 = .ok (.getfield 32, 3) := by decide +kernel
theorem dX3_takeBack_39 : decode cX3_takeBack 39 = .ok (.bipush 106, 2) := by decide +kernel
theorem dX3_takeBack_41 : decode cX3_takeBack 41 = .ok (.imul, 1) := by decide +kernel
theorem dX3_takeBack_42 : decode cX3_takeBack 42 = .ok (.invokevirtual 49, 3) := by decide +kernel
theorem dX3_takeBack_45 : decode cX3_takeBack 45 = .ok (.return_, 1) := by decide +kernel
theorem dX3_hasRoomFor_0 : decode cX3_hasRoomFor 0 = .ok (.iload_n 1, 1) := by decide +kernel
theorem dX3_hasRoomFor_1 : decode cX3_hasRoomFor 1 = .ok (.ifCond .lt 12, 3) := by decide +kernel
theorem dX3_hasRoomFor_4 : decode cX3_hasRoomFor 4 = .ok (.iload_n 1, 1) := by decide +kernel
theorem dX3_hasRoomFor_5 : decode cX3_hasRoomFor 5 = .ok (.iconst 2, 1) := by decide +kernel
theorem dX3_hasRoomFor_6 : decode cX3_hasRoomFor 6 = .ok (.if_icmp .ge 7, 3) := by decide +kernel
theorem dX3_hasRoomFor_9 : decode cX3_hasRoomFor 9 = .ok (.iconst 1, 1) := by decide +kernel
theorem dX3_hasRoomFor_10 : decode cX3_hasRoomFor 10 = .ok (.goto 4, 3) := by decide +kernel
theorem dX3_hasRoomFor_13 : decode cX3_hasRoomFor 13 = .ok (.iconst 0, 1) := by decide +kernel
theorem dX3_hasRoomFor_14 : decode cX3_hasRoomFor 14 = .ok (.ireturn, 1) := by decide +kernel
theorem dX3_hasKept_0 : decode cX3_hasKept 0 = .ok (.aload_n 0, 1) := by decide +kernel
theorem dX3_hasKept_1 : decode cX3_hasKept 1 = .ok (.iload_n 1, 1) := by decide +kernel
theorem dX3_hasKept_2 : decode cX3_hasKept 2 = .ok (.invokevirtual 52, 3) := by decide +kernel
theorem dX3_hasKept_5 : decode cX3_hasKept 5 = .ok (.ifCond .eq 16, 3) := by decide +kernel
theorem dX3_hasKept_8 : decode cX3_hasKept 8 = .ok (.aload_n 0, 1) := by decide +kernel
theorem dX3_hasKept_9 : decode cX3_hasKept 9 = .ok (.getfield 15, 3) := by decide +kernel
theorem dX3_hasKept_12 : decode cX3_hasKept 12 = .ok (.iload_n 1, 1) := by decide +kernel
theorem dX3_hasKept_13 : decode cX3_hasKept 13 = .ok (.baload, 1) := by decide +kernel
theorem dX3_hasKept_14 : decode cX3_hasKept 14 = .ok (.ifCond .eq 7, 3) := by decide +kernel
theorem dX3_hasKept_17 : decode cX3_hasKept 17 = .ok (.iconst 1, 1) := by decide +kernel
theorem dX3_hasKept_18 : decode cX3_hasKept 18 = .ok (.goto 4, 3) := by decide +kernel
theorem dX3_hasKept_21 : decode cX3_hasKept 21 = .ok (.iconst 0, 1) := by decide +kernel
theorem dX3_hasKept_22 : decode cX3_hasKept 22 = .ok (.ireturn, 1) := by decide +kernel
theorem dX3_keepImage_0 : decode cX3_keepImage 0 = .ok (.aload_n 0, 1) := by decide +kernel
theorem dX3_keepImage_1 : decode cX3_keepImage 1 = .ok (.iload_n 1, 1) := by decide +kernel
theorem dX3_keepImage_2 : decode cX3_keepImage 2 = .ok (.invokevirtual 52, 3) := by decide +kernel
theorem dX3_keepImage_5 : decode cX3_keepImage 5 = .ok (.ifCond .eq 32, 3) := by decide +kernel
theorem dX3_keepImage_8 : decode cX3_keepImage 8 = .ok (.aload_n 2, 1) := by decide +kernel
theorem dX3_keepImage_9 : decode cX3_keepImage 9 = .ok (.aload_n 0, 1) := by decide +kernel
theorem dX3_keepImage_10 : decode cX3_keepImage 10 = .ok (.getfield 9, 3) := by decide +kernel
theorem dX3_keepImage_13 : decode cX3_keepImage 13 = .ok (.bipush 16, 2) := by decide +kernel
theorem dX3_keepImage_15 : decode cX3_keepImage 15 = .ok (.iload_n 1, 1) := by decide +kernel
theorem dX3_keepImage_16 : decode cX3_keepImage 16 = .ok (.iadd, 1) := by decide +kernel
theorem dX3_keepImage_17 : decode cX3_keepImage 17 = .ok (.bipush 106, 2) := by decide +kernel
theorem dX3_keepImage_19 : decode cX3_keepImage 19 = .ok (.imul, 1) := by decide +kernel
theorem dX3_keepImage_20 : decode cX3_keepImage 20 = .ok (.invokevirtual 35, 3) := by decide +kernel
theorem dX3_keepImage_23 : decode cX3_keepImage 23 = .ok (.aload_n 0, 1) := by decide +kernel
theorem dX3_keepImage_24 : decode cX3_keepImage 24 = .ok (.getfield 19, 3) := by decide +kernel
theorem dX3_keepImage_27 : decode cX3_keepImage 27 = .ok (.iload_n 1, 1) := by decide +kernel
theorem dX3_keepImage_28 : decode cX3_keepImage 28 = .ok (.iload_n 3, 1) := by decide +kernel
theorem dX3_keepImage_29 : decode cX3_keepImage 29 = .ok (.iastore, 1) := by decide +kernel
theorem dX3_keepImage_30 : decode cX3_keepImage 30 = .ok (.aload_n 0, 1) := by decide +kernel
theorem dX3_keepImage_31 : decode cX3_keepImage 31 = .ok (.getfield 15, 3) := by decide +kernel
theorem dX3_keepImage_34 : decode cX3_keepImage 34 = .ok (.iload_n 1, 1) := by decide +kernel
theorem dX3_keepImage_35 : decode cX3_keepImage 35 = .ok (.iconst 1, 1) := by decide +kernel
theorem dX3_keepImage_36 : decode cX3_keepImage 36 = .ok (.bastore, 1) := by decide +kernel
theorem dX3_keepImage_37 : decode cX3_keepImage 37 = .ok (.return_, 1) := by decide +kernel
theorem dX3_fetchImage_0 : decode cX3_fetchImage 0 = .ok (.aload_n 0, 1) := by decide +kernel
theorem dX3_fetchImage_1 : decode cX3_fetchImage 1 = .ok (.iload_n 1, 1) := by decide +kernel
theorem dX3_fetchImage_2 : decode cX3_fetchImage 2 = .ok (.invokevirtual 56, 3) := by decide +kernel
theorem dX3_fetchImage_5 : decode cX3_fetchImage 5 = .ok (.ifCond .eq 18, 3) := by decide +kernel
theorem dX3_fetchImage_8 : decode cX3_fetchImage 8 = .ok (.aload_n 2, 1) := by decide +kernel
theorem dX3_fetchImage_9 : decode cX3_fetchImage 9 = .ok (.aload_n 0, 1) := by decide +kernel
theorem dX3_fetchImage_10 : decode cX3_fetchImage 10 = .ok (.getfield 9, 3) := by decide +kernel
theorem dX3_fetchImage_13 : decode cX3_fetchImage 13 = .ok (.bipush 16, 2) := by decide +kernel
theorem dX3_fetchImage_15 : decode cX3_fetchImage 15 = .ok (.iload_n 1, 1) := by decide +kernel
theorem dX3_fetchImage_16 : decode cX3_fetchImage 16 = .ok (.iadd, 1) := by decide +kernel
theorem dX3_fetchImage_17 : decode cX3_fetchImage 17 = .ok (.bipush 106, 2) := by decide +kernel
theorem dX3_fetchImage_19 : decode cX3_fetchImage 19 = .ok (.imul, 1) := by decide +kernel
theorem dX3_fetchImage_20 : decode cX3_fetchImage 20 = .ok (.invokevirtual 49, 3) := by decide +kernel
theorem dX3_fetchImage_23 : decode cX3_fetchImage 23 = .ok (.return_, 1) := by decide +kernel
theorem dX3_seedOfImage_0 : decode cX3_seedOfImage 0 = .ok (.aload_n 0, 1) := by decide +kernel
theorem dX3_seedOfImage_1 : decode cX3_seedOfImage 1 = .ok (.iload_n 1, 1) := by decide +kernel
theorem dX3_seedOfImage_2 : decode cX3_seedOfImage 2 = .ok (.invokevirtual 56, 3) := by decide +kernel
theorem dX3_seedOfImage_5 : decode cX3_seedOfImage 5 = .ok (.ifCond .eq 12, 3) := by decide +kernel
theorem dX3_seedOfImage_8 : decode cX3_seedOfImage 8 = .ok (.aload_n 0, 1) := by decide +kernel
theorem dX3_seedOfImage_9 : decode cX3_seedOfImage 9 = .ok (.getfield 19, 3) := by decide +kernel
theorem dX3_seedOfImage_12 : decode cX3_seedOfImage 12 = .ok (.iload_n 1, 1) := by decide +kernel
theorem dX3_seedOfImage_13 : decode cX3_seedOfImage 13 = .ok (.iaload, 1) := by decide +kernel
theorem dX3_seedOfImage_14 : decode cX3_seedOfImage 14 = .ok (.goto 4, 3) := by decide +kernel
theorem dX3_seedOfImage_17 : decode cX3_seedOfImage 17 = .ok (.iconst 0, 1) := by decide +kernel
theorem dX3_seedOfImage_18 : decode cX3_seedOfImage 18 = .ok (.ireturn, 1) := by decide +kernel
theorem dX4_init_0 : decode cX4_init 0 = .ok (.aload_n 0, 1) := by decide +kernel
theorem dX4_init_1 : decode cX4_init 1 = .ok (.invokespecial 3, 3) := by decide +kernel
theorem dX4_init_4 : decode cX4_init 4 = .ok (.aload_n 0, 1) := by decide +kernel
theorem dX4_init_5 : decode cX4_init 5 = .ok (.bipush 40, 2) := by decide +kernel
theorem dX4_init_7 : decode cX4_init 7 = .ok (.newarray .int, 2) := by decide +kernel
theorem dX4_init_9 : decode cX4_init 9 = .ok (.putfield 9, 3) := by decide +kernel
theorem dX4_init_12 : decode cX4_init 12 = .ok (.aload_n 0, 1) := by decide +kernel
theorem dX4_init_13 : decode cX4_init 13 = .ok (.aload_n 1, 1) := by decide +kernel
theorem dX4_init_14 : decode cX4_init 14 = .ok (.putfield 15, 3) := by decide +kernel
theorem dX4_init_17 : decode cX4_init 17 = .ok (.aload_n 0, 1) := by decide +kernel
theorem dX4_init_18 : decode cX4_init 18 = .ok (.aload_n 2, 1) := by decide +kernel
theorem dX4_init_19 : decode cX4_init 19 = .ok (.putfield 19, 3) := by decide +kernel
theorem dX4_init_22 : decode cX4_init 22 = .ok (.return_, 1) := by decide +kernel
theorem dX4_look_0 : decode cX4_look 0 = .ok (.iconst 0, 1) := by decide +kernel
theorem dX4_look_1 : decode cX4_look 1 = .ok (.istore_n 3, 1) := by decide +kernel
theorem dX4_look_2 : decode cX4_look 2 = .ok (.iload_n 3, 1) := by decide +kernel
theorem dX4_look_3 : decode cX4_look 3 = .ok (.iconst 5, 1) := by decide +kernel
theorem dX4_look_4 : decode cX4_look 4 = .ok (.if_icmp .ge 52, 3) := by decide +kernel
theorem dX4_look_7 : decode cX4_look 7 = .ok (.iconst 0, 1) := by decide +kernel
theorem dX4_look_8 : decode cX4_look 8 = .ok (.istore 4, 2) := by decide +kernel
theorem dX4_look_10 : decode cX4_look 10 = .ok (.iload 4, 2) := by decide +kernel
theorem dX4_look_12 : decode cX4_look 12 = .ok (.aload_n 0, 1) := by decide +kernel
theorem dX4_look_13 : decode cX4_look 13 = .ok (.getfield 15, 3) := by decide +kernel
theorem dX4_look_16 : decode cX4_look 16 = .ok (.getfield 23, 3) := by decide +kernel
theorem dX4_look_19 : decode cX4_look 19 = .ok (.if_icmp .ge 31, 3) := by decide +kernel
theorem dX4_look_22 : decode cX4_look 22 = .ok (.aload_n 0, 1) := by decide +kernel
theorem dX4_look_23 : decode cX4_look 23 = .ok (.getfield 9, 3) := by decide +kernel
theorem dX4_look_26 : decode cX4_look 26 = .ok (.iload_n 3, 1) := by decide +kernel
theorem dX4_look_27 : decode cX4_look 27 = .ok (.bipush 8, 2) := by decide +kernel
theorem dX4_look_29 : decode cX4_look 29 = .ok (.imul, 1) := by decide +kernel
theorem dX4_look_30 : decode cX4_look 30 = .ok (.iload 4, 2) := by decide +kernel
theorem dX4_look_32 : decode cX4_look 32 = .ok (.iadd, 1) := by decide +kernel
theorem dX4_look_33 : decode cX4_look 33 = .ok (.aload_n 0, 1) := by decide +kernel
theorem dX4_look_34 : decode cX4_look 34 = .ok (.getfield 19, 3) := by decide +kernel
theorem dX4_look_37 : decode cX4_look 37 = .ok (.iload 4, 2) := by decide +kernel
theorem dX4_look_39 : decode cX4_look 39 = .ok (.iload_n 3, 1) := by decide +kernel
theorem dX4_look_40 : decode cX4_look 40 = .ok (.invokevirtual 29, 3) := by decide +kernel
theorem dX4_look_43 : decode cX4_look 43 = .ok (.iastore, 1) := by decide +kernel
theorem dX4_look_44 : decode cX4_look 44 = .ok (.iinc 4 1, 3) := by decide +kernel
theorem dX4_look_47 : decode cX4_look 47 = .ok (.goto (-37), 3) := by decide +kernel
theorem dX4_look_50 : decode cX4_look 50 = .ok (.iinc 3 1, 3) := by decide +kernel
theorem dX4_look_53 : decode cX4_look 53 = .ok (.goto (-51), 3) := by decide +kernel
theorem dX4_look_56 : decode cX4_look 56 = .ok (.aload_n 0, 1) := by decide +kernel
theorem dX4_look_57 : decode cX4_look 57 = .ok (.iconst (-1), 1) := by decide +kernel
theorem dX4_look_58 : decode cX4_look 58 = .ok (.putfield 35, 3) := by decide +kernel
theorem dX4_look_61 : decode cX4_look 61 = .ok (.aload_n 0, 1) := by decide +kernel
theorem dX4_look_62 : decode cX4_look 62 = .ok (.iconst 0, 1) := by decide +kernel
theorem dX4_look_63 : decode cX4_look 63 = .ok (.putfield 38, 3) := by decide +kernel
theorem dX4_look_66 : decode cX4_look 66 = .ok (.aload_n 0, 1) := by decide +kernel
theorem dX4_look_67 : decode cX4_look 67 = .ok (.iconst 0, 1) := by decide +kernel
theorem dX4_look_68 : decode cX4_look 68 = .ok (.iload_n 1, 1) := by decide +kernel
theorem dX4_look_69 : decode cX4_look 69 = .ok (.iload_n 2, 1) := by decide +kernel
theorem dX4_look_70 : decode cX4_look 70 = .ok (.iconst 0, 1) := by decide +kernel
theorem dX4_look_71 : decode cX4_look 71 = .ok (.iconst 0, 1) := by decide +kernel
theorem dX4_look_72 : decode cX4_look 72 = .ok (.invokevirtual 41, 3) := by decide +kernel
theorem dX4_look_75 : decode cX4_look 75 = .ok (.return_, 1) := by decide +kernel
theorem dX4_sendNext_0 : decode cX4_sendNext 0 = .ok (.iload_n 2, 1) := by decide +kernel
theorem dX4_sendNext_1 : decode cX4_sendNext 1 = .ok (.ifCond .eq 8, 3) := by decide +kernel
theorem dX4_sendNext_4 : decode cX4_sendNext 4 = .ok (.iload_n 1, 1) := by decide +kernel
theorem dX4_sendNext_5 : decode cX4_sendNext 5 = .ok (.iconst 5, 1) := by decide +kernel
theorem dX4_sendNext_6 : decode cX4_sendNext 6 = .ok (.if_icmp .lt 25, 3) := by decide +kernel
theorem dX4_sendNext_9 : decode cX4_sendNext 9 = .ok (.iload 4, 2) := by decide +kernel
theorem dX4_sendNext_11 : decode cX4_sendNext 11 = .ok (.aload_n 0, 1) := by decide +kernel
theorem dX4_sendNext_12 : decode cX4_sendNext 12 = .ok (.getfield 35, 3) := by decide +kernel
theorem dX4_sendNext_15 : decode cX4_sendNext 15 = .ok (.if_icmp .le 15, 3) := by decide +kernel
theorem dX4_sendNext_18 : decode cX4_sendNext 18 = .ok (.aload_n 0, 1) := by decide +kernel
theorem dX4_sendNext_19 : decode cX4_sendNext 19 = .ok (.iload 4, 2) := by decide +kernel
theorem dX4_sendNext_21 : decode cX4_sendNext 21 = .ok (.putfield 35, 3) := by decide +kernel
theorem dX4_sendNext_24 : decode cX4_sendNext 24 = .ok (.aload_n 0, 1) := by decide +kernel
theorem dX4_sendNext_25 : decode cX4_sendNext 25 = .ok (.iload 5, 2) := by decide +kernel
theorem dX4_sendNext_27 : decode cX4_sendNext 27 = .ok (.putfield 38, 3) := by decide +kernel
theorem dX4_sendNext_30 : decode cX4_sendNext 30 = .ok (.return_, 1) := by decide +kernel
theorem dX4_sendNext_31 : decode cX4_sendNext 31 = .ok (.iconst 0, 1) := by decide +kernel
theorem dX4_sendNext_32 : decode cX4_sendNext 32 = .ok (.istore 6, 2) := by decide +kernel
theorem dX4_sendNext_34 : decode cX4_sendNext 34 = .ok (.iload 6, 2) := by decide +kernel
theorem dX4_sendNext_36 : decode cX4_sendNext 36 = .ok (.aload_n 0, 1) := by decide +kernel
theorem dX4_sendNext_37 : decode cX4_sendNext 37 = .ok (.getfield 15, 3) := by decide +kernel
theorem dX4_sendNext_40 : decode cX4_sendNext 40 = .ok (.getfield 23, 3) := by decide +kernel
theorem dX4_sendNext_43 : decode cX4_sendNext 43 = .ok (.if_icmp .ge 98, 3) := by decide +kernel
theorem dX4_sendNext_46 : decode cX4_sendNext 46 = .ok (.iload_n 2, 1) := by decide +kernel
theorem dX4_sendNext_47 : decode cX4_sendNext 47 = .ok (.iload 6, 2) := by decide +kernel
theorem dX4_sendNext_49 : decode cX4_sendNext 49 = .ok (.ishr, 1) := by decide +kernel
theorem dX4_sendNext_50 : decode cX4_sendNext 50 = .ok (.iconst 1, 1) := by decide +kernel
theorem dX4_sendNext_51 : decode cX4_sendNext 51 = .ok (.iand, 1) := by decide +kernel
theorem dX4_sendNext_52 : decode cX4_sendNext 52 = .ok (.ifCond .eq 83, 3) := by decide +kernel
theorem dX4_sendNext_55 : decode cX4_sendNext 55 = .ok (.aload_n 0, 1) := by decide +kernel
theorem dX4_sendNext_56 : decode cX4_sendNext 56 = .ok (.getfield 9, 3) := by decide +kernel
theorem dX4_sendNext_59 : decode cX4_sendNext 59 = .ok (.iload_n 1, 1) := by decide +kernel
theorem dX4_sendNext_60 : decode cX4_sendNext 60 = .ok (.bipush 8, 2) := by decide +kernel
theorem dX4_sendNext_62 : decode cX4_sendNext 62 = .ok (.imul, 1) := by decide +kernel
theorem dX4_sendNext_63 : decode cX4_sendNext 63 = .ok (.iload 6, 2) := by decide +kernel
theorem dX4_sendNext_65 : decode cX4_sendNext 65 = .ok (.iadd, 1) := by decide +kernel
theorem dX4_sendNext_66 : decode cX4_sendNext 66 = .ok (.iaload, 1) := by decide +kernel
theorem dX4_sendNext_67 : decode cX4_sendNext 67 = .ok (.istore 7, 2) := by decide +kernel
theorem dX4_sendNext_69 : decode cX4_sendNext 69 = .ok (.iload 7, 2) := by decide +kernel
theorem dX4_sendNext_71 : decode cX4_sendNext 71 = .ok (.iconst (-1), 1) := by decide +kernel
theorem dX4_sendNext_72 : decode cX4_sendNext 72 = .ok (.if_icmp .ne 7, 3) := by decide +kernel
theorem dX4_sendNext_75 : decode cX4_sendNext 75 = .ok (.iconst 0, 1) := by decide +kernel
theorem dX4_sendNext_76 : decode cX4_sendNext 76 = .ok (.goto 7, 3) := by decide +kernel
theorem dX4_sendNext_79 : decode cX4_sendNext 79 = .ok (.iconst 1, 1) := by decide +kernel
theorem dX4_sendNext_80 : decode cX4_sendNext 80 = .ok (.iload 7, 2) := by decide +kernel
theorem dX4_sendNext_82 : decode cX4_sendNext 82 = .ok (.ishl, 1) := by decide +kernel
theorem dX4_sendNext_83 : decode cX4_sendNext 83 = .ok (.istore 8, 2) := by decide +kernel
theorem dX4_sendNext_85 : decode cX4_sendNext 85 = .ok (.iload 8, 2) := by decide +kernel
theorem dX4_sendNext_87 : decode cX4_sendNext 87 = .ok (.iload_n 3, 1) := by decide +kernel
theorem dX4_sendNext_88 : decode cX4_sendNext 88 = .ok (.iconst (-1), 1) := by decide +kernel
theorem dX4_sendNext_89 : decode cX4_sendNext 89 = .ok (.ixor, 1) := by decide +kernel
theorem dX4_sendNext_90 : decode cX4_sendNext 90 = .ok (.iand, 1) := by decide +kernel
theorem dX4_sendNext_91 : decode cX4_sendNext 91 = .ok (.ifCond .ne 7, 3) := by decide +kernel
theorem dX4_sendNext_94 : decode cX4_sendNext 94 = .ok (.iconst 0, 1) := by decide +kernel
theorem dX4_sendNext_95 : decode cX4_sendNext 95 = .ok (.goto 4, 3) := by decide +kernel
theorem dX4_sendNext_98 : decode cX4_sendNext 98 = .ok (.iconst 1, 1) := by decide +kernel
theorem dX4_sendNext_99 : decode cX4_sendNext 99 = .ok (.istore 9, 2) := by decide +kernel
theorem dX4_sendNext_101 : decode cX4_sendNext 101 = .ok (.aload_n 0, 1) := by decide +kernel
theorem dX4_sendNext_102 : decode cX4_sendNext 102 = .ok (.iload_n 1, 1) := by decide +kernel
theorem dX4_sendNext_103 : decode cX4_sendNext 103 = .ok (.iconst 1, 1) := by decide +kernel
theorem dX4_sendNext_104 : decode cX4_sendNext 104 = .ok (.iadd, 1) := by decide +kernel
theorem dX4_sendNext_105 : decode cX4_sendNext 105 = .ok (.iload_n 2, 1) := by decide +kernel
theorem dX4_sendNext_106 : decode cX4_sendNext 106 = .ok (.iconst 1, 1) := by decide +kernel
theorem dX4_sendNext_107 : decode cX4_sendNext 107 = .ok (.iload 6, 2) := by decide +kernel
theorem dX4_sendNext_109 : decode cX4_sendNext 109 = .ok (.ishl, 1) := by decide +kernel
theorem dX4_sendNext_110 : decode cX4_sendNext 110 = .ok (.iconst (-1), 1) := by decide +kernel
theorem dX4_sendNext_111 : decode cX4_sendNext 111 = .ok (.ixor, 1) := by decide +kernel
theorem dX4_sendNext_112 : decode cX4_sendNext 112 = .ok (.iand, 1) := by decide +kernel
theorem dX4_sendNext_113 : decode cX4_sendNext 113 = .ok (.iload_n 3, 1) := by decide +kernel
theorem dX4_sendNext_114 : decode cX4_sendNext 114 = .ok (.iload 8, 2) := by decide +kernel
theorem dX4_sendNext_116 : decode cX4_sendNext 116 = .ok (.ior, 1) := by decide +kernel
theorem dX4_sendNext_117 : decode cX4_sendNext 117 = .ok (.iload 4, 2) := by decide +kernel
theorem dX4_sendNext_119 : decode cX4_sendNext 119 = .ok (.iload 9, 2) := by decide +kernel
theorem dX4_sendNext_121 : decode cX4_sendNext 121 = .ok (.iadd, 1) := by decide +kernel
theorem dX4_sendNext_122 : decode cX4_sendNext 122 = .ok (.iload 5, 2) := by decide +kernel
theorem dX4_sendNext_124 : decode cX4_sendNext 124 = .ok (.bipush 10, 2) := by decide +kernel
theorem dX4_sendNext_126 : decode cX4_sendNext 126 = .ok (.imul, 1) := by decide +kernel
theorem dX4_sendNext_127 : decode cX4_sendNext 127 = .ok (.iload 6, 2) := by decide +kernel
theorem dX4_sendNext_129 : decode cX4_sendNext 129 = .ok (.iadd, 1) := by decide +kernel
theorem dX4_sendNext_130 : decode cX4_sendNext 130 = .ok (.iconst 1, 1) := by decide +kernel
theorem dX4_sendNext_131 : decode cX4_sendNext 131 = .ok (.iadd, 1) := by decide +kernel
theorem dX4_sendNext_132 : decode cX4_sendNext 132 = .ok (.invokevirtual 41, 3) := by decide +kernel
theorem dX4_sendNext_135 : decode cX4_sendNext 135 = .ok (.iinc 6 1, 3) := by decide +kernel
theorem dX4_sendNext_138 : decode cX4_sendNext 138 = .ok (.goto (-104), 3) := by decide +kernel
theorem dX4_sendNext_141 : decode cX4_sendNext 141 = .ok (.return_, 1) := by decide +kernel
theorem dX5_init_0 : decode cX5_init 0 = .ok (.aload_n 0, 1) := by decide +kernel
theorem dX5_init_1 : decode cX5_init 1 = .ok (.invokespecial 3, 3) := by decide +kernel
theorem dX5_init_4 : decode cX5_init 4 = .ok (.aload_n 0, 1) := by decide +kernel
theorem dX5_init_5 : decode cX5_init 5 = .ok (.new 9, 3) := by decide +kernel
theorem dX5_init_8 : decode cX5_init 8 = .ok (.dup, 1) := by decide +kernel
theorem dX5_init_9 : decode cX5_init 9 = .ok (.invokespecial 11, 3) := by decide +kernel
theorem dX5_init_12 : decode cX5_init 12 = .ok (.putfield 12, 3) := by decide +kernel
theorem dX5_init_15 : decode cX5_init 15 = .ok (.aload_n 0, 1) := by decide +kernel
theorem dX5_init_16 : decode cX5_init 16 = .ok (.iconst (-1), 1) := by decide +kernel
theorem dX5_init_17 : decode cX5_init 17 = .ok (.putfield 18, 3) := by decide +kernel
theorem dX5_init_20 : decode cX5_init 20 = .ok (.aload_n 0, 1) := by decide +kernel
theorem dX5_init_21 : decode cX5_init 21 = .ok (.sipush 240, 3) := by decide +kernel
theorem dX5_init_24 : decode cX5_init 24 = .ok (.newarray .int, 2) := by decide +kernel
theorem dX5_init_26 : decode cX5_init 26 = .ok (.putfield 22, 3) := by decide +kernel
theorem dX5_init_29 : decode cX5_init 29 = .ok (.return_, 1) := by decide +kernel
theorem dX5_append_0 : decode cX5_append 0 = .ok (.aload_n 0, 1) := by decide +kernel
theorem dX5_append_1 : decode cX5_append 1 = .ok (.getfield 26, 3) := by decide +kernel
theorem dX5_append_4 : decode cX5_append 4 = .ok (.sipush 240, 3) := by decide +kernel
theorem dX5_append_7 : decode cX5_append 7 = .ok (.if_icmp .ge 23, 3) := by decide +kernel
theorem dX5_append_10 : decode cX5_append 10 = .ok (.aload_n 0, 1) := by decide +kernel
theorem dX5_append_11 : decode cX5_append 11 = .ok (.getfield 22, 3) := by decide +kernel
theorem dX5_append_14 : decode cX5_append 14 = .ok (.aload_n 0, 1) := by decide +kernel
theorem dX5_append_15 : decode cX5_append 15 = .ok (.getfield 26, 3) := by decide +kernel
theorem dX5_append_18 : decode cX5_append 18 = .ok (.iload_n 1, 1) := by decide +kernel
theorem dX5_append_19 : decode cX5_append 19 = .ok (.iastore, 1) := by decide +kernel
theorem dX5_append_20 : decode cX5_append 20 = .ok (.aload_n 0, 1) := by decide +kernel
theorem dX5_append_21 : decode cX5_append 21 = .ok (.dup, 1) := by decide +kernel
theorem dX5_append_22 : decode cX5_append 22 = .ok (.getfield 26, 3) := by decide +kernel
theorem dX5_append_25 : decode cX5_append 25 = .ok (.iconst 1, 1) := by decide +kernel
theorem dX5_append_26 : decode cX5_append 26 = .ok (.iadd, 1) := by decide +kernel
theorem dX5_append_27 : decode cX5_append 27 = .ok (.putfield 26, 3) := by decide +kernel
theorem dX5_append_30 : decode cX5_append 30 = .ok (.return_, 1) := by decide +kernel
theorem dX5_readText_0 : decode cX5_readText 0 = .ok (.aload_n 0, 1) := by decide +kernel
theorem dX5_readText_1 : decode cX5_readText 1 = .ok (.getfield 12, 3) := by decide +kernel
theorem dX5_readText_4 : decode cX5_readText 4 = .ok (.invokevirtual 29, 3) := by decide +kernel
theorem dX5_readText_7 : decode cX5_readText 7 = .ok (.aload_n 0, 1) := by decide +kernel
theorem dX5_readText_8 : decode cX5_readText 8 = .ok (.iconst 0, 1) := by decide +kernel
theorem dX5_readText_9 : decode cX5_readText 9 = .ok (.putfield 32, 3) := by decide +kernel
theorem dX5_readText_12 : decode cX5_readText 12 = .ok (.aload_n 0, 1) := by decide +kernel
theorem dX5_readText_13 : decode cX5_readText 13 = .ok (.iconst (-1), 1) := by decide +kernel
theorem dX5_readText_14 : decode cX5_readText 14 = .ok (.putfield 18, 3) := by decide +kernel
theorem dX5_readText_17 : decode cX5_readText 17 = .ok (.aload_n 0, 1) := by decide +kernel
theorem dX5_readText_18 : decode cX5_readText 18 = .ok (.iconst 0, 1) := by decide +kernel
theorem dX5_readText_19 : decode cX5_readText 19 = .ok (.putfield 35, 3) := by decide +kernel
theorem dX5_readText_22 : decode cX5_readText 22 = .ok (.aload_n 0, 1) := by decide +kernel
theorem dX5_readText_23 : decode cX5_readText 23 = .ok (.iconst 0, 1) := by decide +kernel
theorem dX5_readText_24 : decode cX5_readText 24 = .ok (.putfield 38, 3) := by decide +kernel
theorem dX5_readText_27 : decode cX5_readText 27 = .ok (.iconst 0, 1) := by decide +kernel
theorem dX5_readText_28 : decode cX5_readText 28 = .ok (.istore_n 1, 1) := by decide +kernel
theorem dX5_readText_29 : decode cX5_readText 29 = .ok (.iload_n 1, 1) := by decide +kernel
theorem dX5_readText_30 : decode cX5_readText 30 = .ok (.sipush 240, 3) := by decide +kernel
theorem dX5_readText_33 : decode cX5_readText 33 = .ok (.if_icmp .ge 28, 3) := by decide +kernel
theorem dX5_readText_36 : decode cX5_readText 36 = .ok (.aload_n 0, 1) := by decide +kernel
theorem dX5_readText_37 : decode cX5_readText 37 = .ok (.getfield 32, 3) := by decide +kernel
theorem dX5_readText_40 : decode cX5_readText 40 = .ok (.ifCond .ne 21, 3) := by decide +kernel
theorem dX5_readText_43 : decode cX5_readText 43 = .ok (.aload_n 0, 1) := by decide +kernel
theorem dX5_readText_44 : decode cX5_readText 44 = .ok (.invokevirtual 42, 3) := by decide +kernel
theorem dX5_readText_47 : decode cX5_readText 47 = .ok (.iconst (-1), 1) := by decide +kernel
theorem dX5_readText_48 : decode cX5_readText 48 = .ok (.if_icmp .eq 13, 3) := by decide +kernel
theorem dX5_readText_51 : decode cX5_readText 51 = .ok (.aload_n 0, 1) := by decide +kernel
theorem dX5_readText_52 : decode cX5_readText 52 = .ok (.invokevirtual 46, 3) := by decide +kernel
theorem dX5_readText_55 : decode cX5_readText 55 = .ok (.iinc 1 1, 3) := by decide +kernel
theorem dX5_readText_58 : decode cX5_readText 58 = .ok (.goto (-29), 3) := by decide +kernel
theorem dX5_readText_61 : decode cX5_readText 61 = .ok (.aload_n 0, 1) := by decide +kernel
theorem dX5_readText_62 : decode cX5_readText 62 = .ok (.getfield 32, 3) := by decide +kernel
theorem dX5_readText_65 : decode cX5_readText 65 = .ok (.ireturn, 1) := by decide +kernel
theorem dX5_readClause_0 : decode cX5_readClause 0 = .ok (.aload_n 0, 1) := by decide +kernel
theorem dX5_readClause_1 : decode cX5_readClause 1 = .ok (.invokevirtual 42, 3) := by decide +kernel
theorem dX5_readClause_4 : decode cX5_readClause 4 = .ok (.istore_n 1, 1) := by decide +kernel
theorem dX5_readClause_5 : decode cX5_readClause 5 = .ok (.iload_n 1, 1) := by decide +kernel
theorem dX5_readClause_6 : decode cX5_readClause 6 = .ok (.bipush 114, 2) := by decide +kernel
theorem dX5_readClause_8 : decode cX5_readClause 8 = .ok (.if_icmp .eq 37, 3) := by decide +kernel
theorem dX5_readClause_11 : decode cX5_readClause 11 = .ok (.aload_n 0, 1) := by decide +kernel
theorem dX5_readClause_12 : decode cX5_readClause 12 = .ok (.getfield 12, 3) := by decide +kernel
theorem dX5_readClause_15 : decode cX5_readClause 15 = .ok (.getfield 49, 3) := by decide +kernel
theorem dX5_readClause_18 : decode cX5_readClause 18 = .ok (.ifCond .eq 15, 3) := by decide +kernel
theorem dX5_readClause_21 : decode cX5_readClause 21 = .ok (.iload_n 1, 1) := by decide +kernel
theorem dX5_readClause_22 : decode cX5_readClause 22 = .ok (.bipush 119, 2) := by decide +kernel
theorem dX5_readClause_24 : decode cX5_readClause 24 = .ok (.if_icmp .eq 21, 3) := by decide +kernel
theorem dX5_readClause_27 : decode cX5_readClause 27 = .ok (.iload_n 1, 1) := by decide +kernel
theorem dX5_readClause_28 : decode cX5_readClause 28 = .ok (.bipush 99, 2) := by decide +kernel
theorem dX5_readClause_30 : decode cX5_readClause 30 = .ok (.if_icmp .eq 15, 3) := by decide +kernel
theorem dX5_readClause_33 : decode cX5_readClause 33 = .ok (.aload_n 0, 1) := by decide +kernel
theorem dX5_readClause_34 : decode cX5_readClause 34 = .ok (.iconst 1, 1) := by decide +kernel
theorem dX5_readClause_35 : decode cX5_readClause 35 = .ok (.aload_n 0, 1) := by decide +kernel
theorem dX5_readClause_36 : decode cX5_readClause 36 = .ok (.getfield 35, 3) := by decide +kernel
theorem dX5_readClause_39 : decode cX5_readClause 39 = .ok (.invokevirtual 52, 3) := by decide +kernel
theorem dX5_readClause_42 : decode cX5_readClause 42 = .ok (.goto 38, 3) := by decide +kernel
theorem dX5_readClause_45 : decode cX5_readClause 45 = .ok (.aload_n 0, 1) := by decide +kernel
theorem dX5_readClause_46 : decode cX5_readClause 46 = .ok (.iload_n 1, 1) := by decide +kernel
theorem dX5_readClause_47 : decode cX5_readClause 47 = .ok (.invokevirtual 56, 3) := by decide +kernel
theorem dX5_readClause_50 : decode cX5_readClause 50 = .ok (.ifCond .eq 15, 3) := by decide +kernel
theorem dX5_readClause_53 : decode cX5_readClause 53 = .ok (.aload_n 0, 1) := by decide +kernel
theorem dX5_readClause_54 : decode cX5_readClause 54 = .ok (.iconst 3, 1) := by decide +kernel
theorem dX5_readClause_55 : decode cX5_readClause 55 = .ok (.aload_n 0, 1) := by decide +kernel
theorem dX5_readClause_56 : decode cX5_readClause 56 = .ok (.getfield 35, 3) := by decide +kernel
theorem dX5_readClause_59 : decode cX5_readClause 59 = .ok (.invokevirtual 52, 3) := by decide +kernel
theorem dX5_readClause_62 : decode cX5_readClause 62 = .ok (.goto 18, 3) := by decide +kernel
theorem dX5_readClause_65 : decode cX5_readClause 65 = .ok (.aload_n 0, 1) := by decide +kernel
theorem dX5_readClause_66 : decode cX5_readClause 66 = .ok (.dup, 1) := by decide +kernel
theorem dX5_readClause_67 : decode cX5_readClause 67 = .ok (.getfield 35, 3) := by decide +kernel
theorem dX5_readClause_70 : decode cX5_readClause 70 = .ok (.iconst 1, 1) := by decide +kernel
theorem dX5_readClause_71 : decode cX5_readClause 71 = .ok (.iadd, 1) := by decide +kernel
theorem dX5_readClause_72 : decode cX5_readClause 72 = .ok (.putfield 35, 3) := by decide +kernel
theorem dX5_readClause_75 : decode cX5_readClause 75 = .ok (.aload_n 0, 1) := by decide +kernel
theorem dX5_readClause_76 : decode cX5_readClause 76 = .ok (.iload_n 1, 1) := by decide +kernel
theorem dX5_readClause_77 : decode cX5_readClause 77 = .ok (.invokevirtual 60, 3) := by decide +kernel
theorem dX5_readClause_80 : decode cX5_readClause 80 = .ok (.return_, 1) := by decide +kernel
theorem dX5_isOneTooMany_0 : decode cX5_isOneTooMany 0 = .ok (.iload_n 1, 1) := by decide +kernel
theorem dX5_isOneTooMany_1 : decode cX5_isOneTooMany 1 = .ok (.bipush 114, 2) := by decide +kernel
theorem dX5_isOneTooMany_3 : decode cX5_isOneTooMany 3 = .ok (.if_icmp .ne 19, 3) := by decide +kernel
theorem dX5_isOneTooMany_6 : decode cX5_isOneTooMany 6 = .ok (.aload_n 0, 1) := by decide +kernel
theorem dX5_isOneTooMany_7 : decode cX5_isOneTooMany 7 = .ok (.getfield 12, 3) := by decide +kernel
theorem dX5_isOneTooMany_10 : decode cX5_isOneTooMany 10 = .ok (.getfield 49, 3) := by decide +kernel
theorem dX5_isOneTooMany_13 : decode cX5_isOneTooMany 13 = .ok (.ifCond .le 7, 3) := by decide +kernel
theorem dX5_isOneTooMany_16 : decode cX5_isOneTooMany 16 = .ok (.iconst 1, 1) := by decide +kernel
theorem dX5_isOneTooMany_17 : decode cX5_isOneTooMany 17 = .ok (.goto 4, 3) := by decide +kernel
theorem dX5_isOneTooMany_20 : decode cX5_isOneTooMany 20 = .ok (.iconst 0, 1) := by decide +kernel
theorem dX5_isOneTooMany_21 : decode cX5_isOneTooMany 21 = .ok (.ireturn, 1) := by decide +kernel
theorem dX5_isOneTooMany_22 : decode cX5_isOneTooMany 22 = .ok (.iload_n 1, 1) := by decide +kernel
theorem dX5_isOneTooMany_23 : decode cX5_isOneTooMany 23 = .ok (.bipush 119, 2) := by decide +kernel
theorem dX5_isOneTooMany_25 : decode cX5_isOneTooMany 25 = .ok (.if_icmp .ne 10, 3) := by decide +kernel
theorem dX5_isOneTooMany_28 : decode cX5_isOneTooMany 28 = .ok (.aload_n 0, 1) := by decide +kernel
theorem dX5_isOneTooMany_29 : decode cX5_isOneTooMany 29 = .ok (.getfield 38, 3) := by decide +kernel
theorem dX5_isOneTooMany_32 : decode cX5_isOneTooMany 32 = .ok (.goto 20, 3) := by decide +kernel
theorem dX5_isOneTooMany_35 : decode cX5_isOneTooMany 35 = .ok (.aload_n 0, 1) := by decide +kernel
theorem dX5_isOneTooMany_36 : decode cX5_isOneTooMany 36 = .ok (.getfield 12, 3) := by decide +kernel
theorem dX5_isOneTooMany_39 : decode cX5_isOneTooMany 39 = .ok (.getfield 64, 3) := by decide +kernel
theorem dX5_isOneTooMany_42 : decode cX5_isOneTooMany 42 = .ok (.bipush 8, 2) := by decide +kernel
theorem dX5_isOneTooMany_44 : decode cX5_isOneTooMany 44 = .ok (.if_icmp .lt 7, 3) := by decide +kernel
theorem dX5_isOneTooMany_47 : decode cX5_isOneTooMany 47 = .ok (.iconst 1, 1) := by decide +kernel
theorem dX5_isOneTooMany_48 : decode cX5_isOneTooMany 48 = .ok (.goto 4, 3) := by decide +kernel
theorem dX5_isOneTooMany_51 : decode cX5_isOneTooMany 51 = .ok (.iconst 0, 1) := by decide +kernel
theorem dX5_isOneTooMany_52 : decode cX5_isOneTooMany 52 = .ok (.ireturn, 1) := by decide +kernel
theorem dX5_readRest_0 : decode cX5_readRest 0 = .ok (.iload_n 1, 1) := by decide +kernel
theorem dX5_readRest_1 : decode cX5_readRest 1 = .ok (.bipush 114, 2) := by decide +kernel
theorem dX5_readRest_3 : decode cX5_readRest 3 = .ok (.if_icmp .ne 29, 3) := by decide +kernel
theorem dX5_readRest_6 : decode cX5_readRest 6 = .ok (.aload_n 0, 1) := by decide +kernel
theorem dX5_readRest_7 : decode cX5_readRest 7 = .ok (.getfield 12, 3) := by decide +kernel
theorem dX5_readRest_10 : decode cX5_readRest 10 = .ok (.aload_n 0, 1) := by decide +kernel
theorem dX5_readRest_11 : decode cX5_readRest 11 = .ok (.aload_n 0, 1) := by decide +kernel
theorem dX5_readRest_12 : decode cX5_readRest 12 = .ok (.getfield 12, 3) := by decide +kernel
theorem dX5_readRest_15 : decode cX5_readRest 15 = .ok (.getfield 67, 3) := by decide +kernel
theorem dX5_readRest_18 : decode cX5_readRest 18 = .ok (.iconst 2, 1) := by decide +kernel
theorem dX5_readRest_19 : decode cX5_readRest 19 = .ok (.bipush 20, 2) := by decide +kernel
theorem dX5_readRest_21 : decode cX5_readRest 21 = .ok (.bipush 60, 2) := by decide +kernel
theorem dX5_readRest_23 : decode cX5_readRest 23 = .ok (.invokevirtual 70, 3) := by decide +kernel
theorem dX5_readRest_26 : decode cX5_readRest 26 = .ok (.putfield 49, 3) := by decide +kernel
theorem dX5_readRest_29 : decode cX5_readRest 29 = .ok (.goto 44, 3) := by decide +kernel
theorem dX5_readRest_32 : decode cX5_readRest 32 = .ok (.iload_n 1, 1) := by decide +kernel
theorem dX5_readRest_33 : decode cX5_readRest 33 = .ok (.bipush 119, 2) := by decide +kernel
theorem dX5_readRest_35 : decode cX5_readRest 35 = .ok (.if_icmp .ne 34, 3) := by decide +kernel
theorem dX5_readRest_38 : decode cX5_readRest 38 = .ok (.aload_n 0, 1) := by decide +kernel
theorem dX5_readRest_39 : decode cX5_readRest 39 = .ok (.getfield 12, 3) := by decide +kernel
theorem dX5_readRest_42 : decode cX5_readRest 42 = .ok (.aload_n 0, 1) := by decide +kernel
theorem dX5_readRest_43 : decode cX5_readRest 43 = .ok (.aload_n 0, 1) := by decide +kernel
theorem dX5_readRest_44 : decode cX5_readRest 44 = .ok (.getfield 12, 3) := by decide +kernel
theorem dX5_readRest_47 : decode cX5_readRest 47 = .ok (.getfield 74, 3) := by decide +kernel
theorem dX5_readRest_50 : decode cX5_readRest 50 = .ok (.iconst 1, 1) := by decide +kernel
theorem dX5_readRest_51 : decode cX5_readRest 51 = .ok (.bipush 12, 2) := by decide +kernel
theorem dX5_readRest_53 : decode cX5_readRest 53 = .ok (.bipush 30, 2) := by decide +kernel
theorem dX5_readRest_55 : decode cX5_readRest 55 = .ok (.invokevirtual 70, 3) := by decide +kernel
theorem dX5_readRest_58 : decode cX5_readRest 58 = .ok (.putfield 77, 3) := by decide +kernel
theorem dX5_readRest_61 : decode cX5_readRest 61 = .ok (.aload_n 0, 1) := by decide +kernel
theorem dX5_readRest_62 : decode cX5_readRest 62 = .ok (.iconst 1, 1) := by decide +kernel
theorem dX5_readRest_63 : decode cX5_readRest 63 = .ok (.putfield 38, 3) := by decide +kernel
theorem dX5_readRest_66 : decode cX5_readRest 66 = .ok (.goto 7, 3) := by decide +kernel
theorem dX5_readRest_69 : decode cX5_readRest 69 = .ok (.aload_n 0, 1) := by decide +kernel
theorem dX5_readRest_70 : decode cX5_readRest 70 = .ok (.invokevirtual 80, 3) := by decide +kernel
theorem dX5_readRest_73 : decode cX5_readRest 73 = .ok (.return_, 1) := by decide +kernel
theorem dX5_readRow_0 : decode cX5_readRow 0 = .ok (.iconst 0, 1) := by decide +kernel
theorem dX5_readRow_1 : decode cX5_readRow 1 = .ok (.istore 5, 2) := by decide +kernel
theorem dX5_readRow_3 : decode cX5_readRow 3 = .ok (.iload 5, 2) := by decide +kernel
theorem dX5_readRow_5 : decode cX5_readRow 5 = .ok (.iload_n 3, 1) := by decide +kernel
theorem dX5_readRow_6 : decode cX5_readRow 6 = .ok (.if_icmp .ge 127, 3) := by decide +kernel
theorem dX5_readRow_9 : decode cX5_readRow 9 = .ok (.iload 5, 2) := by decide +kernel
theorem dX5_readRow_11 : decode cX5_readRow 11 = .ok (.aload_n 1, 1) := by decide +kernel
theorem dX5_readRow_12 : decode cX5_readRow 12 = .ok (.arraylength, 1) := by decide +kernel
theorem dX5_readRow_13 : decode cX5_readRow 13 = .ok (.if_icmp .ge 120, 3) := by decide +kernel
theorem dX5_readRow_16 : decode cX5_readRow 16 = .ok (.aload_n 1, 1) := by decide +kernel
theorem dX5_readRow_17 : decode cX5_readRow 17 = .ok (.iload 5, 2) := by decide +kernel
theorem dX5_readRow_19 : decode cX5_readRow 19 = .ok (.aload_n 0, 1) := by decide +kernel
theorem dX5_readRow_20 : decode cX5_readRow 20 = .ok (.iconst 0, 1) := by decide +kernel
theorem dX5_readRow_21 : decode cX5_readRow 21 = .ok (.iload 4, 2) := by decide +kernel
theorem dX5_readRow_23 : decode cX5_readRow 23 = .ok (.invokevirtual 83, 3) := by decide +kernel
theorem dX5_readRow_26 : decode cX5_readRow 26 = .ok (.iastore, 1) := by decide +kernel
theorem dX5_readRow_27 : decode cX5_readRow 27 = .ok (.aload_n 0, 1) := by decide +kernel
theorem dX5_readRow_28 : decode cX5_readRow 28 = .ok (.getfield 32, 3) := by decide +kernel
theorem dX5_readRow_31 : decode cX5_readRow 31 = .ok (.ifCond .eq 5, 3) := by decide +kernel
theorem dX5_readRow_34 : decode cX5_readRow 34 = .ok (.iconst 0, 1) := by decide +kernel
theorem dX5_readRow_35 : decode cX5_readRow 35 = .ok (.ireturn, 1) := by decide +kernel
theorem dX5_readRow_36 : decode cX5_readRow 36 = .ok (.aload_n 0, 1) := by decide +kernel
theorem dX5_readRow_37 : decode cX5_readRow 37 = .ok (.invokevirtual 42, 3) := by decide +kernel
theorem dX5_readRow_40 : decode cX5_readRow 40 = .ok (.istore 6, 2) := by decide +kernel
theorem dX5_readRow_42 : decode cX5_readRow 42 = .ok (.iload 6, 2) := by decide +kernel
theorem dX5_readRow_44 : decode cX5_readRow 44 = .ok (.bipush 59, 2) := by decide +kernel
theorem dX5_readRow_46 : decode cX5_readRow 46 = .ok (.if_icmp .ne 15, 3) := by decide +kernel
theorem dX5_readRow_49 : decode cX5_readRow 49 = .ok (.iload 5, 2) := by decide +kernel
theorem dX5_readRow_51 : decode cX5_readRow 51 = .ok (.iconst 1, 1) := by decide +kernel
theorem dX5_readRow_52 : decode cX5_readRow 52 = .ok (.iadd, 1) := by decide +kernel
theorem dX5_readRow_53 : decode cX5_readRow 53 = .ok (.iload_n 2, 1) := by decide +kernel
theorem dX5_readRow_54 : decode cX5_readRow 54 = .ok (.if_icmp .lt 7, 3) := by decide +kernel
theorem dX5_readRow_57 : decode cX5_readRow 57 = .ok (.iconst 1, 1) := by decide +kernel
theorem dX5_readRow_58 : decode cX5_readRow 58 = .ok (.goto 4, 3) := by decide +kernel
theorem dX5_readRow_61 : decode cX5_readRow 61 = .ok (.iconst 0, 1) := by decide +kernel
theorem dX5_readRow_62 : decode cX5_readRow 62 = .ok (.istore 7, 2) := by decide +kernel
theorem dX5_readRow_64 : decode cX5_readRow 64 = .ok (.iload 6, 2) := by decide +kernel
theorem dX5_readRow_66 : decode cX5_readRow 66 = .ok (.bipush 44, 2) := by decide +kernel
theorem dX5_readRow_68 : decode cX5_readRow 68 = .ok (.if_icmp .ne 15, 3) := by decide +kernel
theorem dX5_readRow_71 : decode cX5_readRow 71 = .ok (.iload 5, 2) := by decide +kernel
theorem dX5_readRow_73 : decode cX5_readRow 73 = .ok (.iconst 1, 1) := by decide +kernel
theorem dX5_readRow_74 : decode cX5_readRow 74 = .ok (.iadd, 1) := by decide +kernel
theorem dX5_readRow_75 : decode cX5_readRow 75 = .ok (.iload_n 3, 1) := by decide +kernel
theorem dX5_readRow_76 : decode cX5_readRow 76 = .ok (.if_icmp .ge 7, 3) := by decide +kernel
theorem dX5_readRow_79 : decode cX5_readRow 79 = .ok (.iconst 1, 1) := by decide +kernel
theorem dX5_readRow_80 : decode cX5_readRow 80 = .ok (.goto 4, 3) := by decide +kernel
theorem dX5_readRow_83 : decode cX5_readRow 83 = .ok (.iconst 0, 1) := by decide +kernel
theorem dX5_readRow_84 : decode cX5_readRow 84 = .ok (.istore 8, 2) := by decide +kernel
theorem dX5_readRow_86 : decode cX5_readRow 86 = .ok (.iload 7, 2) := by decide +kernel
theorem dX5_readRow_88 : decode cX5_readRow 88 = .ok (.ifCond .ne 19, 3) := by decide +kernel
theorem dX5_readRow_91 : decode cX5_readRow 91 = .ok (.iload 8, 2) := by decide +kernel
theorem dX5_readRow_93 : decode cX5_readRow 93 = .ok (.ifCond .ne 14, 3) := by decide +kernel
theorem dX5_readRow_96 : decode cX5_readRow 96 = .ok (.aload_n 0, 1) := by decide +kernel
theorem dX5_readRow_97 : decode cX5_readRow 97 = .ok (.iconst 1, 1) := by decide +kernel
theorem dX5_readRow_98 : decode cX5_readRow 98 = .ok (.aload_n 0, 1) := by decide +kernel
theorem dX5_readRow_99 : decode cX5_readRow 99 = .ok (.getfield 35, 3) := by decide +kernel
theorem dX5_readRow_102 : decode cX5_readRow 102 = .ok (.invokevirtual 52, 3) := by decide +kernel
theorem dX5_readRow_105 : decode cX5_readRow 105 = .ok (.iconst 0, 1) := by decide +kernel
theorem dX5_readRow_106 : decode cX5_readRow 106 = .ok (.ireturn, 1) := by decide +kernel
theorem dX5_readRow_107 : decode cX5_readRow 107 = .ok (.aload_n 0, 1) := by decide +kernel
theorem dX5_readRow_108 : decode cX5_readRow 108 = .ok (.dup, 1) := by decide +kernel
theorem dX5_readRow_109 : decode cX5_readRow 109 = .ok (.getfield 35, 3) := by decide +kernel
theorem dX5_readRow_112 : decode cX5_readRow 112 = .ok (.iconst 1, 1) := by decide +kernel
theorem dX5_readRow_113 : decode cX5_readRow 113 = .ok (.iadd, 1) := by decide +kernel
theorem dX5_readRow_114 : decode cX5_readRow 114 = .ok (.putfield 35, 3) := by decide +kernel
theorem dX5_readRow_117 : decode cX5_readRow 117 = .ok (.iload 7, 2) := by decide +kernel
theorem dX5_readRow_119 : decode cX5_readRow 119 = .ok (.ifCond .eq 8, 3) := by decide +kernel
theorem dX5_readRow_122 : decode cX5_readRow 122 = .ok (.iload 5, 2) := by decide +kernel
theorem dX5_readRow_124 : decode cX5_readRow 124 = .ok (.iconst 1, 1) := by decide +kernel
theorem dX5_readRow_125 : decode cX5_readRow 125 = .ok (.iadd, 1) := by decide +kernel
theorem dX5_readRow_126 : decode cX5_readRow 126 = .ok (.ireturn, 1) := by decide +kernel
theorem dX5_readRow_127 : decode cX5_readRow 127 = .ok (.iinc 5 1, 3) := by decide +kernel
theorem dX5_readRow_130 : decode cX5_readRow 130 = .ok (.goto (-127), 3) := by decide +kernel
theorem dX5_readRow_133 : decode cX5_readRow 133 = .ok (.iconst 0, 1) := by decide +kernel
theorem dX5_readRow_134 : decode cX5_readRow 134 = .ok (.ireturn, 1) := by decide +kernel
theorem dX5_readCart_0 : decode cX5_readCart 0 = .ok (.aload_n 0, 1) := by decide +kernel
theorem dX5_readCart_1 : decode cX5_readCart 1 = .ok (.getfield 12, 3) := by decide +kernel
theorem dX5_readCart_4 : decode cX5_readCart 4 = .ok (.getfield 64, 3) := by decide +kernel
theorem dX5_readCart_7 : decode cX5_readCart 7 = .ok (.istore_n 1, 1) := by decide +kernel
theorem dX5_readCart_8 : decode cX5_readCart 8 = .ok (.iload_n 1, 1) := by decide +kernel
theorem dX5_readCart_9 : decode cX5_readCart 9 = .ok (.bipush 8, 2) := by decide +kernel
theorem dX5_readCart_11 : decode cX5_readCart 11 = .ok (.if_icmp .lt 4, 3) := by decide +kernel
theorem dX5_readCart_14 : decode cX5_readCart 14 = .ok (.return_, 1) := by decide +kernel
theorem dX5_readCart_15 : decode cX5_readCart 15 = .ok (.aload_n 0, 1) := by decide +kernel
theorem dX5_readCart_16 : decode cX5_readCart 16 = .ok (.getfield 12, 3) := by decide +kernel
theorem dX5_readCart_19 : decode cX5_readCart 19 = .ok (.getfield 87, 3) := by decide +kernel
theorem dX5_readCart_22 : decode cX5_readCart 22 = .ok (.iload_n 1, 1) := by decide +kernel
theorem dX5_readCart_23 : decode cX5_readCart 23 = .ok (.aload_n 0, 1) := by decide +kernel
theorem dX5_readCart_24 : decode cX5_readCart 24 = .ok (.iconst 0, 1) := by decide +kernel
theorem dX5_readCart_25 : decode cX5_readCart 25 = .ok (.iconst 3, 1) := by decide +kernel
theorem dX5_readCart_26 : decode cX5_readCart 26 = .ok (.invokevirtual 83, 3) := by decide +kernel
theorem dX5_readCart_29 : decode cX5_readCart 29 = .ok (.iastore, 1) := by decide +kernel
theorem dX5_readCart_30 : decode cX5_readCart 30 = .ok (.aload_n 0, 1) := by decide +kernel
theorem dX5_readCart_31 : decode cX5_readCart 31 = .ok (.getfield 12, 3) := by decide +kernel
theorem dX5_readCart_34 : decode cX5_readCart 34 = .ok (.getfield 90, 3) := by decide +kernel
theorem dX5_readCart_37 : decode cX5_readCart 37 = .ok (.iload_n 1, 1) := by decide +kernel
theorem dX5_readCart_38 : decode cX5_readCart 38 = .ok (.aload_n 0, 1) := by decide +kernel
theorem dX5_readCart_39 : decode cX5_readCart 39 = .ok (.iconst 1, 1) := by decide +kernel
theorem dX5_readCart_40 : decode cX5_readCart 40 = .ok (.bipush 60, 2) := by decide +kernel
theorem dX5_readCart_42 : decode cX5_readCart 42 = .ok (.invokevirtual 83, 3) := by decide +kernel
theorem dX5_readCart_45 : decode cX5_readCart 45 = .ok (.iastore, 1) := by decide +kernel
theorem dX5_readCart_46 : decode cX5_readCart 46 = .ok (.aload_n 0, 1) := by decide +kernel
theorem dX5_readCart_47 : decode cX5_readCart 47 = .ok (.getfield 12, 3) := by decide +kernel
theorem dX5_readCart_50 : decode cX5_readCart 50 = .ok (.getfield 93, 3) := by decide +kernel
theorem dX5_readCart_53 : decode cX5_readCart 53 = .ok (.iload_n 1, 1) := by decide +kernel
theorem dX5_readCart_54 : decode cX5_readCart 54 = .ok (.aload_n 0, 1) := by decide +kernel
theorem dX5_readCart_55 : decode cX5_readCart 55 = .ok (.iconst 0, 1) := by decide +kernel
theorem dX5_readCart_56 : decode cX5_readCart 56 = .ok (.bipush 9, 2) := by decide +kernel
theorem dX5_readCart_58 : decode cX5_readCart 58 = .ok (.invokevirtual 83, 3) := by decide +kernel
theorem dX5_readCart_61 : decode cX5_readCart 61 = .ok (.iastore, 1) := by decide +kernel
theorem dX5_readCart_62 : decode cX5_readCart 62 = .ok (.aload_n 0, 1) := by decide +kernel
theorem dX5_readCart_63 : decode cX5_readCart 63 = .ok (.invokevirtual 42, 3) := by decide +kernel
theorem dX5_readCart_66 : decode cX5_readCart 66 = .ok (.bipush 59, 2) := by decide +kernel
theorem dX5_readCart_68 : decode cX5_readCart 68 = .ok (.if_icmp .eq 13, 3) := by decide +kernel
theorem dX5_readCart_71 : decode cX5_readCart 71 = .ok (.aload_n 0, 1) := by decide +kernel
theorem dX5_readCart_72 : decode cX5_readCart 72 = .ok (.iconst 1, 1) := by decide +kernel
theorem dX5_readCart_73 : decode cX5_readCart 73 = .ok (.aload_n 0, 1) := by decide +kernel
theorem dX5_readCart_74 : decode cX5_readCart 74 = .ok (.getfield 35, 3) := by decide +kernel
theorem dX5_readCart_77 : decode cX5_readCart 77 = .ok (.invokevirtual 52, 3) := by decide +kernel
theorem dX5_readCart_80 : decode cX5_readCart 80 = .ok (.return_, 1) := by decide +kernel
theorem dX5_readCart_81 : decode cX5_readCart 81 = .ok (.aload_n 0, 1) := by decide +kernel
theorem dX5_readCart_82 : decode cX5_readCart 82 = .ok (.dup, 1) := by decide +kernel
theorem dX5_readCart_83 : decode cX5_readCart 83 = .ok (.getfield 35, 3) := by decide +kernel
theorem dX5_readCart_86 : decode cX5_readCart 86 = .ok (.iconst 1, 1) := by decide +kernel
theorem dX5_readCart_87 : decode cX5_readCart 87 = .ok (.iadd, 1) := by decide +kernel
theorem dX5_readCart_88 : decode cX5_readCart 88 = .ok (.putfield 35, 3) := by decide +kernel
theorem dX5_readCart_91 : decode cX5_readCart 91 = .ok (.aload_n 0, 1) := by decide +kernel
theorem dX5_readCart_92 : decode cX5_readCart 92 = .ok (.getfield 12, 3) := by decide +kernel
theorem dX5_readCart_95 : decode cX5_readCart 95 = .ok (.dup, 1) := by decide +kernel
theorem dX5_readCart_96 : decode cX5_readCart 96 = .ok (.getfield 64, 3) := by decide +kernel
theorem dX5_readCart_99 : decode cX5_readCart 99 = .ok (.iconst 1, 1) := by decide +kernel
theorem dX5_readCart_100 : decode cX5_readCart 100 = .ok (.iadd, 1) := by decide +kernel
theorem dX5_readCart_101 : decode cX5_readCart 101 = .ok (.putfield 64, 3) := by decide +kernel
theorem dX5_readCart_104 : decode cX5_readCart 104 = .ok (.return_, 1) := by decide +kernel
theorem dX5_readNumber_0 : decode cX5_readNumber 0 = .ok (.aload_n 0, 1) := by decide +kernel
theorem dX5_readNumber_1 : decode cX5_readNumber 1 = .ok (.aload_n 0, 1) := by decide +kernel
theorem dX5_readNumber_2 : decode cX5_readNumber 2 = .ok (.invokevirtual 42, 3) := by decide +kernel
theorem dX5_readNumber_5 : decode cX5_readNumber 5 = .ok (.invokevirtual 96, 3) := by decide +kernel
theorem dX5_readNumber_8 : decode cX5_readNumber 8 = .ok (.ifCond .ne 14, 3) := by decide +kernel
theorem dX5_readNumber_11 : decode cX5_readNumber 11 = .ok (.aload_n 0, 1) := by decide +kernel
theorem dX5_readNumber_12 : decode cX5_readNumber 12 = .ok (.iconst 1, 1) := by decide +kernel
theorem dX5_readNumber_13 : decode cX5_readNumber 13 = .ok (.aload_n 0, 1) := by decide +kernel
theorem dX5_readNumber_14 : decode cX5_readNumber 14 = .ok (.getfield 35, 3) := by decide +kernel
theorem dX5_readNumber_17 : decode cX5_readNumber 17 = .ok (.invokevirtual 52, 3) := by decide +kernel
theorem dX5_readNumber_20 : decode cX5_readNumber 20 = .ok (.iconst 0, 1) := by decide +kernel
theorem dX5_readNumber_21 : decode cX5_readNumber 21 = .ok (.ireturn, 1) := by decide +kernel
theorem dX5_readNumber_22 : decode cX5_readNumber 22 = .ok (.aload_n 0, 1) := by decide +kernel
theorem dX5_readNumber_23 : decode cX5_readNumber 23 = .ok (.getfield 35, 3) := by decide +kernel
theorem dX5_readNumber_26 : decode cX5_readNumber 26 = .ok (.istore_n 3, 1) := by decide +kernel
theorem dX5_readNumber_27 : decode cX5_readNumber 27 = .ok (.iconst 0, 1) := by decide +kernel
theorem dX5_readNumber_28 : decode cX5_readNumber 28 = .ok (.istore 4, 2) := by decide +kernel
theorem dX5_readNumber_30 : decode cX5_readNumber 30 = .ok (.aload_n 0, 1) := by decide +kernel
theorem dX5_readNumber_31 : decode cX5_readNumber 31 = .ok (.getfield 35, 3) := by decide +kernel
theorem dX5_readNumber_34 : decode cX5_readNumber 34 = .ok (.aload_n 0, 1) := by decide +kernel
theorem dX5_readNumber_35 : decode cX5_readNumber 35 = .ok (.getfield 26, 3) := by decide +kernel
theorem dX5_readNumber_38 : decode cX5_readNumber 38 = .ok (.if_icmp .ge 62, 3) := by decide +kernel
theorem dX5_readNumber_41 : decode cX5_readNumber 41 = .ok (.aload_n 0, 1) := by decide +kernel
theorem dX5_readNumber_42 : decode cX5_readNumber 42 = .ok (.aload_n 0, 1) := by decide +kernel
theorem dX5_readNumber_43 : decode cX5_readNumber 43 = .ok (.getfield 22, 3) := by decide +kernel
theorem dX5_readNumber_46 : decode cX5_readNumber 46 = .ok (.aload_n 0, 1) := by decide +kernel
theorem dX5_readNumber_47 : decode cX5_readNumber 47 = .ok (.getfield 35, 3) := by decide +kernel
theorem dX5_readNumber_50 : decode cX5_readNumber 50 = .ok (.iaload, 1) := by decide +kernel
theorem dX5_readNumber_51 : decode cX5_readNumber 51 = .ok (.invokevirtual 96, 3) := by decide +kernel
theorem dX5_readNumber_54 : decode cX5_readNumber 54 = .ok (.ifCond .eq 46, 3) := by decide +kernel
theorem dX5_readNumber_57 : decode cX5_readNumber 57 = .ok (.aload_n 0, 1) := by decide +kernel
theorem dX5_readNumber_58 : decode cX5_readNumber 58 = .ok (.getfield 35, 3) := by decide +kernel
theorem dX5_readNumber_61 : decode cX5_readNumber 61 = .ok (.iload_n 3, 1) := by decide +kernel
theorem dX5_readNumber_62 : decode cX5_readNumber 62 = .ok (.isub, 1) := by decide +kernel
theorem dX5_readNumber_63 : decode cX5_readNumber 63 = .ok (.iconst 3, 1) := by decide +kernel
theorem dX5_readNumber_64 : decode cX5_readNumber 64 = .ok (.if_icmp .ge 23, 3) := by decide +kernel
theorem dX5_readNumber_67 : decode cX5_readNumber 67 = .ok (.iload 4, 2) := by decide +kernel
theorem dX5_readNumber_69 : decode cX5_readNumber 69 = .ok (.bipush 10, 2) := by decide +kernel
theorem dX5_readNumber_71 : decode cX5_readNumber 71 = .ok (.imul, 1) := by decide +kernel
theorem dX5_readNumber_72 : decode cX5_readNumber 72 = .ok (.aload_n 0, 1) := by decide +kernel
theorem dX5_readNumber_73 : decode cX5_readNumber 73 = .ok (.getfield 22, 3) := by decide +kernel
theorem dX5_readNumber_76 : decode cX5_readNumber 76 = .ok (.aload_n 0, 1) := by decide +kernel
theorem dX5_readNumber_77 : decode cX5_readNumber 77 = .ok (.getfield 35, 3) := by decide +kernel
theorem dX5_readNumber_80 : decode cX5_readNumber 80 = .ok (.iaload, 1) := by decide +kernel
theorem dX5_readNumber_81 : decode cX5_readNumber 81 = .ok (.iadd, 1) := by decide +kernel
theorem dX5_readNumber_82 : decode cX5_readNumber 82 = .ok (.bipush 48, 2) := by decide +kernel
theorem dX5_readNumber_84 : decode cX5_readNumber 84 = .ok (.isub, 1) := by decide +kernel
theorem dX5_readNumber_85 : decode cX5_readNumber 85 = .ok (.istore 4, 2) := by decide +kernel
theorem dX5_readNumber_87 : decode cX5_readNumber 87 = .ok (.aload_n 0, 1) := by decide +kernel
theorem dX5_readNumber_88 : decode cX5_readNumber 88 = .ok (.dup, 1) := by decide +kernel
theorem dX5_readNumber_89 : decode cX5_readNumber 89 = .ok (.getfield 35, 3) := by decide +kernel
theorem dX5_readNumber_92 : decode cX5_readNumber 92 = .ok (.iconst 1, 1) := by decide +kernel
theorem dX5_readNumber_93 : decode cX5_readNumber 93 = .ok (.iadd, 1) := by decide +kernel
theorem dX5_readNumber_94 : decode cX5_readNumber 94 = .ok (.putfield 35, 3) := by decide +kernel
theorem dX5_readNumber_97 : decode cX5_readNumber 97 = .ok (.goto (-67), 3) := by decide +kernel
theorem dX5_readNumber_100 : decode cX5_readNumber 100 = .ok (.aload_n 0, 1) := by decide +kernel
theorem dX5_readNumber_101 : decode cX5_readNumber 101 = .ok (.getfield 35, 3) := by decide +kernel
theorem dX5_readNumber_104 : decode cX5_readNumber 104 = .ok (.iload_n 3, 1) := by decide +kernel
theorem dX5_readNumber_105 : decode cX5_readNumber 105 = .ok (.isub, 1) := by decide +kernel
theorem dX5_readNumber_106 : decode cX5_readNumber 106 = .ok (.iconst 3, 1) := by decide +kernel
theorem dX5_readNumber_107 : decode cX5_readNumber 107 = .ok (.if_icmp .gt 15, 3) := by decide +kernel
theorem dX5_readNumber_110 : decode cX5_readNumber 110 = .ok (.iload 4, 2) := by decide +kernel
theorem dX5_readNumber_112 : decode cX5_readNumber 112 = .ok (.iload_n 1, 1) := by decide +kernel
theorem dX5_readNumber_113 : decode cX5_readNumber 113 = .ok (.if_icmp .lt 9, 3) := by decide +kernel
theorem dX5_readNumber_116 : decode cX5_readNumber 116 = .ok (.iload 4, 2) := by decide +kernel
theorem dX5_readNumber_118 : decode cX5_readNumber 118 = .ok (.iload_n 2, 1) := by decide +kernel
theorem dX5_readNumber_119 : decode cX5_readNumber 119 = .ok (.if_icmp .le 9, 3) := by decide +kernel
theorem dX5_readNumber_122 : decode cX5_readNumber 122 = .ok (.aload_n 0, 1) := by decide +kernel
theorem dX5_readNumber_123 : decode cX5_readNumber 123 = .ok (.iconst 2, 1) := by decide +kernel
theorem dX5_readNumber_124 : decode cX5_readNumber 124 = .ok (.iload_n 3, 1) := by decide +kernel
theorem dX5_readNumber_125 : decode cX5_readNumber 125 = .ok (.invokevirtual 52, 3) := by decide +kernel
theorem dX5_readNumber_128 : decode cX5_readNumber 128 = .ok (.iload 4, 2) := by decide +kernel
theorem dX5_readNumber_130 : decode cX5_readNumber 130 = .ok (.ireturn, 1) := by decide +kernel
theorem dX5_isFigure_0 : decode cX5_isFigure 0 = .ok (.iload_n 1, 1) := by decide +kernel
theorem dX5_isFigure_1 : decode cX5_isFigure 1 = .ok (.bipush 48, 2) := by decide +kernel
theorem dX5_isFigure_3 : decode cX5_isFigure 3 = .ok (.if_icmp .lt 13, 3) := by decide +kernel
theorem dX5_isFigure_6 : decode cX5_isFigure 6 = .ok (.iload_n 1, 1) := by decide +kernel
theorem dX5_isFigure_7 : decode cX5_isFigure 7 = .ok (.bipush 57, 2) := by decide +kernel
theorem dX5_isFigure_9 : decode cX5_isFigure 9 = .ok (.if_icmp .gt 7, 3) := by decide +kernel
theorem dX5_isFigure_12 : decode cX5_isFigure 12 = .ok (.iconst 1, 1) := by decide +kernel
theorem dX5_isFigure_13 : decode cX5_isFigure 13 = .ok (.goto 4, 3) := by decide +kernel
theorem dX5_isFigure_16 : decode cX5_isFigure 16 = .ok (.iconst 0, 1) := by decide +kernel
theorem dX5_isFigure_17 : decode cX5_isFigure 17 = .ok (.ireturn, 1) := by decide +kernel
theorem dX5_nextLetter_0 : decode cX5_nextLetter 0 = .ok (.aload_n 0, 1) := by decide +kernel
theorem dX5_nextLetter_1 : decode cX5_nextLetter 1 = .ok (.getfield 35, 3) := by decide +kernel
theorem dX5_nextLetter_4 : decode cX5_nextLetter 4 = .ok (.aload_n 0, 1) := by decide +kernel
theorem dX5_nextLetter_5 : decode cX5_nextLetter 5 = .ok (.getfield 26, 3) := by decide +kernel
theorem dX5_nextLetter_8 : decode cX5_nextLetter 8 = .ok (.if_icmp .ge 30, 3) := by decide +kernel
theorem dX5_nextLetter_11 : decode cX5_nextLetter 11 = .ok (.aload_n 0, 1) := by decide +kernel
theorem dX5_nextLetter_12 : decode cX5_nextLetter 12 = .ok (.getfield 22, 3) := by decide +kernel
theorem dX5_nextLetter_15 : decode cX5_nextLetter 15 = .ok (.aload_n 0, 1) := by decide +kernel
theorem dX5_nextLetter_16 : decode cX5_nextLetter 16 = .ok (.getfield 35, 3) := by decide +kernel
theorem dX5_nextLetter_19 : decode cX5_nextLetter 19 = .ok (.iaload, 1) := by decide +kernel
theorem dX5_nextLetter_20 : decode cX5_nextLetter 20 = .ok (.bipush 32, 2) := by decide +kernel
theorem dX5_nextLetter_22 : decode cX5_nextLetter 22 = .ok (.if_icmp .ne 16, 3) := by decide +kernel
theorem dX5_nextLetter_25 : decode cX5_nextLetter 25 = .ok (.aload_n 0, 1) := by decide +kernel
theorem dX5_nextLetter_26 : decode cX5_nextLetter 26 = .ok (.dup, 1) := by decide +kernel
theorem dX5_nextLetter_27 : decode cX5_nextLetter 27 = .ok (.getfield 35, 3) := by decide +kernel
theorem dX5_nextLetter_30 : decode cX5_nextLetter 30 = .ok (.iconst 1, 1) := by decide +kernel
theorem dX5_nextLetter_31 : decode cX5_nextLetter 31 = .ok (.iadd, 1) := by decide +kernel
theorem dX5_nextLetter_32 : decode cX5_nextLetter 32 = .ok (.putfield 35, 3) := by decide +kernel
theorem dX5_nextLetter_35 : decode cX5_nextLetter 35 = .ok (.goto (-35), 3) := by decide +kernel
theorem dX5_nextLetter_38 : decode cX5_nextLetter 38 = .ok (.aload_n 0, 1) := by decide +kernel
theorem dX5_nextLetter_39 : decode cX5_nextLetter 39 = .ok (.getfield 35, 3) := by decide +kernel
theorem dX5_nextLetter_42 : decode cX5_nextLetter 42 = .ok (.aload_n 0, 1) := by decide +kernel
theorem dX5_nextLetter_43 : decode cX5_nextLetter 43 = .ok (.getfield 26, 3) := by decide +kernel
theorem dX5_nextLetter_46 : decode cX5_nextLetter 46 = .ok (.if_icmp .ge 15, 3) := by decide +kernel
theorem dX5_nextLetter_49 : decode cX5_nextLetter 49 = .ok (.aload_n 0, 1) := by decide +kernel
theorem dX5_nextLetter_50 : decode cX5_nextLetter 50 = .ok (.getfield 22, 3) := by decide +kernel
theorem dX5_nextLetter_53 : decode cX5_nextLetter 53 = .ok (.aload_n 0, 1) := by decide +kernel
theorem dX5_nextLetter_54 : decode cX5_nextLetter 54 = .ok (.getfield 35, 3) := by decide +kernel
theorem dX5_nextLetter_57 : decode cX5_nextLetter 57 = .ok (.iaload, 1) := by decide +kernel
theorem dX5_nextLetter_58 : decode cX5_nextLetter 58 = .ok (.goto 4, 3) := by decide +kernel
theorem dX5_nextLetter_61 : decode cX5_nextLetter 61 = .ok (.iconst (-1), 1) := by decide +kernel
theorem dX5_nextLetter_62 : decode cX5_nextLetter 62 = .ok (.ireturn, 1) := by decide +kernel
theorem dX5_fail_0 : decode cX5_fail 0 = .ok (.aload_n 0, 1) := by decide +kernel
theorem dX5_fail_1 : decode cX5_fail 1 = .ok (.getfield 32, 3) := by decide +kernel
theorem dX5_fail_4 : decode cX5_fail 4 = .ok (.ifCond .ne 13, 3) := by decide +kernel
theorem dX5_fail_7 : decode cX5_fail 7 = .ok (.aload_n 0, 1) := by decide +kernel
theorem dX5_fail_8 : decode cX5_fail 8 = .ok (.iload_n 1, 1) := by decide +kernel
theorem dX5_fail_9 : decode cX5_fail 9 = .ok (.putfield 32, 3) := by decide +kernel
theorem dX5_fail_12 : decode cX5_fail 12 = .ok (.aload_n 0, 1) := by decide +kernel
theorem dX5_fail_13 : decode cX5_fail 13 = .ok (.iload_n 2, 1) := by decide +kernel
theorem dX5_fail_14 : decode cX5_fail 14 = .ok (.putfield 18, 3) := by decide +kernel
theorem dX5_fail_17 : decode cX5_fail 17 = .ok (.return_, 1) := by decide +kernel
theorem dX6_init_0 : decode cX6_init 0 = .ok (.aload_n 0, 1) := by decide +kernel
theorem dX6_init_1 : decode cX6_init 1 = .ok (.invokespecial 3, 3) := by decide +kernel
theorem dX6_init_4 : decode cX6_init 4 = .ok (.aload_n 0, 1) := by decide +kernel
theorem dX6_init_5 : decode cX6_init 5 = .ok (.bipush 20, 2) := by decide +kernel
theorem dX6_init_7 : decode cX6_init 7 = .ok (.newarray .int, 2) := by decide +kernel
theorem dX6_init_9 : decode cX6_init 9 = .ok (.putfield 9, 3) := by decide +kernel
theorem dX6_init_12 : decode cX6_init 12 = .ok (.aload_n 0, 1) := by decide +kernel
theorem dX6_init_13 : decode cX6_init 13 = .ok (.bipush 12, 2) := by decide +kernel
theorem dX6_init_15 : decode cX6_init 15 = .ok (.newarray .int, 2) := by decide +kernel
theorem dX6_init_17 : decode cX6_init 17 = .ok (.putfield 15, 3) := by decide +kernel
theorem dX6_init_20 : decode cX6_init 20 = .ok (.aload_n 0, 1) := by decide +kernel
theorem dX6_init_21 : decode cX6_init 21 = .ok (.bipush 8, 2) := by decide +kernel
theorem dX6_init_23 : decode cX6_init 23 = .ok (.newarray .int, 2) := by decide +kernel
theorem dX6_init_25 : decode cX6_init 25 = .ok (.putfield 18, 3) := by decide +kernel
theorem dX6_init_28 : decode cX6_init 28 = .ok (.aload_n 0, 1) := by decide +kernel
theorem dX6_init_29 : decode cX6_init 29 = .ok (.bipush 8, 2) := by decide +kernel
theorem dX6_init_31 : decode cX6_init 31 = .ok (.newarray .int, 2) := by decide +kernel
theorem dX6_init_33 : decode cX6_init 33 = .ok (.putfield 21, 3) := by decide +kernel
theorem dX6_init_36 : decode cX6_init 36 = .ok (.aload_n 0, 1) := by decide +kernel
theorem dX6_init_37 : decode cX6_init 37 = .ok (.bipush 8, 2) := by decide +kernel
theorem dX6_init_39 : decode cX6_init 39 = .ok (.newarray .int, 2) := by decide +kernel
theorem dX6_init_41 : decode cX6_init 41 = .ok (.putfield 24, 3) := by decide +kernel
theorem dX6_init_44 : decode cX6_init 44 = .ok (.return_, 1) := by decide +kernel
theorem dX6_clear_0 : decode cX6_clear 0 = .ok (.aload_n 0, 1) := by decide +kernel
theorem dX6_clear_1 : decode cX6_clear 1 = .ok (.iconst 0, 1) := by decide +kernel
theorem dX6_clear_2 : decode cX6_clear 2 = .ok (.putfield 27, 3) := by decide +kernel
theorem dX6_clear_5 : decode cX6_clear 5 = .ok (.aload_n 0, 1) := by decide +kernel
theorem dX6_clear_6 : decode cX6_clear 6 = .ok (.iconst 0, 1) := by decide +kernel
theorem dX6_clear_7 : decode cX6_clear 7 = .ok (.putfield 31, 3) := by decide +kernel
theorem dX6_clear_10 : decode cX6_clear 10 = .ok (.aload_n 0, 1) := by decide +kernel
theorem dX6_clear_11 : decode cX6_clear 11 = .ok (.iconst 1, 1) := by decide +kernel
theorem dX6_clear_12 : decode cX6_clear 12 = .ok (.putfield 34, 3) := by decide +kernel
theorem dX6_clear_15 : decode cX6_clear 15 = .ok (.aload_n 0, 1) := by decide +kernel
theorem dX6_clear_16 : decode cX6_clear 16 = .ok (.getfield 15, 3) := by decide +kernel
theorem dX6_clear_19 : decode cX6_clear 19 = .ok (.iconst 0, 1) := by decide +kernel
theorem dX6_clear_20 : decode cX6_clear 20 = .ok (.iconst 5, 1) := by decide +kernel
theorem dX6_clear_21 : decode cX6_clear 21 = .ok (.iastore, 1) := by decide +kernel
theorem dX6_clear_22 : decode cX6_clear 22 = .ok (.return_, 1) := by decide +kernel
theorem dX6_become_0 : decode cX6_become 0 = .ok (.aload_n 0, 1) := by decide +kernel
theorem dX6_become_1 : decode cX6_become 1 = .ok (.aload_n 1, 1) := by decide +kernel
theorem dX6_become_2 : decode cX6_become 2 = .ok (.getfield 27, 3) := by decide +kernel
theorem dX6_become_5 : decode cX6_become 5 = .ok (.putfield 27, 3) := by decide +kernel
theorem dX6_become_8 : decode cX6_become 8 = .ok (.aload_n 0, 1) := by decide +kernel
theorem dX6_become_9 : decode cX6_become 9 = .ok (.aload_n 1, 1) := by decide +kernel
theorem dX6_become_10 : decode cX6_become 10 = .ok (.getfield 34, 3) := by decide +kernel
theorem dX6_become_13 : decode cX6_become 13 = .ok (.putfield 34, 3) := by decide +kernel
theorem dX6_become_16 : decode cX6_become 16 = .ok (.aload_n 0, 1) := by decide +kernel
theorem dX6_become_17 : decode cX6_become 17 = .ok (.aload_n 1, 1) := by decide +kernel
theorem dX6_become_18 : decode cX6_become 18 = .ok (.getfield 31, 3) := by decide +kernel
theorem dX6_become_21 : decode cX6_become 21 = .ok (.putfield 31, 3) := by decide +kernel
theorem dX6_become_24 : decode cX6_become 24 = .ok (.aload_n 1, 1) := by decide +kernel
theorem dX6_become_25 : decode cX6_become 25 = .ok (.getfield 9, 3) := by decide +kernel
theorem dX6_become_28 : decode cX6_become 28 = .ok (.iconst 0, 1) := by decide +kernel
theorem dX6_become_29 : decode cX6_become 29 = .ok (.aload_n 0, 1) := by decide +kernel
theorem dX6_become_30 : decode cX6_become 30 = .ok (.getfield 9, 3) := by decide +kernel
theorem dX6_become_33 : decode cX6_become 33 = .ok (.iconst 0, 1) := by decide +kernel
theorem dX6_become_34 : decode cX6_become 34 = .ok (.bipush 20, 2) := by decide +kernel
theorem dX6_become_36 : decode cX6_become 36 = .ok (.invokestatic 37, 3) := by decide +kernel
theorem dX6_become_39 : decode cX6_become 39 = .ok (.aload_n 1, 1) := by decide +kernel
theorem dX6_become_40 : decode cX6_become 40 = .ok (.getfield 15, 3) := by decide +kernel
theorem dX6_become_43 : decode cX6_become 43 = .ok (.iconst 0, 1) := by decide +kernel
theorem dX6_become_44 : decode cX6_become 44 = .ok (.aload_n 0, 1) := by decide +kernel
theorem dX6_become_45 : decode cX6_become 45 = .ok (.getfield 15, 3) := by decide +kernel
theorem dX6_become_48 : decode cX6_become 48 = .ok (.iconst 0, 1) := by decide +kernel
theorem dX6_become_49 : decode cX6_become 49 = .ok (.bipush 12, 2) := by decide +kernel
theorem dX6_become_51 : decode cX6_become 51 = .ok (.invokestatic 37, 3) := by decide +kernel
theorem dX6_become_54 : decode cX6_become 54 = .ok (.aload_n 1, 1) := by decide +kernel
theorem dX6_become_55 : decode cX6_become 55 = .ok (.getfield 18, 3) := by decide +kernel
theorem dX6_become_58 : decode cX6_become 58 = .ok (.iconst 0, 1) := by decide +kernel
theorem dX6_become_59 : decode cX6_become 59 = .ok (.aload_n 0, 1) := by decide +kernel
theorem dX6_become_60 : decode cX6_become 60 = .ok (.getfield 18, 3) := by decide +kernel
theorem dX6_become_63 : decode cX6_become 63 = .ok (.iconst 0, 1) := by decide +kernel
theorem dX6_become_64 : decode cX6_become 64 = .ok (.bipush 8, 2) := by decide +kernel
theorem dX6_become_66 : decode cX6_become 66 = .ok (.invokestatic 37, 3) := by decide +kernel
theorem dX6_become_69 : decode cX6_become 69 = .ok (.aload_n 1, 1) := by decide +kernel
theorem dX6_become_70 : decode cX6_become 70 = .ok (.getfield 21, 3) := by decide +kernel
theorem dX6_become_73 : decode cX6_become 73 = .ok (.iconst 0, 1) := by decide +kernel
theorem dX6_become_74 : decode cX6_become 74 = .ok (.aload_n 0, 1) := by decide +kernel
theorem dX6_become_75 : decode cX6_become 75 = .ok (.getfield 21, 3) := by decide +kernel
theorem dX6_become_78 : decode cX6_become 78 = .ok (.iconst 0, 1) := by decide +kernel
theorem dX6_become_79 : decode cX6_become 79 = .ok (.bipush 8, 2) := by decide +kernel
theorem dX6_become_81 : decode cX6_become 81 = .ok (.invokestatic 37, 3) := by decide +kernel
theorem dX6_become_84 : decode cX6_become 84 = .ok (.aload_n 1, 1) := by decide +kernel
theorem dX6_become_85 : decode cX6_become 85 = .ok (.getfield 24, 3) := by decide +kernel
theorem dX6_become_88 : decode cX6_become 88 = .ok (.iconst 0, 1) := by decide +kernel
theorem dX6_become_89 : decode cX6_become 89 = .ok (.aload_n 0, 1) := by decide +kernel
theorem dX6_become_90 : decode cX6_become 90 = .ok (.getfield 24, 3) := by decide +kernel
theorem dX6_become_93 : decode cX6_become 93 = .ok (.iconst 0, 1) := by decide +kernel
theorem dX6_become_94 : decode cX6_become 94 = .ok (.bipush 8, 2) := by decide +kernel
theorem dX6_become_96 : decode cX6_become 96 = .ok (.invokestatic 37, 3) := by decide +kernel
theorem dX6_become_99 : decode cX6_become 99 = .ok (.return_, 1) := by decide +kernel
theorem dX6_hasCell_0 : decode cX6_hasCell 0 = .ok (.iload_n 1, 1) := by decide +kernel
theorem dX6_hasCell_1 : decode cX6_hasCell 1 = .ok (.ifCond .lt 15, 3) := by decide +kernel
theorem dX6_hasCell_4 : decode cX6_hasCell 4 = .ok (.iload_n 1, 1) := by decide +kernel
theorem dX6_hasCell_5 : decode cX6_hasCell 5 = .ok (.aload_n 0, 1) := by decide +kernel
theorem dX6_hasCell_6 : decode cX6_hasCell 6 = .ok (.getfield 27, 3) := by decide +kernel
theorem dX6_hasCell_9 : decode cX6_hasCell 9 = .ok (.if_icmp .ge 7, 3) := by decide +kernel
theorem dX6_hasCell_12 : decode cX6_hasCell 12 = .ok (.iconst 1, 1) := by decide +kernel
theorem dX6_hasCell_13 : decode cX6_hasCell 13 = .ok (.goto 4, 3) := by decide +kernel
theorem dX6_hasCell_16 : decode cX6_hasCell 16 = .ok (.iconst 0, 1) := by decide +kernel
theorem dX6_hasCell_17 : decode cX6_hasCell 17 = .ok (.ireturn, 1) := by decide +kernel
theorem dX6_hasCart_0 : decode cX6_hasCart 0 = .ok (.iload_n 1, 1) := by decide +kernel
theorem dX6_hasCart_1 : decode cX6_hasCart 1 = .ok (.ifCond .lt 15, 3) := by decide +kernel
theorem dX6_hasCart_4 : decode cX6_hasCart 4 = .ok (.iload_n 1, 1) := by decide +kernel
theorem dX6_hasCart_5 : decode cX6_hasCart 5 = .ok (.aload_n 0, 1) := by decide +kernel
theorem dX6_hasCart_6 : decode cX6_hasCart 6 = .ok (.getfield 31, 3) := by decide +kernel
theorem dX6_hasCart_9 : decode cX6_hasCart 9 = .ok (.if_icmp .ge 7, 3) := by decide +kernel
theorem dX6_hasCart_12 : decode cX6_hasCart 12 = .ok (.iconst 1, 1) := by decide +kernel
theorem dX6_hasCart_13 : decode cX6_hasCart 13 = .ok (.goto 4, 3) := by decide +kernel
theorem dX6_hasCart_16 : decode cX6_hasCart 16 = .ok (.iconst 0, 1) := by decide +kernel
theorem dX6_hasCart_17 : decode cX6_hasCart 17 = .ok (.ireturn, 1) := by decide +kernel
theorem dX6_hasCarts_0 : decode cX6_hasCarts 0 = .ok (.iload_n 1, 1) := by decide +kernel
theorem dX6_hasCarts_1 : decode cX6_hasCarts 1 = .ok (.aload_n 0, 1) := by decide +kernel
theorem dX6_hasCarts_2 : decode cX6_hasCarts 2 = .ok (.getfield 31, 3) := by decide +kernel
theorem dX6_hasCarts_5 : decode cX6_hasCarts 5 = .ok (.iushr, 1) := by decide +kernel
theorem dX6_hasCarts_6 : decode cX6_hasCarts 6 = .ok (.ifCond .ne 7, 3) := by decide +kernel
theorem dX6_hasCarts_9 : decode cX6_hasCarts 9 = .ok (.iconst 1, 1) := by decide +kernel
theorem dX6_hasCarts_10 : decode cX6_hasCarts 10 = .ok (.goto 4, 3) := by decide +kernel
theorem dX6_hasCarts_13 : decode cX6_hasCarts 13 = .ok (.iconst 0, 1) := by decide +kernel
theorem dX6_hasCarts_14 : decode cX6_hasCarts 14 = .ok (.ireturn, 1) := by decide +kernel
theorem dX6_weatherOn_0 : decode cX6_weatherOn 0 = .ok (.aload_n 0, 1) := by decide +kernel
theorem dX6_weatherOn_1 : decode cX6_weatherOn 1 = .ok (.getfield 27, 3) := by decide +kernel
theorem dX6_weatherOn_4 : decode cX6_weatherOn 4 = .ok (.ifCond .eq 14, 3) := by decide +kernel
theorem dX6_weatherOn_7 : decode cX6_weatherOn 7 = .ok (.aload_n 0, 1) := by decide +kernel
theorem dX6_weatherOn_8 : decode cX6_weatherOn 8 = .ok (.getfield 34, 3) := by decide +kernel
theorem dX6_weatherOn_11 : decode cX6_weatherOn 11 = .ok (.ifCond .le 7, 3) := by decide +kernel
theorem dX6_weatherOn_14 : decode cX6_weatherOn 14 = .ok (.iload_n 1, 1) := by decide +kernel
theorem dX6_weatherOn_15 : decode cX6_weatherOn 15 = .ok (.ifCond .ge 7, 3) := by decide +kernel
theorem dX6_weatherOn_18 : decode cX6_weatherOn 18 = .ok (.iconst 0, 1) := by decide +kernel
theorem dX6_weatherOn_19 : decode cX6_weatherOn 19 = .ok (.goto 14, 3) := by decide +kernel
theorem dX6_weatherOn_22 : decode cX6_weatherOn 22 = .ok (.aload_n 0, 1) := by decide +kernel
theorem dX6_weatherOn_23 : decode cX6_weatherOn 23 = .ok (.getfield 15, 3) := by decide +kernel
theorem dX6_weatherOn_26 : decode cX6_weatherOn 26 = .ok (.iload_n 1, 1) := by decide +kernel
theorem dX6_weatherOn_27 : decode cX6_weatherOn 27 = .ok (.aload_n 0, 1) := by decide +kernel
theorem dX6_weatherOn_28 : decode cX6_weatherOn 28 = .ok (.getfield 34, 3) := by decide +kernel
theorem dX6_weatherOn_31 : decode cX6_weatherOn 31 = .ok (.irem, 1) := by decide +kernel
theorem dX6_weatherOn_32 : decode cX6_weatherOn 32 = .ok (.iaload, 1) := by decide +kernel
theorem dX6_weatherOn_33 : decode cX6_weatherOn 33 = .ok (.ireturn, 1) := by decide +kernel
theorem dX7_init_0 : decode cX7_init 0 = .ok (.aload_n 0, 1) := by decide +kernel
theorem dX7_init_1 : decode cX7_init 1 = .ok (.invokespecial 3, 3) := by decide +kernel
theorem dX7_init_4 : decode cX7_init 4 = .ok (.return_, 1) := by decide +kernel
theorem dX7_clear_0 : decode cX7_clear 0 = .ok (.aload_n 0, 1) := by decide +kernel
theorem dX7_clear_1 : decode cX7_clear 1 = .ok (.iconst 0, 1) := by decide +kernel
theorem dX7_clear_2 : decode cX7_clear 2 = .ok (.putfield 9, 3) := by decide +kernel
theorem dX7_clear_5 : decode cX7_clear 5 = .ok (.aload_n 0, 1) := by decide +kernel
theorem dX7_clear_6 : decode cX7_clear 6 = .ok (.iconst (-1), 1) := by decide +kernel
theorem dX7_clear_7 : decode cX7_clear 7 = .ok (.putfield 15, 3) := by decide +kernel
theorem dX7_clear_10 : decode cX7_clear 10 = .ok (.aload_n 0, 1) := by decide +kernel
theorem dX7_clear_11 : decode cX7_clear 11 = .ok (.iconst (-1), 1) := by decide +kernel
theorem dX7_clear_12 : decode cX7_clear 12 = .ok (.putfield 18, 3) := by decide +kernel
theorem dX7_clear_15 : decode cX7_clear 15 = .ok (.return_, 1) := by decide +kernel
theorem dX7_put_0 : decode cX7_put 0 = .ok (.aload_n 0, 1) := by decide +kernel
theorem dX7_put_1 : decode cX7_put 1 = .ok (.getfield 9, 3) := by decide +kernel
theorem dX7_put_4 : decode cX7_put 4 = .ok (.ifCond .ne 8, 3) := by decide +kernel
theorem dX7_put_7 : decode cX7_put 7 = .ok (.aload_n 0, 1) := by decide +kernel
theorem dX7_put_8 : decode cX7_put 8 = .ok (.iload_n 1, 1) := by decide +kernel
theorem dX7_put_9 : decode cX7_put 9 = .ok (.putfield 15, 3) := by decide +kernel
theorem dX7_put_12 : decode cX7_put 12 = .ok (.aload_n 0, 1) := by decide +kernel
theorem dX7_put_13 : decode cX7_put 13 = .ok (.iload_n 1, 1) := by decide +kernel
theorem dX7_put_14 : decode cX7_put 14 = .ok (.putfield 18, 3) := by decide +kernel
theorem dX7_put_17 : decode cX7_put 17 = .ok (.aload_n 0, 1) := by decide +kernel
theorem dX7_put_18 : decode cX7_put 18 = .ok (.dup, 1) := by decide +kernel
theorem dX7_put_19 : decode cX7_put 19 = .ok (.getfield 9, 3) := by decide +kernel
theorem dX7_put_22 : decode cX7_put 22 = .ok (.iconst 1, 1) := by decide +kernel
theorem dX7_put_23 : decode cX7_put 23 = .ok (.iadd, 1) := by decide +kernel
theorem dX7_put_24 : decode cX7_put 24 = .ok (.putfield 9, 3) := by decide +kernel
theorem dX7_put_27 : decode cX7_put 27 = .ok (.return_, 1) := by decide +kernel
theorem dX7_answer_0 : decode cX7_answer 0 = .ok (.iload_n 1, 1) := by decide +kernel
theorem dX7_answer_1 : decode cX7_answer 1 = .ok (.ifCond .ne 8, 3) := by decide +kernel
theorem dX7_answer_4 : decode cX7_answer 4 = .ok (.aload_n 0, 1) := by decide +kernel
theorem dX7_answer_5 : decode cX7_answer 5 = .ok (.getfield 9, 3) := by decide +kernel
theorem dX7_answer_8 : decode cX7_answer 8 = .ok (.ireturn, 1) := by decide +kernel
theorem dX7_answer_9 : decode cX7_answer 9 = .ok (.iload_n 1, 1) := by decide +kernel
theorem dX7_answer_10 : decode cX7_answer 10 = .ok (.iconst 1, 1) := by decide +kernel
theorem dX7_answer_11 : decode cX7_answer 11 = .ok (.if_icmp .ne 10, 3) := by decide +kernel
theorem dX7_answer_14 : decode cX7_answer 14 = .ok (.aload_n 0, 1) := by decide +kernel
theorem dX7_answer_15 : decode cX7_answer 15 = .ok (.getfield 15, 3) := by decide +kernel
theorem dX7_answer_18 : decode cX7_answer 18 = .ok (.goto 7, 3) := by decide +kernel
theorem dX7_answer_21 : decode cX7_answer 21 = .ok (.aload_n 0, 1) := by decide +kernel
theorem dX7_answer_22 : decode cX7_answer 22 = .ok (.getfield 18, 3) := by decide +kernel
theorem dX7_answer_25 : decode cX7_answer 25 = .ok (.ireturn, 1) := by decide +kernel
theorem dX8_init_0 : decode cX8_init 0 = .ok (.aload_n 0, 1) := by decide +kernel
theorem dX8_init_1 : decode cX8_init 1 = .ok (.invokespecial 3, 3) := by decide +kernel
theorem dX8_init_4 : decode cX8_init 4 = .ok (.aload_n 0, 1) := by decide +kernel
theorem dX8_init_5 : decode cX8_init 5 = .ok (.bipush 20, 2) := by decide +kernel
theorem dX8_init_7 : decode cX8_init 7 = .ok (.newarray .int, 2) := by decide +kernel
theorem dX8_init_9 : decode cX8_init 9 = .ok (.putfield 9, 3) := by decide +kernel
theorem dX8_init_12 : decode cX8_init 12 = .ok (.aload_n 0, 1) := by decide +kernel
theorem dX8_init_13 : decode cX8_init 13 = .ok (.bipush 20, 2) := by decide +kernel
theorem dX8_init_15 : decode cX8_init 15 = .ok (.newarray .int, 2) := by decide +kernel
theorem dX8_init_17 : decode cX8_init 17 = .ok (.putfield 15, 3) := by decide +kernel
theorem dX8_init_20 : decode cX8_init 20 = .ok (.aload_n 0, 1) := by decide +kernel
theorem dX8_init_21 : decode cX8_init 21 = .ok (.bipush 20, 2) := by decide +kernel
theorem dX8_init_23 : decode cX8_init 23 = .ok (.newarray .int, 2) := by decide +kernel
theorem dX8_init_25 : decode cX8_init 25 = .ok (.putfield 18, 3) := by decide +kernel
theorem dX8_init_28 : decode cX8_init 28 = .ok (.aload_n 0, 1) := by decide +kernel
theorem dX8_init_29 : decode cX8_init 29 = .ok (.bipush 20, 2) := by decide +kernel
theorem dX8_init_31 : decode cX8_init 31 = .ok (.newarray .int, 2) := by decide +kernel
theorem dX8_init_33 : decode cX8_init 33 = .ok (.putfield 21, 3) := by decide +kernel
theorem dX8_init_36 : decode cX8_init 36 = .ok (.aload_n 0, 1) := by decide +kernel
theorem dX8_init_37 : decode cX8_init 37 = .ok (.bipush 8, 2) := by decide +kernel
theorem dX8_init_39 : decode cX8_init 39 = .ok (.newarray .int, 2) := by decide +kernel
theorem dX8_init_41 : decode cX8_init 41 = .ok (.putfield 24, 3) := by decide +kernel
theorem dX8_init_44 : decode cX8_init 44 = .ok (.aload_n 0, 1) := by decide +kernel
theorem dX8_init_45 : decode cX8_init 45 = .ok (.bipush 8, 2) := by decide +kernel
theorem dX8_init_47 : decode cX8_init 47 = .ok (.newarray .int, 2) := by decide +kernel
theorem dX8_init_49 : decode cX8_init 49 = .ok (.putfield 27, 3) := by decide +kernel
theorem dX8_init_52 : decode cX8_init 52 = .ok (.aload_n 0, 1) := by decide +kernel
theorem dX8_init_53 : decode cX8_init 53 = .ok (.bipush 8, 2) := by decide +kernel
theorem dX8_init_55 : decode cX8_init 55 = .ok (.newarray .int, 2) := by decide +kernel
theorem dX8_init_57 : decode cX8_init 57 = .ok (.putfield 30, 3) := by decide +kernel
theorem dX8_init_60 : decode cX8_init 60 = .ok (.return_, 1) := by decide +kernel
theorem dX8_begin_0 : decode cX8_begin 0 = .ok (.aload_n 0, 1) := by decide +kernel
theorem dX8_begin_1 : decode cX8_begin 1 = .ok (.iconst 0, 1) := by decide +kernel
theorem dX8_begin_2 : decode cX8_begin 2 = .ok (.putfield 33, 3) := by decide +kernel
theorem dX8_begin_5 : decode cX8_begin 5 = .ok (.aload_n 0, 1) := by decide +kernel
theorem dX8_begin_6 : decode cX8_begin 6 = .ok (.iconst 0, 1) := by decide +kernel
theorem dX8_begin_7 : decode cX8_begin 7 = .ok (.putfield 37, 3) := by decide +kernel
theorem dX8_begin_10 : decode cX8_begin 10 = .ok (.aload_n 0, 1) := by decide +kernel
theorem dX8_begin_11 : decode cX8_begin 11 = .ok (.getfield 9, 3) := by decide +kernel
theorem dX8_begin_14 : decode cX8_begin 14 = .ok (.iconst 0, 1) := by decide +kernel
theorem dX8_begin_15 : decode cX8_begin 15 = .ok (.invokestatic 40, 3) := by decide +kernel
theorem dX8_begin_18 : decode cX8_begin 18 = .ok (.aload_n 0, 1) := by decide +kernel
theorem dX8_begin_19 : decode cX8_begin 19 = .ok (.getfield 15, 3) := by decide +kernel
theorem dX8_begin_22 : decode cX8_begin 22 = .ok (.iconst (-1), 1) := by decide +kernel
theorem dX8_begin_23 : decode cX8_begin 23 = .ok (.invokestatic 40, 3) := by decide +kernel
theorem dX8_begin_26 : decode cX8_begin 26 = .ok (.aload_n 0, 1) := by decide +kernel
theorem dX8_begin_27 : decode cX8_begin 27 = .ok (.getfield 18, 3) := by decide +kernel
theorem dX8_begin_30 : decode cX8_begin 30 = .ok (.iconst (-1), 1) := by decide +kernel
theorem dX8_begin_31 : decode cX8_begin 31 = .ok (.invokestatic 40, 3) := by decide +kernel
theorem dX8_begin_34 : decode cX8_begin 34 = .ok (.aload_n 0, 1) := by decide +kernel
theorem dX8_begin_35 : decode cX8_begin 35 = .ok (.getfield 21, 3) := by decide +kernel
theorem dX8_begin_38 : decode cX8_begin 38 = .ok (.iconst 0, 1) := by decide +kernel
theorem dX8_begin_39 : decode cX8_begin 39 = .ok (.invokestatic 40, 3) := by decide +kernel
theorem dX8_begin_42 : decode cX8_begin 42 = .ok (.aload_n 1, 1) := by decide +kernel
theorem dX8_begin_43 : decode cX8_begin 43 = .ok (.getfield 46, 3) := by decide +kernel
theorem dX8_begin_46 : decode cX8_begin 46 = .ok (.iconst 0, 1) := by decide +kernel
theorem dX8_begin_47 : decode cX8_begin 47 = .ok (.aload_n 0, 1) := by decide +kernel
theorem dX8_begin_48 : decode cX8_begin 48 = .ok (.getfield 24, 3) := by decide +kernel
theorem dX8_begin_51 : decode cX8_begin 51 = .ok (.iconst 0, 1) := by decide +kernel
theorem dX8_begin_52 : decode cX8_begin 52 = .ok (.bipush 8, 2) := by decide +kernel
theorem dX8_begin_54 : decode cX8_begin 54 = .ok (.invokestatic 51, 3) := by decide +kernel
theorem dX8_begin_57 : decode cX8_begin 57 = .ok (.aload_n 0, 1) := by decide +kernel
theorem dX8_begin_58 : decode cX8_begin 58 = .ok (.getfield 27, 3) := by decide +kernel
theorem dX8_begin_61 : decode cX8_begin 61 = .ok (.iconst (-1), 1) := by decide +kernel
theorem dX8_begin_62 : decode cX8_begin 62 = .ok (.invokestatic 40, 3) := by decide +kernel
theorem dX8_begin_65 : decode cX8_begin 65 = .ok (.aload_n 0, 1) := by decide +kernel
theorem dX8_begin_66 : decode cX8_begin 66 = .ok (.getfield 30, 3) := by decide +kernel
theorem dX8_begin_69 : decode cX8_begin 69 = .ok (.iconst 0, 1) := by decide +kernel
theorem dX8_begin_70 : decode cX8_begin 70 = .ok (.invokestatic 40, 3) := by decide +kernel
theorem dX8_begin_73 : decode cX8_begin 73 = .ok (.return_, 1) := by decide +kernel
theorem dX8_copyTo_0 : decode cX8_copyTo 0 = .ok (.iload_n 2, 1) := by decide +kernel
theorem dX8_copyTo_1 : decode cX8_copyTo 1 = .ok (.ifCond .lt 12, 3) := by decide +kernel
theorem dX8_copyTo_4 : decode cX8_copyTo 4 = .ok (.iload_n 2, 1) := by decide +kernel
theorem dX8_copyTo_5 : decode cX8_copyTo 5 = .ok (.aload_n 1, 1) := by decide +kernel
theorem dX8_copyTo_6 : decode cX8_copyTo 6 = .ok (.arraylength, 1) := by decide +kernel
theorem dX8_copyTo_7 : decode cX8_copyTo 7 = .ok (.bipush 106, 2) := by decide +kernel
theorem dX8_copyTo_9 : decode cX8_copyTo 9 = .ok (.isub, 1) := by decide +kernel
theorem dX8_copyTo_10 : decode cX8_copyTo 10 = .ok (.if_icmp .le 4, 3) := by decide +kernel
theorem dX8_copyTo_13 : decode cX8_copyTo 13 = .ok (.return_, 1) := by decide +kernel
theorem dX8_copyTo_14 : decode cX8_copyTo 14 = .ok (.iload_n 2, 1) := by decide +kernel
theorem dX8_copyTo_15 : decode cX8_copyTo 15 = .ok (.iconst 2, 1) := by decide +kernel
theorem dX8_copyTo_16 : decode cX8_copyTo 16 = .ok (.iadd, 1) := by decide +kernel
theorem dX8_copyTo_17 : decode cX8_copyTo 17 = .ok (.bipush 80, 2) := by decide +kernel
theorem dX8_copyTo_19 : decode cX8_copyTo 19 = .ok (.iadd, 1) := by decide +kernel
theorem dX8_copyTo_20 : decode cX8_copyTo 20 = .ok (.istore_n 3, 1) := by decide +kernel
theorem dX8_copyTo_21 : decode cX8_copyTo 21 = .ok (.aload_n 1, 1) := by decide +kernel
theorem dX8_copyTo_22 : decode cX8_copyTo 22 = .ok (.iload_n 2, 1) := by decide +kernel
theorem dX8_copyTo_23 : decode cX8_copyTo 23 = .ok (.aload_n 0, 1) := by decide +kernel
theorem dX8_copyTo_24 : decode cX8_copyTo 24 = .ok (.getfield 33, 3) := by decide +kernel
theorem dX8_copyTo_27 : decode cX8_copyTo 27 = .ok (.iastore, 1) := by decide +kernel
theorem dX8_copyTo_28 : decode cX8_copyTo 28 = .ok (.aload_n 1, 1) := by decide +kernel
theorem dX8_copyTo_29 : decode cX8_copyTo 29 = .ok (.iload_n 2, 1) := by decide +kernel
theorem dX8_copyTo_30 : decode cX8_copyTo 30 = .ok (.iconst 1, 1) := by decide +kernel
theorem dX8_copyTo_31 : decode cX8_copyTo 31 = .ok (.iadd, 1) := by decide +kernel
theorem dX8_copyTo_32 : decode cX8_copyTo 32 = .ok (.aload_n 0, 1) := by decide +kernel
theorem dX8_copyTo_33 : decode cX8_copyTo 33 = .ok (.getfield 37, 3) := by decide +kernel
theorem dX8_copyTo_36 : decode cX8_copyTo 36 = .ok (.iastore, 1) := by decide +kernel
theorem dX8_copyTo_37 : decode cX8_copyTo 37 = .ok (.aload_n 0, 1) := by decide +kernel
theorem dX8_copyTo_38 : decode cX8_copyTo 38 = .ok (.getfield 9, 3) := by decide +kernel
theorem dX8_copyTo_41 : decode cX8_copyTo 41 = .ok (.iconst 0, 1) := by decide +kernel
theorem dX8_copyTo_42 : decode cX8_copyTo 42 = .ok (.aload_n 1, 1) := by decide +kernel
theorem dX8_copyTo_43 : decode cX8_copyTo 43 = .ok (.iload_n 2, 1) := by decide +kernel
theorem dX8_copyTo_44 : decode cX8_copyTo 44 = .ok (.iconst 2, 1) := by decide +kernel
theorem dX8_copyTo_45 : decode cX8_copyTo 45 = .ok (.iadd, 1) := by decide +kernel
theorem dX8_copyTo_46 : decode cX8_copyTo 46 = .ok (.bipush 20, 2) := by decide +kernel
theorem dX8_copyTo_48 : decode cX8_copyTo 48 = .ok (.invokestatic 51, 3) := by decide +kernel
theorem dX8_copyTo_51 : decode cX8_copyTo 51 = .ok (.aload_n 0, 1) := by decide +kernel
theorem dX8_copyTo_52 : decode cX8_copyTo 52 = .ok (.getfield 15, 3) := by decide +kernel
theorem dX8_copyTo_55 : decode cX8_copyTo 55 = .ok (.iconst 0, 1) := by decide +kernel
theorem dX8_copyTo_56 : decode cX8_copyTo 56 = .ok (.aload_n 1, 1) := by decide +kernel
theorem dX8_copyTo_57 : decode cX8_copyTo 57 = .ok (.iload_n 2, 1) := by decide +kernel
theorem dX8_copyTo_58 : decode cX8_copyTo 58 = .ok (.iconst 2, 1) := by decide +kernel
theorem dX8_copyTo_59 : decode cX8_copyTo 59 = .ok (.iadd, 1) := by decide +kernel
theorem dX8_copyTo_60 : decode cX8_copyTo 60 = .ok (.bipush 20, 2) := by decide +kernel
theorem dX8_copyTo_62 : decode cX8_copyTo 62 = .ok (.iadd, 1) := by decide +kernel
theorem dX8_copyTo_63 : decode cX8_copyTo 63 = .ok (.bipush 20, 2) := by decide +kernel
theorem dX8_copyTo_65 : decode cX8_copyTo 65 = .ok (.invokestatic 51, 3) := by decide +kernel
theorem dX8_copyTo_68 : decode cX8_copyTo 68 = .ok (.aload_n 0, 1) := by decide +kernel
theorem dX8_copyTo_69 : decode cX8_copyTo 69 = .ok (.getfield 18, 3) := by decide +kernel
theorem dX8_copyTo_72 : decode cX8_copyTo 72 = .ok (.iconst 0, 1) := by decide +kernel
theorem dX8_copyTo_73 : decode cX8_copyTo 73 = .ok (.aload_n 1, 1) := by decide +kernel
theorem dX8_copyTo_74 : decode cX8_copyTo 74 = .ok (.iload_n 2, 1) := by decide +kernel
theorem dX8_copyTo_75 : decode cX8_copyTo 75 = .ok (.iconst 2, 1) := by decide +kernel
theorem dX8_copyTo_76 : decode cX8_copyTo 76 = .ok (.iadd, 1) := by decide +kernel
theorem dX8_copyTo_77 : decode cX8_copyTo 77 = .ok (.bipush 40, 2) := by decide +kernel
theorem dX8_copyTo_79 : decode cX8_copyTo 79 = .ok (.iadd, 1) := by decide +kernel
theorem dX8_copyTo_80 : decode cX8_copyTo 80 = .ok (.bipush 20, 2) := by decide +kernel
theorem dX8_copyTo_82 : decode cX8_copyTo 82 = .ok (.invokestatic 51, 3) := by decide +kernel
theorem dX8_copyTo_85 : decode cX8_copyTo 85 = .ok (.aload_n 0, 1) := by decide +kernel
theorem dX8_copyTo_86 : decode cX8_copyTo 86 = .ok (.getfield 21, 3) := by decide +kernel
theorem dX8_copyTo_89 : decode cX8_copyTo 89 = .ok (.iconst 0, 1) := by decide +kernel
theorem dX8_copyTo_90 : decode cX8_copyTo 90 = .ok (.aload_n 1, 1) := by decide +kernel
theorem dX8_copyTo_91 : decode cX8_copyTo 91 = .ok (.iload_n 2, 1) := by decide +kernel
theorem dX8_copyTo_92 : decode cX8_copyTo 92 = .ok (.iconst 2, 1) := by decide +kernel
theorem dX8_copyTo_93 : decode cX8_copyTo 93 = .ok (.iadd, 1) := by decide +kernel
theorem dX8_copyTo_94 : decode cX8_copyTo 94 = .ok (.bipush 60, 2) := by decide +kernel
theorem dX8_copyTo_96 : decode cX8_copyTo 96 = .ok (.iadd, 1) := by decide +kernel
theorem dX8_copyTo_97 : decode cX8_copyTo 97 = .ok (.bipush 20, 2) := by decide +kernel
theorem dX8_copyTo_99 : decode cX8_copyTo 99 = .ok (.invokestatic 51, 3) := by decide +kernel
theorem dX8_copyTo_102 : decode cX8_copyTo 102 = .ok (.aload_n 0, 1) := by decide +kernel
theorem dX8_copyTo_103 : decode cX8_copyTo 103 = .ok (.getfield 24, 3) := by decide +kernel
theorem dX8_copyTo_106 : decode cX8_copyTo 106 = .ok (.iconst 0, 1) := by decide +kernel
theorem dX8_copyTo_107 : decode cX8_copyTo 107 = .ok (.aload_n 1, 1) := by decide +kernel
theorem dX8_copyTo_108 : decode cX8_copyTo 108 = .ok (.iload_n 3, 1) := by decide +kernel
theorem dX8_copyTo_109 : decode cX8_copyTo 109 = .ok (.bipush 8, 2) := by decide +kernel
theorem dX8_copyTo_111 : decode cX8_copyTo 111 = .ok (.invokestatic 51, 3) := by decide +kernel
theorem dX8_copyTo_114 : decode cX8_copyTo 114 = .ok (.aload_n 0, 1) := by decide +kernel
theorem dX8_copyTo_115 : decode cX8_copyTo 115 = .ok (.getfield 27, 3) := by decide +kernel
theorem dX8_copyTo_118 : decode cX8_copyTo 118 = .ok (.iconst 0, 1) := by decide +kernel
theorem dX8_copyTo_119 : decode cX8_copyTo 119 = .ok (.aload_n 1, 1) := by decide +kernel
theorem dX8_copyTo_120 : decode cX8_copyTo 120 = .ok (.iload_n 3, 1) := by decide +kernel
theorem dX8_copyTo_121 : decode cX8_copyTo 121 = .ok (.bipush 8, 2) := by decide +kernel
theorem dX8_copyTo_123 : decode cX8_copyTo 123 = .ok (.iadd, 1) := by decide +kernel
theorem dX8_copyTo_124 : decode cX8_copyTo 124 = .ok (.bipush 8, 2) := by decide +kernel
theorem dX8_copyTo_126 : decode cX8_copyTo 126 = .ok (.invokestatic 51, 3) := by decide +kernel
theorem dX8_copyTo_129 : decode cX8_copyTo 129 = .ok (.aload_n 0, 1) := by decide +kernel
theorem dX8_copyTo_130 : decode cX8_copyTo 130 = .ok (.getfield 30, 3) := by decide +kernel
theorem dX8_copyTo_133 : decode cX8_copyTo 133 = .ok (.iconst 0, 1) := by decide +kernel
theorem dX8_copyTo_134 : decode cX8_copyTo 134 = .ok (.aload_n 1, 1) := by decide +kernel
theorem dX8_copyTo_135 : decode cX8_copyTo 135 = .ok (.iload_n 3, 1) := by decide +kernel
theorem dX8_copyTo_136 : decode cX8_copyTo 136 = .ok (.bipush 16, 2) := by decide +kernel
theorem dX8_copyTo_138 : decode cX8_copyTo 138 = .ok (.iadd, 1) := by decide +kernel
theorem dX8_copyTo_139 : decode cX8_copyTo 139 = .ok (.bipush 8, 2) := by decide +kernel
theorem dX8_copyTo_141 : decode cX8_copyTo 141 = .ok (.invokestatic 51, 3) := by decide +kernel
theorem dX8_copyTo_144 : decode cX8_copyTo 144 = .ok (.return_, 1) := by decide +kernel
theorem dX8_copyFrom_0 : decode cX8_copyFrom 0 = .ok (.iload_n 2, 1) := by decide +kernel
theorem dX8_copyFrom_1 : decode cX8_copyFrom 1 = .ok (.ifCond .lt 12, 3) := by decide +kernel
theorem dX8_copyFrom_4 : decode cX8_copyFrom 4 = .ok (.iload_n 2, 1) := by decide +kernel
theorem dX8_copyFrom_5 : decode cX8_copyFrom 5 = .ok (.aload_n 1, 1) := by decide +kernel
theorem dX8_copyFrom_6 : decode cX8_copyFrom 6 = .ok (.arraylength, 1) := by decide +kernel
theorem dX8_copyFrom_7 : decode cX8_copyFrom 7 = .ok (.bipush 106, 2) := by decide +kernel
theorem dX8_copyFrom_9 : decode cX8_copyFrom 9 = .ok (.isub, 1) := by decide +kernel
theorem dX8_copyFrom_10 : decode cX8_copyFrom 10 = .ok (.if_icmp .le 4, 3) := by decide +kernel
theorem dX8_copyFrom_13 : decode cX8_copyFrom 13 = .ok (.return_, 1) := by decide +kernel
theorem dX8_copyFrom_14 : decode cX8_copyFrom 14 = .ok (.iload_n 2, 1) := by decide +kernel
theorem dX8_copyFrom_15 : decode cX8_copyFrom 15 = .ok (.iconst 2, 1) := by decide +kernel
theorem dX8_copyFrom_16 : decode cX8_copyFrom 16 = .ok (.iadd, 1) := by decide +kernel
theorem dX8_copyFrom_17 : decode cX8_copyFrom 17 = .ok (.bipush 80, 2) := by decide +kernel
theorem dX8_copyFrom_19 : decode cX8_copyFrom 19 = .ok (.iadd, 1) := by decide +kernel
theorem dX8_copyFrom_20 : decode cX8_copyFrom 20 = .ok (.istore_n 3, 1) := by decide +kernel
theorem dX8_copyFrom_21 : decode cX8_copyFrom 21 = .ok (.aload_n 0, 1) := by decide +kernel
theorem dX8_copyFrom_22 : decode cX8_copyFrom 22 = .ok (.aload_n 1, 1) := by decide +kernel
theorem dX8_copyFrom_23 : decode cX8_copyFrom 23 = .ok (.iload_n 2, 1) := by decide +kernel
theorem dX8_copyFrom_24 : decode cX8_copyFrom 24 = .ok (.iaload, 1) := by decide +kernel
theorem dX8_copyFrom_25 : decode cX8_copyFrom 25 = .ok (.putfield 33, 3) := by decide +kernel
theorem dX8_copyFrom_28 : decode cX8_copyFrom 28 = .ok (.aload_n 0, 1) := by decide +kernel
theorem dX8_copyFrom_29 : decode cX8_copyFrom 29 = .ok (.aload_n 1, 1) := by decide +kernel
theorem dX8_copyFrom_30 : decode cX8_copyFrom 30 = .ok (.iload_n 2, 1) := by decide +kernel
theorem dX8_copyFrom_31 : decode cX8_copyFrom 31 = .ok (.iconst 1, 1) := by decide +kernel
theorem dX8_copyFrom_32 : decode cX8_copyFrom 32 = .ok (.iadd, 1) := by decide +kernel
theorem dX8_copyFrom_33 : decode cX8_copyFrom 33 = .ok (.iaload, 1) := by decide +kernel
theorem dX8_copyFrom_34 : decode cX8_copyFrom 34 = .ok (.putfield 37, 3) := by decide +kernel
theorem dX8_copyFrom_37 : decode cX8_copyFrom 37 = .ok (.aload_n 1, 1) := by decide +kernel
theorem dX8_copyFrom_38 : decode cX8_copyFrom 38 = .ok (.iload_n 2, 1) := by decide +kernel
theorem dX8_copyFrom_39 : decode cX8_copyFrom 39 = .ok (.iconst 2, 1) := by decide +kernel
theorem dX8_copyFrom_40 : decode cX8_copyFrom 40 = .ok (.iadd, 1) := by decide +kernel
theorem dX8_copyFrom_41 : decode cX8_copyFrom 41 = .ok (.aload_n 0, 1) := by decide +kernel
theorem dX8_copyFrom_42 : decode cX8_copyFrom 42 = .ok (.getfield 9, 3) := by decide +kernel
theorem dX8_copyFrom_45 : decode cX8_copyFrom 45 = .ok (.iconst 0, 1) := by decide +kernel
theorem dX8_copyFrom_46 : decode cX8_copyFrom 46 = .ok (.bipush 20, 2) := by decide +kernel
theorem dX8_copyFrom_48 : decode cX8_copyFrom 48 = .ok (.invokestatic 51, 3) := by decide +kernel
theorem dX8_copyFrom_51 : decode cX8_copyFrom 51 = .ok (.aload_n 1, 1) := by decide +kernel
theorem dX8_copyFrom_52 : decode cX8_copyFrom 52 = .ok (.iload_n 2, 1) := by decide +kernel
theorem dX8_copyFrom_53 : decode cX8_copyFrom 53 = .ok (.iconst 2, 1) := by decide +kernel
theorem dX8_copyFrom_54 : decode cX8_copyFrom 54 = .ok (.iadd, 1) := by decide +kernel
theorem dX8_copyFrom_55 : decode cX8_copyFrom 55 = .ok (.bipush 20, 2) := by decide +kernel
theorem dX8_copyFrom_57 : decode cX8_copyFrom 57 = .ok (.iadd, 1) := by decide +kernel
theorem dX8_copyFrom_58 : decode cX8_copyFrom 58 = .ok (.aload_n 0, 1) := by decide +kernel
theorem dX8_copyFrom_59 : decode cX8_copyFrom 59 = .ok (.getfield 15, 3) := by decide +kernel
theorem dX8_copyFrom_62 : decode cX8_copyFrom 62 = .ok (.iconst 0, 1) := by decide +kernel
theorem dX8_copyFrom_63 : decode cX8_copyFrom 63 = .ok (.bipush 20, 2) := by decide +kernel
theorem dX8_copyFrom_65 : decode cX8_copyFrom 65 = .ok (.invokestatic 51, 3) := by decide +kernel
theorem dX8_copyFrom_68 : decode cX8_copyFrom 68 = .ok (.aload_n 1, 1) := by decide +kernel
theorem dX8_copyFrom_69 : decode cX8_copyFrom 69 = .ok (.iload_n 2, 1) := by decide +kernel
theorem dX8_copyFrom_70 : decode cX8_copyFrom 70 = .ok (.iconst 2, 1) := by decide +kernel
theorem dX8_copyFrom_71 : decode cX8_copyFrom 71 = .ok (.iadd, 1) := by decide +kernel
theorem dX8_copyFrom_72 : decode cX8_copyFrom 72 = .ok (.bipush 40, 2) := by decide +kernel
theorem dX8_copyFrom_74 : decode cX8_copyFrom 74 = .ok (.iadd, 1) := by decide +kernel
theorem dX8_copyFrom_75 : decode cX8_copyFrom 75 = .ok (.aload_n 0, 1) := by decide +kernel
theorem dX8_copyFrom_76 : decode cX8_copyFrom 76 = .ok (.getfield 18, 3) := by decide +kernel
theorem dX8_copyFrom_79 : decode cX8_copyFrom 79 = .ok (.iconst 0, 1) := by decide +kernel
theorem dX8_copyFrom_80 : decode cX8_copyFrom 80 = .ok (.bipush 20, 2) := by decide +kernel
theorem dX8_copyFrom_82 : decode cX8_copyFrom 82 = .ok (.invokestatic 51, 3) := by decide +kernel
theorem dX8_copyFrom_85 : decode cX8_copyFrom 85 = .ok (.aload_n 1, 1) := by decide +kernel
theorem dX8_copyFrom_86 : decode cX8_copyFrom 86 = .ok (.iload_n 2, 1) := by decide +kernel
theorem dX8_copyFrom_87 : decode cX8_copyFrom 87 = .ok (.iconst 2, 1) := by decide +kernel
theorem dX8_copyFrom_88 : decode cX8_copyFrom 88 = .ok (.iadd, 1) := by decide +kernel
theorem dX8_copyFrom_89 : decode cX8_copyFrom 89 = .ok (.bipush 60, 2) := by decide +kernel
theorem dX8_copyFrom_91 : decode cX8_copyFrom 91 = .ok (.iadd, 1) := by decide +kernel
theorem dX8_copyFrom_92 : decode cX8_copyFrom 92 = .ok (.aload_n 0, 1) := by decide +kernel
theorem dX8_copyFrom_93 : decode cX8_copyFrom 93 = .ok (.getfield 21, 3) := by decide +kernel
theorem dX8_copyFrom_96 : decode cX8_copyFrom 96 = .ok (.iconst 0, 1) := by decide +kernel
theorem dX8_copyFrom_97 : decode cX8_copyFrom 97 = .ok (.bipush 20, 2) := by decide +kernel
theorem dX8_copyFrom_99 : decode cX8_copyFrom 99 = .ok (.invokestatic 51, 3) := by decide +kernel
theorem dX8_copyFrom_102 : decode cX8_copyFrom 102 = .ok (.aload_n 1, 1) := by decide +kernel
theorem dX8_copyFrom_103 : decode cX8_copyFrom 103 = .ok (.iload_n 3, 1) := by decide +kernel
theorem dX8_copyFrom_104 : decode cX8_copyFrom 104 = .ok (.aload_n 0, 1) := by decide +kernel
theorem dX8_copyFrom_105 : decode cX8_copyFrom 105 = .ok (.getfield 24, 3) := by decide +kernel
theorem dX8_copyFrom_108 : decode cX8_copyFrom 108 = .ok (.iconst 0, 1) := by decide +kernel
theorem dX8_copyFrom_109 : decode cX8_copyFrom 109 = .ok (.bipush 8, 2) := by decide +kernel
theorem dX8_copyFrom_111 : decode cX8_copyFrom 111 = .ok (.invokestatic 51, 3) := by decide +kernel
theorem dX8_copyFrom_114 : decode cX8_copyFrom 114 = .ok (.aload_n 1, 1) := by decide +kernel
theorem dX8_copyFrom_115 : decode cX8_copyFrom 115 = .ok (.iload_n 3, 1) := by decide +kernel
theorem dX8_copyFrom_116 : decode cX8_copyFrom 116 = .ok (.bipush 8, 2) := by decide +kernel
theorem dX8_copyFrom_118 : decode cX8_copyFrom 118 = .ok (.iadd, 1) := by decide +kernel
theorem dX8_copyFrom_119 : decode cX8_copyFrom 119 = .ok (.aload_n 0, 1) := by decide +kernel
theorem dX8_copyFrom_120 : decode cX8_copyFrom 120 = .ok (.getfield 27, 3) := by decide +kernel
theorem dX8_copyFrom_123 : decode cX8_copyFrom 123 = .ok (.iconst 0, 1) := by decide +kernel
theorem dX8_copyFrom_124 : decode cX8_copyFrom 124 = .ok (.bipush 8, 2) := by decide +kernel
theorem dX8_copyFrom_126 : decode cX8_copyFrom 126 = .ok (.invokestatic 51, 3) := by decide +kernel
theorem dX8_copyFrom_129 : decode cX8_copyFrom 129 = .ok (.aload_n 1, 1) := by decide +kernel
theorem dX8_copyFrom_130 : decode cX8_copyFrom 130 = .ok (.iload_n 3, 1) := by decide +kernel
theorem dX8_copyFrom_131 : decode cX8_copyFrom 131 = .ok (.bipush 16, 2) := by decide +kernel
theorem dX8_copyFrom_133 : decode cX8_copyFrom 133 = .ok (.iadd, 1) := by decide +kernel
theorem dX8_copyFrom_134 : decode cX8_copyFrom 134 = .ok (.aload_n 0, 1) := by decide +kernel
theorem dX8_copyFrom_135 : decode cX8_copyFrom 135 = .ok (.getfield 30, 3) := by decide +kernel
theorem dX8_copyFrom_138 : decode cX8_copyFrom 138 = .ok (.iconst 0, 1) := by decide +kernel
theorem dX8_copyFrom_139 : decode cX8_copyFrom 139 = .ok (.bipush 8, 2) := by decide +kernel
theorem dX8_copyFrom_141 : decode cX8_copyFrom 141 = .ok (.invokestatic 51, 3) := by decide +kernel
theorem dX8_copyFrom_144 : decode cX8_copyFrom 144 = .ok (.return_, 1) := by decide +kernel
theorem dX8_hasTown_0 : decode cX8_hasTown 0 = .ok (.aload_n 0, 1) := by decide +kernel
theorem dX8_hasTown_1 : decode cX8_hasTown 1 = .ok (.getfield 15, 3) := by decide +kernel
theorem dX8_hasTown_4 : decode cX8_hasTown 4 = .ok (.iload_n 1, 1) := by decide +kernel
theorem dX8_hasTown_5 : decode cX8_hasTown 5 = .ok (.iaload, 1) := by decide +kernel
theorem dX8_hasTown_6 : decode cX8_hasTown 6 = .ok (.iconst (-1), 1) := by decide +kernel
theorem dX8_hasTown_7 : decode cX8_hasTown 7 = .ok (.if_icmp .eq 7, 3) := by decide +kernel
theorem dX8_hasTown_10 : decode cX8_hasTown 10 = .ok (.iconst 1, 1) := by decide +kernel
theorem dX8_hasTown_11 : decode cX8_hasTown 11 = .ok (.goto 4, 3) := by decide +kernel
theorem dX8_hasTown_14 : decode cX8_hasTown 14 = .ok (.iconst 0, 1) := by decide +kernel
theorem dX8_hasTown_15 : decode cX8_hasTown 15 = .ok (.ireturn, 1) := by decide +kernel
theorem dX8_isStuck_0 : decode cX8_isStuck 0 = .ok (.aload_n 0, 1) := by decide +kernel
theorem dX8_isStuck_1 : decode cX8_isStuck 1 = .ok (.getfield 27, 3) := by decide +kernel
theorem dX8_isStuck_4 : decode cX8_isStuck 4 = .ok (.iload_n 1, 1) := by decide +kernel
theorem dX8_isStuck_5 : decode cX8_isStuck 5 = .ok (.iaload, 1) := by decide +kernel
theorem dX8_isStuck_6 : decode cX8_isStuck 6 = .ok (.iconst (-1), 1) := by decide +kernel
theorem dX8_isStuck_7 : decode cX8_isStuck 7 = .ok (.if_icmp .eq 7, 3) := by decide +kernel
theorem dX8_isStuck_10 : decode cX8_isStuck 10 = .ok (.iconst 1, 1) := by decide +kernel
theorem dX8_isStuck_11 : decode cX8_isStuck 11 = .ok (.goto 4, 3) := by decide +kernel
theorem dX8_isStuck_14 : decode cX8_isStuck 14 = .ok (.iconst 0, 1) := by decide +kernel
theorem dX8_isStuck_15 : decode cX8_isStuck 15 = .ok (.ireturn, 1) := by decide +kernel
theorem dX8_folkAt_0 : decode cX8_folkAt 0 = .ok (.aload_n 0, 1) := by decide +kernel
theorem dX8_folkAt_1 : decode cX8_folkAt 1 = .ok (.iload_n 1, 1) := by decide +kernel
theorem dX8_folkAt_2 : decode cX8_folkAt 2 = .ok (.invokevirtual 57, 3) := by decide +kernel
theorem dX8_folkAt_5 : decode cX8_folkAt 5 = .ok (.ifCond .eq 12, 3) := by decide +kernel
theorem dX8_folkAt_8 : decode cX8_folkAt 8 = .ok (.aload_n 0, 1) := by decide +kernel
theorem dX8_folkAt_9 : decode cX8_folkAt 9 = .ok (.getfield 21, 3) := by decide +kernel
theorem dX8_folkAt_12 : decode cX8_folkAt 12 = .ok (.iload_n 1, 1) := by decide +kernel
theorem dX8_folkAt_13 : decode cX8_folkAt 13 = .ok (.iaload, 1) := by decide +kernel
theorem dX8_folkAt_14 : decode cX8_folkAt 14 = .ok (.goto 4, 3) := by decide +kernel
theorem dX8_folkAt_17 : decode cX8_folkAt 17 = .ok (.iconst (-1), 1) := by decide +kernel
theorem dX8_folkAt_18 : decode cX8_folkAt 18 = .ok (.ireturn, 1) := by decide +kernel
theorem dX8_clearTown_0 : decode cX8_clearTown 0 = .ok (.aload_n 0, 1) := by decide +kernel
theorem dX8_clearTown_1 : decode cX8_clearTown 1 = .ok (.getfield 15, 3) := by decide +kernel
theorem dX8_clearTown_4 : decode cX8_clearTown 4 = .ok (.iload_n 1, 1) := by decide +kernel
theorem dX8_clearTown_5 : decode cX8_clearTown 5 = .ok (.iconst (-1), 1) := by decide +kernel
theorem dX8_clearTown_6 : decode cX8_clearTown 6 = .ok (.iastore, 1) := by decide +kernel
theorem dX8_clearTown_7 : decode cX8_clearTown 7 = .ok (.aload_n 0, 1) := by decide +kernel
theorem dX8_clearTown_8 : decode cX8_clearTown 8 = .ok (.getfield 18, 3) := by decide +kernel
theorem dX8_clearTown_11 : decode cX8_clearTown 11 = .ok (.iload_n 1, 1) := by decide +kernel
theorem dX8_clearTown_12 : decode cX8_clearTown 12 = .ok (.iconst (-1), 1) := by decide +kernel
theorem dX8_clearTown_13 : decode cX8_clearTown 13 = .ok (.iastore, 1) := by decide +kernel
theorem dX8_clearTown_14 : decode cX8_clearTown 14 = .ok (.aload_n 0, 1) := by decide +kernel
theorem dX8_clearTown_15 : decode cX8_clearTown 15 = .ok (.getfield 21, 3) := by decide +kernel
theorem dX8_clearTown_18 : decode cX8_clearTown 18 = .ok (.iload_n 1, 1) := by decide +kernel
theorem dX8_clearTown_19 : decode cX8_clearTown 19 = .ok (.iconst 0, 1) := by decide +kernel
theorem dX8_clearTown_20 : decode cX8_clearTown 20 = .ok (.iastore, 1) := by decide +kernel
theorem dX8_clearTown_21 : decode cX8_clearTown 21 = .ok (.return_, 1) := by decide +kernel
theorem dX9_init_0 : decode cX9_init 0 = .ok (.aload_n 0, 1) := by decide +kernel
theorem dX9_init_1 : decode cX9_init 1 = .ok (.invokespecial 3, 3) := by decide +kernel
theorem dX9_init_4 : decode cX9_init 4 = .ok (.aload_n 0, 1) := by decide +kernel
theorem dX9_init_5 : decode cX9_init 5 = .ok (.aload_n 1, 1) := by decide +kernel
theorem dX9_init_6 : decode cX9_init 6 = .ok (.putfield 9, 3) := by decide +kernel
theorem dX9_init_9 : decode cX9_init 9 = .ok (.aload_n 0, 1) := by decide +kernel
theorem dX9_init_10 : decode cX9_init 10 = .ok (.aload_n 2, 1) := by decide +kernel
theorem dX9_init_11 : decode cX9_init 11 = .ok (.putfield 15, 3) := by decide +kernel
theorem dX9_init_14 : decode cX9_init 14 = .ok (.return_, 1) := by decide +kernel
theorem dX9_townSet_0 : decode cX9_townSet 0 = .ok (.iconst 0, 1) := by decide +kernel
theorem dX9_townSet_1 : decode cX9_townSet 1 = .ok (.istore_n 1, 1) := by decide +kernel
theorem dX9_townSet_2 : decode cX9_townSet 2 = .ok (.iconst 0, 1) := by decide +kernel
theorem dX9_townSet_3 : decode cX9_townSet 3 = .ok (.istore_n 2, 1) := by decide +kernel
theorem dX9_townSet_4 : decode cX9_townSet 4 = .ok (.iload_n 2, 1) := by decide +kernel
theorem dX9_townSet_5 : decode cX9_townSet 5 = .ok (.aload_n 0, 1) := by decide +kernel
theorem dX9_townSet_6 : decode cX9_townSet 6 = .ok (.getfield 9, 3) := by decide +kernel
theorem dX9_townSet_9 : decode cX9_townSet 9 = .ok (.getfield 19, 3) := by decide +kernel
theorem dX9_townSet_12 : decode cX9_townSet 12 = .ok (.if_icmp .ge 26, 3) := by decide +kernel
theorem dX9_townSet_15 : decode cX9_townSet 15 = .ok (.aload_n 0, 1) := by decide +kernel
theorem dX9_townSet_16 : decode cX9_townSet 16 = .ok (.getfield 15, 3) := by decide +kernel
theorem dX9_townSet_19 : decode cX9_townSet 19 = .ok (.iload_n 2, 1) := by decide +kernel
theorem dX9_townSet_20 : decode cX9_townSet 20 = .ok (.invokevirtual 25, 3) := by decide +kernel
theorem dX9_townSet_23 : decode cX9_townSet 23 = .ok (.ifCond .eq 9, 3) := by decide +kernel
theorem dX9_townSet_26 : decode cX9_townSet 26 = .ok (.iload_n 1, 1) := by decide +kernel
theorem dX9_townSet_27 : decode cX9_townSet 27 = .ok (.iconst 1, 1) := by decide +kernel
theorem dX9_townSet_28 : decode cX9_townSet 28 = .ok (.iload_n 2, 1) := by decide +kernel
theorem dX9_townSet_29 : decode cX9_townSet 29 = .ok (.ishl, 1) := by decide +kernel
theorem dX9_townSet_30 : decode cX9_townSet 30 = .ok (.ior, 1) := by decide +kernel
theorem dX9_townSet_31 : decode cX9_townSet 31 = .ok (.istore_n 1, 1) := by decide +kernel
theorem dX9_townSet_32 : decode cX9_townSet 32 = .ok (.iinc 2 1, 3) := by decide +kernel
theorem dX9_townSet_35 : decode cX9_townSet 35 = .ok (.goto (-31), 3) := by decide +kernel
theorem dX9_townSet_38 : decode cX9_townSet 38 = .ok (.iload_n 1, 1) := by decide +kernel
theorem dX9_townSet_39 : decode cX9_townSet 39 = .ok (.ireturn, 1) := by decide +kernel
theorem dX9_stuckSet_0 : decode cX9_stuckSet 0 = .ok (.iconst 0, 1) := by decide +kernel
theorem dX9_stuckSet_1 : decode cX9_stuckSet 1 = .ok (.istore_n 1, 1) := by decide +kernel
theorem dX9_stuckSet_2 : decode cX9_stuckSet 2 = .ok (.iconst 0, 1) := by decide +kernel
theorem dX9_stuckSet_3 : decode cX9_stuckSet 3 = .ok (.istore_n 2, 1) := by decide +kernel
theorem dX9_stuckSet_4 : decode cX9_stuckSet 4 = .ok (.iload_n 2, 1) := by decide +kernel
theorem dX9_stuckSet_5 : decode cX9_stuckSet 5 = .ok (.aload_n 0, 1) := by decide +kernel
theorem dX9_stuckSet_6 : decode cX9_stuckSet 6 = .ok (.getfield 9, 3) := by decide +kernel
theorem dX9_stuckSet_9 : decode cX9_stuckSet 9 = .ok (.getfield 31, 3) := by decide +kernel
theorem dX9_stuckSet_12 : decode cX9_stuckSet 12 = .ok (.if_icmp .ge 26, 3) := by decide +kernel
theorem dX9_stuckSet_15 : decode cX9_stuckSet 15 = .ok (.aload_n 0, 1) := by decide +kernel
theorem dX9_stuckSet_16 : decode cX9_stuckSet 16 = .ok (.getfield 15, 3) := by decide +kernel
theorem dX9_stuckSet_19 : decode cX9_stuckSet 19 = .ok (.iload_n 2, 1) := by decide +kernel
theorem dX9_stuckSet_20 : decode cX9_stuckSet 20 = .ok (.invokevirtual 34, 3) := by decide +kernel
theorem dX9_stuckSet_23 : decode cX9_stuckSet 23 = .ok (.ifCond .eq 9, 3) := by decide +kernel
theorem dX9_stuckSet_26 : decode cX9_stuckSet 26 = .ok (.iload_n 1, 1) := by decide +kernel
theorem dX9_stuckSet_27 : decode cX9_stuckSet 27 = .ok (.iconst 1, 1) := by decide +kernel
theorem dX9_stuckSet_28 : decode cX9_stuckSet 28 = .ok (.iload_n 2, 1) := by decide +kernel
theorem dX9_stuckSet_29 : decode cX9_stuckSet 29 = .ok (.ishl, 1) := by decide +kernel
theorem dX9_stuckSet_30 : decode cX9_stuckSet 30 = .ok (.ior, 1) := by decide +kernel
theorem dX9_stuckSet_31 : decode cX9_stuckSet 31 = .ok (.istore_n 1, 1) := by decide +kernel
theorem dX9_stuckSet_32 : decode cX9_stuckSet 32 = .ok (.iinc 2 1, 3) := by decide +kernel
