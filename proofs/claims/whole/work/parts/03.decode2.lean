theorem dX3_readNumber_45 : decode cX3_readNumber 45 = .ok (.aload_n 0, 1) := by decide +kernel
theorem dX3_readNumber_46 : decode cX3_readNumber 46 = .ok (.aload_n 0, 1) := by decide +kernel
theorem dX3_readNumber_47 : decode cX3_readNumber 47 = .ok (.getfield 19, 3) := by decide +kernel
theorem dX3_readNumber_50 : decode cX3_readNumber 50 = .ok (.invokevirtual 54, 3) := by decide +kernel
theorem dX3_readNumber_53 : decode cX3_readNumber 53 = .ok (.istore 5, 2) := by decide +kernel
theorem dX3_readNumber_55 : decode cX3_readNumber 55 = .ok (.iload 5, 2) := by decide +kernel
theorem dX3_readNumber_57 : decode cX3_readNumber 57 = .ok (.bipush (-6), 2) := by decide +kernel
theorem dX3_readNumber_59 : decode cX3_readNumber 59 = .ok (.if_icmp .eq 41, 3) := by decide +kernel
theorem dX3_readNumber_62 : decode cX3_readNumber 62 = .ok (.iload_n 3, 1) := by decide +kernel
theorem dX3_readNumber_63 : decode cX3_readNumber 63 = .ok (.bipush 10, 2) := by decide +kernel
theorem dX3_readNumber_65 : decode cX3_readNumber 65 = .ok (.imul, 1) := by decide +kernel
theorem dX3_readNumber_66 : decode cX3_readNumber 66 = .ok (.iload 5, 2) := by decide +kernel
theorem dX3_readNumber_68 : decode cX3_readNumber 68 = .ok (.iadd, 1) := by decide +kernel
theorem dX3_readNumber_69 : decode cX3_readNumber 69 = .ok (.iload_n 2, 1) := by decide +kernel
theorem dX3_readNumber_70 : decode cX3_readNumber 70 = .ok (.if_icmp .le 6, 3) := by decide +kernel
theorem dX3_readNumber_73 : decode cX3_readNumber 73 = .ok (.goto 27, 3) := by decide +kernel
theorem dX3_readNumber_76 : decode cX3_readNumber 76 = .ok (.iload_n 3, 1) := by decide +kernel
theorem dX3_readNumber_77 : decode cX3_readNumber 77 = .ok (.bipush 10, 2) := by decide +kernel
theorem dX3_readNumber_79 : decode cX3_readNumber 79 = .ok (.imul, 1) := by decide +kernel
theorem dX3_readNumber_80 : decode cX3_readNumber 80 = .ok (.iload 5, 2) := by decide +kernel
theorem dX3_readNumber_82 : decode cX3_readNumber 82 = .ok (.iadd, 1) := by decide +kernel
theorem dX3_readNumber_83 : decode cX3_readNumber 83 = .ok (.istore_n 3, 1) := by decide +kernel
theorem dX3_readNumber_84 : decode cX3_readNumber 84 = .ok (.aload_n 0, 1) := by decide +kernel
theorem dX3_readNumber_85 : decode cX3_readNumber 85 = .ok (.dup, 1) := by decide +kernel
theorem dX3_readNumber_86 : decode cX3_readNumber 86 = .ok (.getfield 19, 3) := by decide +kernel
theorem dX3_readNumber_89 : decode cX3_readNumber 89 = .ok (.iconst 1, 1) := by decide +kernel
theorem dX3_readNumber_90 : decode cX3_readNumber 90 = .ok (.iadd, 1) := by decide +kernel
theorem dX3_readNumber_91 : decode cX3_readNumber 91 = .ok (.putfield 19, 3) := by decide +kernel
theorem dX3_readNumber_94 : decode cX3_readNumber 94 = .ok (.iinc 4 1, 3) := by decide +kernel
theorem dX3_readNumber_97 : decode cX3_readNumber 97 = .ok (.goto (-62), 3) := by decide +kernel
theorem dX3_readNumber_100 : decode cX3_readNumber 100 = .ok (.iload_n 3, 1) := by decide +kernel
theorem dX3_readNumber_101 : decode cX3_readNumber 101 = .ok (.ireturn, 1) := by decide +kernel
theorem dX3_digitAt_0 : decode cX3_digitAt 0 = .ok (.aload_n 0, 1) := by decide +kernel
theorem dX3_digitAt_1 : decode cX3_digitAt 1 = .ok (.iload_n 1, 1) := by decide +kernel
theorem dX3_digitAt_2 : decode cX3_digitAt 2 = .ok (.invokevirtual 33, 3) := by decide +kernel
theorem dX3_digitAt_5 : decode cX3_digitAt 5 = .ok (.istore_n 2, 1) := by decide +kernel
theorem dX3_digitAt_6 : decode cX3_digitAt 6 = .ok (.iload_n 2, 1) := by decide +kernel
theorem dX3_digitAt_7 : decode cX3_digitAt 7 = .ok (.bipush 48, 2) := by decide +kernel
theorem dX3_digitAt_9 : decode cX3_digitAt 9 = .ok (.bipush 57, 2) := by decide +kernel
theorem dX3_digitAt_11 : decode cX3_digitAt 11 = .ok (.invokestatic 57, 3) := by decide +kernel
theorem dX3_digitAt_14 : decode cX3_digitAt 14 = .ok (.ifCond .eq 10, 3) := by decide +kernel
theorem dX3_digitAt_17 : decode cX3_digitAt 17 = .ok (.iload_n 2, 1) := by decide +kernel
theorem dX3_digitAt_18 : decode cX3_digitAt 18 = .ok (.bipush 48, 2) := by decide +kernel
theorem dX3_digitAt_20 : decode cX3_digitAt 20 = .ok (.isub, 1) := by decide +kernel
theorem dX3_digitAt_21 : decode cX3_digitAt 21 = .ok (.goto 5, 3) := by decide +kernel
theorem dX3_digitAt_24 : decode cX3_digitAt 24 = .ok (.bipush (-6), 2) := by decide +kernel
theorem dX3_digitAt_26 : decode cX3_digitAt 26 = .ok (.ireturn, 1) := by decide +kernel
theorem dX3_signAt_0 : decode cX3_signAt 0 = .ok (.iload_n 1, 1) := by decide +kernel
theorem dX3_signAt_1 : decode cX3_signAt 1 = .ok (.ifCond .lt 20, 3) := by decide +kernel
theorem dX3_signAt_4 : decode cX3_signAt 4 = .ok (.iload_n 1, 1) := by decide +kernel
theorem dX3_signAt_5 : decode cX3_signAt 5 = .ok (.aload_n 0, 1) := by decide +kernel
theorem dX3_signAt_6 : decode cX3_signAt 6 = .ok (.getfield 15, 3) := by decide +kernel
theorem dX3_signAt_9 : decode cX3_signAt 9 = .ok (.if_icmp .ge 12, 3) := by decide +kernel
theorem dX3_signAt_12 : decode cX3_signAt 12 = .ok (.aload_n 0, 1) := by decide +kernel
theorem dX3_signAt_13 : decode cX3_signAt 13 = .ok (.getfield 9, 3) := by decide +kernel
theorem dX3_signAt_16 : decode cX3_signAt 16 = .ok (.iload_n 1, 1) := by decide +kernel
theorem dX3_signAt_17 : decode cX3_signAt 17 = .ok (.caload, 1) := by decide +kernel
theorem dX3_signAt_18 : decode cX3_signAt 18 = .ok (.goto 4, 3) := by decide +kernel
theorem dX3_signAt_21 : decode cX3_signAt 21 = .ok (.iconst 0, 1) := by decide +kernel
theorem dX3_signAt_22 : decode cX3_signAt 22 = .ok (.ireturn, 1) := by decide +kernel
theorem dX4_init_0 : decode cX4_init 0 = .ok (.aload_n 0, 1) := by decide +kernel
theorem dX4_init_1 : decode cX4_init 1 = .ok (.invokespecial 3, 3) := by decide +kernel
theorem dX4_init_4 : decode cX4_init 4 = .ok (.aload_n 0, 1) := by decide +kernel
theorem dX4_init_5 : decode cX4_init 5 = .ok (.iconst 3, 1) := by decide +kernel
theorem dX4_init_6 : decode cX4_init 6 = .ok (.putfield 9, 3) := by decide +kernel
theorem dX4_init_9 : decode cX4_init 9 = .ok (.aload_n 0, 1) := by decide +kernel
theorem dX4_init_10 : decode cX4_init 10 = .ok (.bipush 6, 2) := by decide +kernel
theorem dX4_init_12 : decode cX4_init 12 = .ok (.newarray .int, 2) := by decide +kernel
theorem dX4_init_14 : decode cX4_init 14 = .ok (.putfield 15, 3) := by decide +kernel
theorem dX4_init_17 : decode cX4_init 17 = .ok (.aload_n 0, 1) := by decide +kernel
theorem dX4_init_18 : decode cX4_init 18 = .ok (.bipush 6, 2) := by decide +kernel
theorem dX4_init_20 : decode cX4_init 20 = .ok (.newarray .int, 2) := by decide +kernel
theorem dX4_init_22 : decode cX4_init 22 = .ok (.putfield 19, 3) := by decide +kernel
theorem dX4_init_25 : decode cX4_init 25 = .ok (.aload_n 0, 1) := by decide +kernel
theorem dX4_init_26 : decode cX4_init 26 = .ok (.bipush 6, 2) := by decide +kernel
theorem dX4_init_28 : decode cX4_init 28 = .ok (.newarray .int, 2) := by decide +kernel
theorem dX4_init_30 : decode cX4_init 30 = .ok (.putfield 22, 3) := by decide +kernel
theorem dX4_init_33 : decode cX4_init 33 = .ok (.aload_n 0, 1) := by decide +kernel
theorem dX4_init_34 : decode cX4_init 34 = .ok (.bipush 6, 2) := by decide +kernel
theorem dX4_init_36 : decode cX4_init 36 = .ok (.newarray .int, 2) := by decide +kernel
theorem dX4_init_38 : decode cX4_init 38 = .ok (.putfield 25, 3) := by decide +kernel
theorem dX4_init_41 : decode cX4_init 41 = .ok (.aload_n 0, 1) := by decide +kernel
theorem dX4_init_42 : decode cX4_init 42 = .ok (.bipush 6, 2) := by decide +kernel
theorem dX4_init_44 : decode cX4_init 44 = .ok (.newarray .int, 2) := by decide +kernel
theorem dX4_init_46 : decode cX4_init 46 = .ok (.putfield 28, 3) := by decide +kernel
theorem dX4_init_49 : decode cX4_init 49 = .ok (.return_, 1) := by decide +kernel
theorem dX4_startAnew_0 : decode cX4_startAnew 0 = .ok (.aload_n 0, 1) := by decide +kernel
theorem dX4_startAnew_1 : decode cX4_startAnew 1 = .ok (.iload_n 1, 1) := by decide +kernel
theorem dX4_startAnew_2 : decode cX4_startAnew 2 = .ok (.bipush 6, 2) := by decide +kernel
theorem dX4_startAnew_4 : decode cX4_startAnew 4 = .ok (.invokestatic 31, 3) := by decide +kernel
theorem dX4_startAnew_7 : decode cX4_startAnew 7 = .ok (.putfield 9, 3) := by decide +kernel
theorem dX4_startAnew_10 : decode cX4_startAnew 10 = .ok (.iconst 0, 1) := by decide +kernel
theorem dX4_startAnew_11 : decode cX4_startAnew 11 = .ok (.istore_n 3, 1) := by decide +kernel
theorem dX4_startAnew_12 : decode cX4_startAnew 12 = .ok (.iload_n 3, 1) := by decide +kernel
theorem dX4_startAnew_13 : decode cX4_startAnew 13 = .ok (.bipush 6, 2) := by decide +kernel
theorem dX4_startAnew_15 : decode cX4_startAnew 15 = .ok (.if_icmp .ge 47, 3) := by decide +kernel
theorem dX4_startAnew_18 : decode cX4_startAnew 18 = .ok (.aload_n 0, 1) := by decide +kernel
theorem dX4_startAnew_19 : decode cX4_startAnew 19 = .ok (.getfield 15, 3) := by decide +kernel
theorem dX4_startAnew_22 : decode cX4_startAnew 22 = .ok (.iload_n 3, 1) := by decide +kernel
theorem dX4_startAnew_23 : decode cX4_startAnew 23 = .ok (.iload_n 2, 1) := by decide +kernel
theorem dX4_startAnew_24 : decode cX4_startAnew 24 = .ok (.iastore, 1) := by decide +kernel
theorem dX4_startAnew_25 : decode cX4_startAnew 25 = .ok (.aload_n 0, 1) := by decide +kernel
theorem dX4_startAnew_26 : decode cX4_startAnew 26 = .ok (.getfield 19, 3) := by decide +kernel
theorem dX4_startAnew_29 : decode cX4_startAnew 29 = .ok (.iload_n 3, 1) := by decide +kernel
theorem dX4_startAnew_30 : decode cX4_startAnew 30 = .ok (.bipush 10, 2) := by decide +kernel
theorem dX4_startAnew_32 : decode cX4_startAnew 32 = .ok (.iastore, 1) := by decide +kernel
theorem dX4_startAnew_33 : decode cX4_startAnew 33 = .ok (.aload_n 0, 1) := by decide +kernel
theorem dX4_startAnew_34 : decode cX4_startAnew 34 = .ok (.getfield 22, 3) := by decide +kernel
theorem dX4_startAnew_37 : decode cX4_startAnew 37 = .ok (.iload_n 3, 1) := by decide +kernel
theorem dX4_startAnew_38 : decode cX4_startAnew 38 = .ok (.iconst 0, 1) := by decide +kernel
theorem dX4_startAnew_39 : decode cX4_startAnew 39 = .ok (.iastore, 1) := by decide +kernel
theorem dX4_startAnew_40 : decode cX4_startAnew 40 = .ok (.aload_n 0, 1) := by decide +kernel
theorem dX4_startAnew_41 : decode cX4_startAnew 41 = .ok (.getfield 25, 3) := by decide +kernel
theorem dX4_startAnew_44 : decode cX4_startAnew 44 = .ok (.iload_n 3, 1) := by decide +kernel
theorem dX4_startAnew_45 : decode cX4_startAnew 45 = .ok (.iconst 0, 1) := by decide +kernel
theorem dX4_startAnew_46 : decode cX4_startAnew 46 = .ok (.iastore, 1) := by decide +kernel
theorem dX4_startAnew_47 : decode cX4_startAnew 47 = .ok (.aload_n 0, 1) := by decide +kernel
theorem dX4_startAnew_48 : decode cX4_startAnew 48 = .ok (.getfield 28, 3) := by decide +kernel
theorem dX4_startAnew_51 : decode cX4_startAnew 51 = .ok (.iload_n 3, 1) := by decide +kernel
theorem dX4_startAnew_52 : decode cX4_startAnew 52 = .ok (.sipush 300, 3) := by decide +kernel
theorem dX4_startAnew_55 : decode cX4_startAnew 55 = .ok (.iastore, 1) := by decide +kernel
theorem dX4_startAnew_56 : decode cX4_startAnew 56 = .ok (.iinc 3 1, 3) := by decide +kernel
theorem dX4_startAnew_59 : decode cX4_startAnew 59 = .ok (.goto (-47), 3) := by decide +kernel
theorem dX4_startAnew_62 : decode cX4_startAnew 62 = .ok (.return_, 1) := by decide +kernel
theorem dX4_takeOver_0 : decode cX4_takeOver 0 = .ok (.aload_n 0, 1) := by decide +kernel
theorem dX4_takeOver_1 : decode cX4_takeOver 1 = .ok (.aload_n 1, 1) := by decide +kernel
theorem dX4_takeOver_2 : decode cX4_takeOver 2 = .ok (.getfield 9, 3) := by decide +kernel
theorem dX4_takeOver_5 : decode cX4_takeOver 5 = .ok (.putfield 9, 3) := by decide +kernel
theorem dX4_takeOver_8 : decode cX4_takeOver 8 = .ok (.aload_n 1, 1) := by decide +kernel
theorem dX4_takeOver_9 : decode cX4_takeOver 9 = .ok (.getfield 15, 3) := by decide +kernel
theorem dX4_takeOver_12 : decode cX4_takeOver 12 = .ok (.aload_n 0, 1) := by decide +kernel
theorem dX4_takeOver_13 : decode cX4_takeOver 13 = .ok (.getfield 15, 3) := by decide +kernel
theorem dX4_takeOver_16 : decode cX4_takeOver 16 = .ok (.invokestatic 37, 3) := by decide +kernel
theorem dX4_takeOver_19 : decode cX4_takeOver 19 = .ok (.aload_n 1, 1) := by decide +kernel
theorem dX4_takeOver_20 : decode cX4_takeOver 20 = .ok (.getfield 19, 3) := by decide +kernel
theorem dX4_takeOver_23 : decode cX4_takeOver 23 = .ok (.aload_n 0, 1) := by decide +kernel
theorem dX4_takeOver_24 : decode cX4_takeOver 24 = .ok (.getfield 19, 3) := by decide +kernel
theorem dX4_takeOver_27 : decode cX4_takeOver 27 = .ok (.invokestatic 37, 3) := by decide +kernel
theorem dX4_takeOver_30 : decode cX4_takeOver 30 = .ok (.aload_n 1, 1) := by decide +kernel
theorem dX4_takeOver_31 : decode cX4_takeOver 31 = .ok (.getfield 22, 3) := by decide +kernel
theorem dX4_takeOver_34 : decode cX4_takeOver 34 = .ok (.aload_n 0, 1) := by decide +kernel
theorem dX4_takeOver_35 : decode cX4_takeOver 35 = .ok (.getfield 22, 3) := by decide +kernel
theorem dX4_takeOver_38 : decode cX4_takeOver 38 = .ok (.invokestatic 37, 3) := by decide +kernel
theorem dX4_takeOver_41 : decode cX4_takeOver 41 = .ok (.aload_n 1, 1) := by decide +kernel
theorem dX4_takeOver_42 : decode cX4_takeOver 42 = .ok (.getfield 25, 3) := by decide +kernel
theorem dX4_takeOver_45 : decode cX4_takeOver 45 = .ok (.aload_n 0, 1) := by decide +kernel
theorem dX4_takeOver_46 : decode cX4_takeOver 46 = .ok (.getfield 25, 3) := by decide +kernel
theorem dX4_takeOver_49 : decode cX4_takeOver 49 = .ok (.invokestatic 37, 3) := by decide +kernel
theorem dX4_takeOver_52 : decode cX4_takeOver 52 = .ok (.aload_n 1, 1) := by decide +kernel
theorem dX4_takeOver_53 : decode cX4_takeOver 53 = .ok (.getfield 28, 3) := by decide +kernel
theorem dX4_takeOver_56 : decode cX4_takeOver 56 = .ok (.aload_n 0, 1) := by decide +kernel
theorem dX4_takeOver_57 : decode cX4_takeOver 57 = .ok (.getfield 28, 3) := by decide +kernel
theorem dX4_takeOver_60 : decode cX4_takeOver 60 = .ok (.invokestatic 37, 3) := by decide +kernel
theorem dX4_takeOver_63 : decode cX4_takeOver 63 = .ok (.return_, 1) := by decide +kernel
theorem dX4_hasSeat_0 : decode cX4_hasSeat 0 = .ok (.iload_n 1, 1) := by decide +kernel
theorem dX4_hasSeat_1 : decode cX4_hasSeat 1 = .ok (.ifCond .lt 15, 3) := by decide +kernel
theorem dX4_hasSeat_4 : decode cX4_hasSeat 4 = .ok (.iload_n 1, 1) := by decide +kernel
theorem dX4_hasSeat_5 : decode cX4_hasSeat 5 = .ok (.aload_n 0, 1) := by decide +kernel
theorem dX4_hasSeat_6 : decode cX4_hasSeat 6 = .ok (.getfield 9, 3) := by decide +kernel
theorem dX4_hasSeat_9 : decode cX4_hasSeat 9 = .ok (.if_icmp .ge 7, 3) := by decide +kernel
theorem dX4_hasSeat_12 : decode cX4_hasSeat 12 = .ok (.iconst 1, 1) := by decide +kernel
theorem dX4_hasSeat_13 : decode cX4_hasSeat 13 = .ok (.goto 4, 3) := by decide +kernel
theorem dX4_hasSeat_16 : decode cX4_hasSeat 16 = .ok (.iconst 0, 1) := by decide +kernel
theorem dX4_hasSeat_17 : decode cX4_hasSeat 17 = .ok (.ireturn, 1) := by decide +kernel
theorem dX4_seatBehind_0 : decode cX4_seatBehind 0 = .ok (.iload_n 1, 1) := by decide +kernel
theorem dX4_seatBehind_1 : decode cX4_seatBehind 1 = .ok (.iload_n 2, 1) := by decide +kernel
theorem dX4_seatBehind_2 : decode cX4_seatBehind 2 = .ok (.iadd, 1) := by decide +kernel
theorem dX4_seatBehind_3 : decode cX4_seatBehind 3 = .ok (.istore_n 3, 1) := by decide +kernel
theorem dX4_seatBehind_4 : decode cX4_seatBehind 4 = .ok (.iload_n 3, 1) := by decide +kernel
theorem dX4_seatBehind_5 : decode cX4_seatBehind 5 = .ok (.aload_n 0, 1) := by decide +kernel
theorem dX4_seatBehind_6 : decode cX4_seatBehind 6 = .ok (.getfield 9, 3) := by decide +kernel
theorem dX4_seatBehind_9 : decode cX4_seatBehind 9 = .ok (.if_icmp .ge 7, 3) := by decide +kernel
theorem dX4_seatBehind_12 : decode cX4_seatBehind 12 = .ok (.iload_n 3, 1) := by decide +kernel
theorem dX4_seatBehind_13 : decode cX4_seatBehind 13 = .ok (.goto 9, 3) := by decide +kernel
theorem dX4_seatBehind_16 : decode cX4_seatBehind 16 = .ok (.iload_n 3, 1) := by decide +kernel
theorem dX4_seatBehind_17 : decode cX4_seatBehind 17 = .ok (.aload_n 0, 1) := by decide +kernel
theorem dX4_seatBehind_18 : decode cX4_seatBehind 18 = .ok (.getfield 9, 3) := by decide +kernel
theorem dX4_seatBehind_21 : decode cX4_seatBehind 21 = .ok (.isub, 1) := by decide +kernel
theorem dX4_seatBehind_22 : decode cX4_seatBehind 22 = .ok (.ireturn, 1) := by decide +kernel
theorem dX4_amountOf_0 : decode cX4_amountOf 0 = .ok (.aload_n 0, 1) := by decide +kernel
theorem dX4_amountOf_1 : decode cX4_amountOf 1 = .ok (.iload_n 1, 1) := by decide +kernel
theorem dX4_amountOf_2 : decode cX4_amountOf 2 = .ok (.invokevirtual 41, 3) := by decide +kernel
theorem dX4_amountOf_5 : decode cX4_amountOf 5 = .ok (.ifCond .eq 12, 3) := by decide +kernel
theorem dX4_amountOf_8 : decode cX4_amountOf 8 = .ok (.aload_n 0, 1) := by decide +kernel
theorem dX4_amountOf_9 : decode cX4_amountOf 9 = .ok (.getfield 15, 3) := by decide +kernel
theorem dX4_amountOf_12 : decode cX4_amountOf 12 = .ok (.iload_n 1, 1) := by decide +kernel
theorem dX4_amountOf_13 : decode cX4_amountOf 13 = .ok (.iaload, 1) := by decide +kernel
theorem dX4_amountOf_14 : decode cX4_amountOf 14 = .ok (.goto 4, 3) := by decide +kernel
theorem dX4_amountOf_17 : decode cX4_amountOf 17 = .ok (.iconst 0, 1) := by decide +kernel
theorem dX4_amountOf_18 : decode cX4_amountOf 18 = .ok (.ireturn, 1) := by decide +kernel
theorem dX4_boldnessOf_0 : decode cX4_boldnessOf 0 = .ok (.aload_n 0, 1) := by decide +kernel
theorem dX4_boldnessOf_1 : decode cX4_boldnessOf 1 = .ok (.iload_n 1, 1) := by decide +kernel
theorem dX4_boldnessOf_2 : decode cX4_boldnessOf 2 = .ok (.invokevirtual 41, 3) := by decide +kernel
theorem dX4_boldnessOf_5 : decode cX4_boldnessOf 5 = .ok (.ifCond .eq 12, 3) := by decide +kernel
theorem dX4_boldnessOf_8 : decode cX4_boldnessOf 8 = .ok (.aload_n 0, 1) := by decide +kernel
theorem dX4_boldnessOf_9 : decode cX4_boldnessOf 9 = .ok (.getfield 19, 3) := by decide +kernel
theorem dX4_boldnessOf_12 : decode cX4_boldnessOf 12 = .ok (.iload_n 1, 1) := by decide +kernel
theorem dX4_boldnessOf_13 : decode cX4_boldnessOf 13 = .ok (.iaload, 1) := by decide +kernel
theorem dX4_boldnessOf_14 : decode cX4_boldnessOf 14 = .ok (.goto 4, 3) := by decide +kernel
theorem dX4_boldnessOf_17 : decode cX4_boldnessOf 17 = .ok (.iconst 0, 1) := by decide +kernel
theorem dX4_boldnessOf_18 : decode cX4_boldnessOf 18 = .ok (.ireturn, 1) := by decide +kernel
theorem dX4_paidBy_0 : decode cX4_paidBy 0 = .ok (.aload_n 0, 1) := by decide +kernel
theorem dX4_paidBy_1 : decode cX4_paidBy 1 = .ok (.iload_n 1, 1) := by decide +kernel
theorem dX4_paidBy_2 : decode cX4_paidBy 2 = .ok (.invokevirtual 41, 3) := by decide +kernel
theorem dX4_paidBy_5 : decode cX4_paidBy 5 = .ok (.ifCond .eq 12, 3) := by decide +kernel
theorem dX4_paidBy_8 : decode cX4_paidBy 8 = .ok (.aload_n 0, 1) := by decide +kernel
theorem dX4_paidBy_9 : decode cX4_paidBy 9 = .ok (.getfield 22, 3) := by decide +kernel
theorem dX4_paidBy_12 : decode cX4_paidBy 12 = .ok (.iload_n 1, 1) := by decide +kernel
theorem dX4_paidBy_13 : decode cX4_paidBy 13 = .ok (.iaload, 1) := by decide +kernel
theorem dX4_paidBy_14 : decode cX4_paidBy 14 = .ok (.goto 4, 3) := by decide +kernel
theorem dX4_paidBy_17 : decode cX4_paidBy 17 = .ok (.iconst 0, 1) := by decide +kernel
theorem dX4_paidBy_18 : decode cX4_paidBy 18 = .ok (.ireturn, 1) := by decide +kernel
theorem dX4_leastOf_0 : decode cX4_leastOf 0 = .ok (.aload_n 0, 1) := by decide +kernel
theorem dX4_leastOf_1 : decode cX4_leastOf 1 = .ok (.iload_n 1, 1) := by decide +kernel
theorem dX4_leastOf_2 : decode cX4_leastOf 2 = .ok (.invokevirtual 41, 3) := by decide +kernel
theorem dX4_leastOf_5 : decode cX4_leastOf 5 = .ok (.ifCond .eq 12, 3) := by decide +kernel
theorem dX4_leastOf_8 : decode cX4_leastOf 8 = .ok (.aload_n 0, 1) := by decide +kernel
theorem dX4_leastOf_9 : decode cX4_leastOf 9 = .ok (.getfield 25, 3) := by decide +kernel
theorem dX4_leastOf_12 : decode cX4_leastOf 12 = .ok (.iload_n 1, 1) := by decide +kernel
theorem dX4_leastOf_13 : decode cX4_leastOf 13 = .ok (.iaload, 1) := by decide +kernel
theorem dX4_leastOf_14 : decode cX4_leastOf 14 = .ok (.goto 4, 3) := by decide +kernel
theorem dX4_leastOf_17 : decode cX4_leastOf 17 = .ok (.iconst 0, 1) := by decide +kernel
theorem dX4_leastOf_18 : decode cX4_leastOf 18 = .ok (.ireturn, 1) := by decide +kernel
theorem dX4_greatestOf_0 : decode cX4_greatestOf 0 = .ok (.aload_n 0, 1) := by decide +kernel
theorem dX4_greatestOf_1 : decode cX4_greatestOf 1 = .ok (.iload_n 1, 1) := by decide +kernel
theorem dX4_greatestOf_2 : decode cX4_greatestOf 2 = .ok (.invokevirtual 41, 3) := by decide +kernel
theorem dX4_greatestOf_5 : decode cX4_greatestOf 5 = .ok (.ifCond .eq 12, 3) := by decide +kernel
theorem dX4_greatestOf_8 : decode cX4_greatestOf 8 = .ok (.aload_n 0, 1) := by decide +kernel
theorem dX4_greatestOf_9 : decode cX4_greatestOf 9 = .ok (.getfield 28, 3) := by decide +kernel
theorem dX4_greatestOf_12 : decode cX4_greatestOf 12 = .ok (.iload_n 1, 1) := by decide +kernel
theorem dX4_greatestOf_13 : decode cX4_greatestOf 13 = .ok (.iaload, 1) := by decide +kernel
theorem dX4_greatestOf_14 : decode cX4_greatestOf 14 = .ok (.goto 4, 3) := by decide +kernel
theorem dX4_greatestOf_17 : decode cX4_greatestOf 17 = .ok (.iconst 0, 1) := by decide +kernel
theorem dX4_greatestOf_18 : decode cX4_greatestOf 18 = .ok (.ireturn, 1) := by decide +kernel
theorem dX4_fillAnew_0 : decode cX4_fillAnew 0 = .ok (.aload_n 0, 1) := by decide +kernel
theorem dX4_fillAnew_1 : decode cX4_fillAnew 1 = .ok (.iload_n 1, 1) := by decide +kernel
theorem dX4_fillAnew_2 : decode cX4_fillAnew 2 = .ok (.invokevirtual 41, 3) := by decide +kernel
theorem dX4_fillAnew_5 : decode cX4_fillAnew 5 = .ok (.ifCond .ne 5, 3) := by decide +kernel
theorem dX4_fillAnew_8 : decode cX4_fillAnew 8 = .ok (.iconst (-1), 1) := by decide +kernel
theorem dX4_fillAnew_9 : decode cX4_fillAnew 9 = .ok (.ireturn, 1) := by decide +kernel
theorem dX4_fillAnew_10 : decode cX4_fillAnew 10 = .ok (.aload_n 0, 1) := by decide +kernel
theorem dX4_fillAnew_11 : decode cX4_fillAnew 11 = .ok (.getfield 15, 3) := by decide +kernel
theorem dX4_fillAnew_14 : decode cX4_fillAnew 14 = .ok (.iload_n 1, 1) := by decide +kernel
theorem dX4_fillAnew_15 : decode cX4_fillAnew 15 = .ok (.iaload, 1) := by decide +kernel
theorem dX4_fillAnew_16 : decode cX4_fillAnew 16 = .ok (.istore_n 3, 1) := by decide +kernel
theorem dX4_fillAnew_17 : decode cX4_fillAnew 17 = .ok (.aload_n 0, 1) := by decide +kernel
theorem dX4_fillAnew_18 : decode cX4_fillAnew 18 = .ok (.getfield 15, 3) := by decide +kernel
theorem dX4_fillAnew_21 : decode cX4_fillAnew 21 = .ok (.iload_n 1, 1) := by decide +kernel
theorem dX4_fillAnew_22 : decode cX4_fillAnew 22 = .ok (.iload_n 2, 1) := by decide +kernel
theorem dX4_fillAnew_23 : decode cX4_fillAnew 23 = .ok (.iastore, 1) := by decide +kernel
theorem dX4_fillAnew_24 : decode cX4_fillAnew 24 = .ok (.aload_n 0, 1) := by decide +kernel
theorem dX4_fillAnew_25 : decode cX4_fillAnew 25 = .ok (.getfield 25, 3) := by decide +kernel
theorem dX4_fillAnew_28 : decode cX4_fillAnew 28 = .ok (.iload_n 1, 1) := by decide +kernel
theorem dX4_fillAnew_29 : decode cX4_fillAnew 29 = .ok (.iconst 0, 1) := by decide +kernel
theorem dX4_fillAnew_30 : decode cX4_fillAnew 30 = .ok (.iastore, 1) := by decide +kernel
theorem dX4_fillAnew_31 : decode cX4_fillAnew 31 = .ok (.aload_n 0, 1) := by decide +kernel
theorem dX4_fillAnew_32 : decode cX4_fillAnew 32 = .ok (.getfield 28, 3) := by decide +kernel
theorem dX4_fillAnew_35 : decode cX4_fillAnew 35 = .ok (.iload_n 1, 1) := by decide +kernel
theorem dX4_fillAnew_36 : decode cX4_fillAnew 36 = .ok (.sipush 300, 3) := by decide +kernel
theorem dX4_fillAnew_39 : decode cX4_fillAnew 39 = .ok (.iastore, 1) := by decide +kernel
theorem dX4_fillAnew_40 : decode cX4_fillAnew 40 = .ok (.iload_n 3, 1) := by decide +kernel
theorem dX4_fillAnew_41 : decode cX4_fillAnew 41 = .ok (.ireturn, 1) := by decide +kernel
theorem dX4_changeBoldness_0 : decode cX4_changeBoldness 0 = .ok (.aload_n 0, 1) := by decide +kernel
theorem dX4_changeBoldness_1 : decode cX4_changeBoldness 1 = .ok (.iload_n 1, 1) := by decide +kernel
theorem dX4_changeBoldness_2 : decode cX4_changeBoldness 2 = .ok (.invokevirtual 41, 3) := by decide +kernel
theorem dX4_changeBoldness_5 : decode cX4_changeBoldness 5 = .ok (.ifCond .ne 5, 3) := by decide +kernel
theorem dX4_changeBoldness_8 : decode cX4_changeBoldness 8 = .ok (.iconst (-1), 1) := by decide +kernel
theorem dX4_changeBoldness_9 : decode cX4_changeBoldness 9 = .ok (.ireturn, 1) := by decide +kernel
theorem dX4_changeBoldness_10 : decode cX4_changeBoldness 10 = .ok (.aload_n 0, 1) := by decide +kernel
theorem dX4_changeBoldness_11 : decode cX4_changeBoldness 11 = .ok (.getfield 19, 3) := by decide +kernel
theorem dX4_changeBoldness_14 : decode cX4_changeBoldness 14 = .ok (.iload_n 1, 1) := by decide +kernel
theorem dX4_changeBoldness_15 : decode cX4_changeBoldness 15 = .ok (.iaload, 1) := by decide +kernel
theorem dX4_changeBoldness_16 : decode cX4_changeBoldness 16 = .ok (.istore_n 3, 1) := by decide +kernel
theorem dX4_changeBoldness_17 : decode cX4_changeBoldness 17 = .ok (.aload_n 0, 1) := by decide +kernel
theorem dX4_changeBoldness_18 : decode cX4_changeBoldness 18 = .ok (.getfield 19, 3) := by decide +kernel
theorem dX4_changeBoldness_21 : decode cX4_changeBoldness 21 = .ok (.iload_n 1, 1) := by decide +kernel
theorem dX4_changeBoldness_22 : decode cX4_changeBoldness 22 = .ok (.iload_n 2, 1) := by decide +kernel
theorem dX4_changeBoldness_23 : decode cX4_changeBoldness 23 = .ok (.iastore, 1) := by decide +kernel
theorem dX4_changeBoldness_24 : decode cX4_changeBoldness 24 = .ok (.iload_n 3, 1) := by decide +kernel
theorem dX4_changeBoldness_25 : decode cX4_changeBoldness 25 = .ok (.ireturn, 1) := by decide +kernel
theorem dX4_learnAtLeast_0 : decode cX4_learnAtLeast 0 = .ok (.aload_n 0, 1) := by decide +kernel
theorem dX4_learnAtLeast_1 : decode cX4_learnAtLeast 1 = .ok (.iload_n 1, 1) := by decide +kernel
theorem dX4_learnAtLeast_2 : decode cX4_learnAtLeast 2 = .ok (.invokevirtual 41, 3) := by decide +kernel
theorem dX4_learnAtLeast_5 : decode cX4_learnAtLeast 5 = .ok (.ifCond .eq 20, 3) := by decide +kernel
theorem dX4_learnAtLeast_8 : decode cX4_learnAtLeast 8 = .ok (.aload_n 0, 1) := by decide +kernel
theorem dX4_learnAtLeast_9 : decode cX4_learnAtLeast 9 = .ok (.getfield 25, 3) := by decide +kernel
theorem dX4_learnAtLeast_12 : decode cX4_learnAtLeast 12 = .ok (.iload_n 1, 1) := by decide +kernel
theorem dX4_learnAtLeast_13 : decode cX4_learnAtLeast 13 = .ok (.iaload, 1) := by decide +kernel
theorem dX4_learnAtLeast_14 : decode cX4_learnAtLeast 14 = .ok (.iload_n 2, 1) := by decide +kernel
theorem dX4_learnAtLeast_15 : decode cX4_learnAtLeast 15 = .ok (.if_icmp .ge 10, 3) := by decide +kernel
theorem dX4_learnAtLeast_18 : decode cX4_learnAtLeast 18 = .ok (.aload_n 0, 1) := by decide +kernel
theorem dX4_learnAtLeast_19 : decode cX4_learnAtLeast 19 = .ok (.getfield 25, 3) := by decide +kernel
theorem dX4_learnAtLeast_22 : decode cX4_learnAtLeast 22 = .ok (.iload_n 1, 1) := by decide +kernel
theorem dX4_learnAtLeast_23 : decode cX4_learnAtLeast 23 = .ok (.iload_n 2, 1) := by decide +kernel
theorem dX4_learnAtLeast_24 : decode cX4_learnAtLeast 24 = .ok (.iastore, 1) := by decide +kernel
theorem dX4_learnAtLeast_25 : decode cX4_learnAtLeast 25 = .ok (.return_, 1) := by decide +kernel
theorem dX4_learnAtMost_0 : decode cX4_learnAtMost 0 = .ok (.aload_n 0, 1) := by decide +kernel
theorem dX4_learnAtMost_1 : decode cX4_learnAtMost 1 = .ok (.iload_n 1, 1) := by decide +kernel
theorem dX4_learnAtMost_2 : decode cX4_learnAtMost 2 = .ok (.invokevirtual 41, 3) := by decide +kernel
theorem dX4_learnAtMost_5 : decode cX4_learnAtMost 5 = .ok (.ifCond .eq 20, 3) := by decide +kernel
theorem dX4_learnAtMost_8 : decode cX4_learnAtMost 8 = .ok (.aload_n 0, 1) := by decide +kernel
theorem dX4_learnAtMost_9 : decode cX4_learnAtMost 9 = .ok (.getfield 28, 3) := by decide +kernel
theorem dX4_learnAtMost_12 : decode cX4_learnAtMost 12 = .ok (.iload_n 1, 1) := by decide +kernel
theorem dX4_learnAtMost_13 : decode cX4_learnAtMost 13 = .ok (.iaload, 1) := by decide +kernel
theorem dX4_learnAtMost_14 : decode cX4_learnAtMost 14 = .ok (.iload_n 2, 1) := by decide +kernel
theorem dX4_learnAtMost_15 : decode cX4_learnAtMost 15 = .ok (.if_icmp .le 10, 3) := by decide +kernel
theorem dX4_learnAtMost_18 : decode cX4_learnAtMost 18 = .ok (.aload_n 0, 1) := by decide +kernel
theorem dX4_learnAtMost_19 : decode cX4_learnAtMost 19 = .ok (.getfield 28, 3) := by decide +kernel
theorem dX4_learnAtMost_22 : decode cX4_learnAtMost 22 = .ok (.iload_n 1, 1) := by decide +kernel
theorem dX4_learnAtMost_23 : decode cX4_learnAtMost 23 = .ok (.iload_n 2, 1) := by decide +kernel
theorem dX4_learnAtMost_24 : decode cX4_learnAtMost 24 = .ok (.iastore, 1) := by decide +kernel
theorem dX4_learnAtMost_25 : decode cX4_learnAtMost 25 = .ok (.return_, 1) := by decide +kernel
theorem dX4_question_0 : decode cX4_question 0 = .ok (.aload_n 0, 1) := by decide +kernel
theorem dX4_question_1 : decode cX4_question 1 = .ok (.iload_n 1, 1) := by decide +kernel
theorem dX4_question_2 : decode cX4_question 2 = .ok (.invokevirtual 45, 3) := by decide +kernel
theorem dX4_question_5 : decode cX4_question 5 = .ok (.iload_n 2, 1) := by decide +kernel
theorem dX4_question_6 : decode cX4_question 6 = .ok (.if_icmp .lt 7, 3) := by decide +kernel
theorem dX4_question_9 : decode cX4_question 9 = .ok (.iconst 1, 1) := by decide +kernel
theorem dX4_question_10 : decode cX4_question 10 = .ok (.goto 4, 3) := by decide +kernel
theorem dX4_question_13 : decode cX4_question 13 = .ok (.iconst 0, 1) := by decide +kernel
theorem dX4_question_14 : decode cX4_question 14 = .ok (.istore_n 3, 1) := by decide +kernel
theorem dX4_question_15 : decode cX4_question 15 = .ok (.iload_n 3, 1) := by decide +kernel
theorem dX4_question_16 : decode cX4_question 16 = .ok (.ifCond .eq 12, 3) := by decide +kernel
theorem dX4_question_19 : decode cX4_question 19 = .ok (.aload_n 0, 1) := by decide +kernel
theorem dX4_question_20 : decode cX4_question 20 = .ok (.iload_n 1, 1) := by decide +kernel
theorem dX4_question_21 : decode cX4_question 21 = .ok (.iload_n 2, 1) := by decide +kernel
theorem dX4_question_22 : decode cX4_question 22 = .ok (.invokevirtual 49, 3) := by decide +kernel
theorem dX4_question_25 : decode cX4_question 25 = .ok (.goto 11, 3) := by decide +kernel
theorem dX4_question_28 : decode cX4_question 28 = .ok (.aload_n 0, 1) := by decide +kernel
theorem dX4_question_29 : decode cX4_question 29 = .ok (.iload_n 1, 1) := by decide +kernel
theorem dX4_question_30 : decode cX4_question 30 = .ok (.iload_n 2, 1) := by decide +kernel
theorem dX4_question_31 : decode cX4_question 31 = .ok (.iconst 1, 1) := by decide +kernel
theorem dX4_question_32 : decode cX4_question 32 = .ok (.isub, 1) := by decide +kernel
theorem dX4_question_33 : decode cX4_question 33 = .ok (.invokevirtual 53, 3) := by decide +kernel
theorem dX4_question_36 : decode cX4_question 36 = .ok (.iload_n 3, 1) := by decide +kernel
theorem dX4_question_37 : decode cX4_question 37 = .ok (.ireturn, 1) := by decide +kernel
theorem dX4_takeFrom_0 : decode cX4_takeFrom 0 = .ok (.aload_n 0, 1) := by decide +kernel
theorem dX4_takeFrom_1 : decode cX4_takeFrom 1 = .ok (.iload_n 1, 1) := by decide +kernel
theorem dX4_takeFrom_2 : decode cX4_takeFrom 2 = .ok (.invokevirtual 41, 3) := by decide +kernel
theorem dX4_takeFrom_5 : decode cX4_takeFrom 5 = .ok (.ifCond .ne 4, 3) := by decide +kernel
theorem dX4_takeFrom_8 : decode cX4_takeFrom 8 = .ok (.return_, 1) := by decide +kernel
theorem dX4_takeFrom_9 : decode cX4_takeFrom 9 = .ok (.aload_n 0, 1) := by decide +kernel
theorem dX4_takeFrom_10 : decode cX4_takeFrom 10 = .ok (.getfield 15, 3) := by decide +kernel
theorem dX4_takeFrom_13 : decode cX4_takeFrom 13 = .ok (.iload_n 1, 1) := by decide +kernel
theorem dX4_takeFrom_14 : decode cX4_takeFrom 14 = .ok (.dup2, 1) := by decide +kernel
theorem dX4_takeFrom_15 : decode cX4_takeFrom 15 = .ok (.iaload, 1) := by decide +kernel
theorem dX4_takeFrom_16 : decode cX4_takeFrom 16 = .ok (.iload_n 2, 1) := by decide +kernel
theorem dX4_takeFrom_17 : decode cX4_takeFrom 17 = .ok (.isub, 1) := by decide +kernel
theorem dX4_takeFrom_18 : decode cX4_takeFrom 18 = .ok (.iastore, 1) := by decide +kernel
theorem dX4_takeFrom_19 : decode cX4_takeFrom 19 = .ok (.aload_n 0, 1) := by decide +kernel
theorem dX4_takeFrom_20 : decode cX4_takeFrom 20 = .ok (.getfield 22, 3) := by decide +kernel
theorem dX4_takeFrom_23 : decode cX4_takeFrom 23 = .ok (.iload_n 1, 1) := by decide +kernel
theorem dX4_takeFrom_24 : decode cX4_takeFrom 24 = .ok (.dup2, 1) := by decide +kernel
theorem dX4_takeFrom_25 : decode cX4_takeFrom 25 = .ok (.iaload, 1) := by decide +kernel
theorem dX4_takeFrom_26 : decode cX4_takeFrom 26 = .ok (.iload_n 2, 1) := by decide +kernel
theorem dX4_takeFrom_27 : decode cX4_takeFrom 27 = .ok (.iadd, 1) := by decide +kernel
theorem dX4_takeFrom_28 : decode cX4_takeFrom 28 = .ok (.iastore, 1) := by decide +kernel
theorem dX4_takeFrom_29 : decode cX4_takeFrom 29 = .ok (.aload_n 0, 1) := by decide +kernel
theorem dX4_takeFrom_30 : decode cX4_takeFrom 30 = .ok (.getfield 25, 3) := by decide +kernel
theorem dX4_takeFrom_33 : decode cX4_takeFrom 33 = .ok (.iload_n 1, 1) := by decide +kernel
theorem dX4_takeFrom_34 : decode cX4_takeFrom 34 = .ok (.iconst 0, 1) := by decide +kernel
theorem dX4_takeFrom_35 : decode cX4_takeFrom 35 = .ok (.aload_n 0, 1) := by decide +kernel
theorem dX4_takeFrom_36 : decode cX4_takeFrom 36 = .ok (.getfield 25, 3) := by decide +kernel
theorem dX4_takeFrom_39 : decode cX4_takeFrom 39 = .ok (.iload_n 1, 1) := by decide +kernel
theorem dX4_takeFrom_40 : decode cX4_takeFrom 40 = .ok (.iaload, 1) := by decide +kernel
theorem dX4_takeFrom_41 : decode cX4_takeFrom 41 = .ok (.iload_n 2, 1) := by decide +kernel
theorem dX4_takeFrom_42 : decode cX4_takeFrom 42 = .ok (.isub, 1) := by decide +kernel
theorem dX4_takeFrom_43 : decode cX4_takeFrom 43 = .ok (.invokestatic 56, 3) := by decide +kernel
theorem dX4_takeFrom_46 : decode cX4_takeFrom 46 = .ok (.iastore, 1) := by decide +kernel
theorem dX4_takeFrom_47 : decode cX4_takeFrom 47 = .ok (.aload_n 0, 1) := by decide +kernel
theorem dX4_takeFrom_48 : decode cX4_takeFrom 48 = .ok (.getfield 28, 3) := by decide +kernel
theorem dX4_takeFrom_51 : decode cX4_takeFrom 51 = .ok (.iload_n 1, 1) := by decide +kernel
theorem dX4_takeFrom_52 : decode cX4_takeFrom 52 = .ok (.dup2, 1) := by decide +kernel
theorem dX4_takeFrom_53 : decode cX4_takeFrom 53 = .ok (.iaload, 1) := by decide +kernel
theorem dX4_takeFrom_54 : decode cX4_takeFrom 54 = .ok (.iload_n 2, 1) := by decide +kernel
theorem dX4_takeFrom_55 : decode cX4_takeFrom 55 = .ok (.isub, 1) := by decide +kernel
theorem dX4_takeFrom_56 : decode cX4_takeFrom 56 = .ok (.iastore, 1) := by decide +kernel
theorem dX4_takeFrom_57 : decode cX4_takeFrom 57 = .ok (.return_, 1) := by decide +kernel
theorem dX4_sum_0 : decode cX4_sum 0 = .ok (.iconst 0, 1) := by decide +kernel
theorem dX4_sum_1 : decode cX4_sum 1 = .ok (.istore_n 1, 1) := by decide +kernel
theorem dX4_sum_2 : decode cX4_sum 2 = .ok (.iconst 0, 1) := by decide +kernel
theorem dX4_sum_3 : decode cX4_sum 3 = .ok (.istore_n 2, 1) := by decide +kernel
theorem dX4_sum_4 : decode cX4_sum 4 = .ok (.iload_n 2, 1) := by decide +kernel
theorem dX4_sum_5 : decode cX4_sum 5 = .ok (.aload_n 0, 1) := by decide +kernel
theorem dX4_sum_6 : decode cX4_sum 6 = .ok (.getfield 9, 3) := by decide +kernel
theorem dX4_sum_9 : decode cX4_sum 9 = .ok (.if_icmp .ge 17, 3) := by decide +kernel
theorem dX4_sum_12 : decode cX4_sum 12 = .ok (.iload_n 1, 1) := by decide +kernel
theorem dX4_sum_13 : decode cX4_sum 13 = .ok (.aload_n 0, 1) := by decide +kernel
theorem dX4_sum_14 : decode cX4_sum 14 = .ok (.iload_n 2, 1) := by decide +kernel
theorem dX4_sum_15 : decode cX4_sum 15 = .ok (.invokevirtual 45, 3) := by decide +kernel
theorem dX4_sum_18 : decode cX4_sum 18 = .ok (.iadd, 1) := by decide +kernel
theorem dX4_sum_19 : decode cX4_sum 19 = .ok (.istore_n 1, 1) := by decide +kernel
theorem dX4_sum_20 : decode cX4_sum 20 = .ok (.iinc 2 1, 3) := by decide +kernel
theorem dX4_sum_23 : decode cX4_sum 23 = .ok (.goto (-19), 3) := by decide +kernel
theorem dX4_sum_26 : decode cX4_sum 26 = .ok (.iload_n 1, 1) := by decide +kernel
theorem dX4_sum_27 : decode cX4_sum 27 = .ok (.ireturn, 1) := by decide +kernel
theorem dX4_paidByAll_0 : decode cX4_paidByAll 0 = .ok (.iconst 0, 1) := by decide +kernel
theorem dX4_paidByAll_1 : decode cX4_paidByAll 1 = .ok (.istore_n 1, 1) := by decide +kernel
theorem dX4_paidByAll_2 : decode cX4_paidByAll 2 = .ok (.iconst 0, 1) := by decide +kernel
theorem dX4_paidByAll_3 : decode cX4_paidByAll 3 = .ok (.istore_n 2, 1) := by decide +kernel
theorem dX4_paidByAll_4 : decode cX4_paidByAll 4 = .ok (.iload_n 2, 1) := by decide +kernel
theorem dX4_paidByAll_5 : decode cX4_paidByAll 5 = .ok (.aload_n 0, 1) := by decide +kernel
theorem dX4_paidByAll_6 : decode cX4_paidByAll 6 = .ok (.getfield 9, 3) := by decide +kernel
theorem dX4_paidByAll_9 : decode cX4_paidByAll 9 = .ok (.if_icmp .ge 17, 3) := by decide +kernel
theorem dX4_paidByAll_12 : decode cX4_paidByAll 12 = .ok (.iload_n 1, 1) := by decide +kernel
theorem dX4_paidByAll_13 : decode cX4_paidByAll 13 = .ok (.aload_n 0, 1) := by decide +kernel
theorem dX4_paidByAll_14 : decode cX4_paidByAll 14 = .ok (.iload_n 2, 1) := by decide +kernel
theorem dX4_paidByAll_15 : decode cX4_paidByAll 15 = .ok (.invokevirtual 59, 3) := by decide +kernel
theorem dX4_paidByAll_18 : decode cX4_paidByAll 18 = .ok (.iadd, 1) := by decide +kernel
theorem dX4_paidByAll_19 : decode cX4_paidByAll 19 = .ok (.istore_n 1, 1) := by decide +kernel
theorem dX4_paidByAll_20 : decode cX4_paidByAll 20 = .ok (.iinc 2 1, 3) := by decide +kernel
theorem dX4_paidByAll_23 : decode cX4_paidByAll 23 = .ok (.goto (-19), 3) := by decide +kernel
theorem dX4_paidByAll_26 : decode cX4_paidByAll 26 = .ok (.iload_n 1, 1) := by decide +kernel
theorem dX4_paidByAll_27 : decode cX4_paidByAll 27 = .ok (.ireturn, 1) := by decide +kernel
theorem dX4_poorest_0 : decode cX4_poorest 0 = .ok (.iload_n 1, 1) := by decide +kernel
theorem dX4_poorest_1 : decode cX4_poorest 1 = .ok (.istore_n 2, 1) := by decide +kernel
theorem dX4_poorest_2 : decode cX4_poorest 2 = .ok (.iconst 1, 1) := by decide +kernel
theorem dX4_poorest_3 : decode cX4_poorest 3 = .ok (.istore_n 3, 1) := by decide +kernel
theorem dX4_poorest_4 : decode cX4_poorest 4 = .ok (.iload_n 3, 1) := by decide +kernel
theorem dX4_poorest_5 : decode cX4_poorest 5 = .ok (.aload_n 0, 1) := by decide +kernel
theorem dX4_poorest_6 : decode cX4_poorest 6 = .ok (.getfield 9, 3) := by decide +kernel
theorem dX4_poorest_9 : decode cX4_poorest 9 = .ok (.if_icmp .ge 34, 3) := by decide +kernel
theorem dX4_poorest_12 : decode cX4_poorest 12 = .ok (.aload_n 0, 1) := by decide +kernel
theorem dX4_poorest_13 : decode cX4_poorest 13 = .ok (.iload_n 1, 1) := by decide +kernel
theorem dX4_poorest_14 : decode cX4_poorest 14 = .ok (.iload_n 3, 1) := by decide +kernel
theorem dX4_poorest_15 : decode cX4_poorest 15 = .ok (.invokevirtual 62, 3) := by decide +kernel
theorem dX4_poorest_18 : decode cX4_poorest 18 = .ok (.istore 4, 2) := by decide +kernel
theorem dX4_poorest_20 : decode cX4_poorest 20 = .ok (.aload_n 0, 1) := by decide +kernel
theorem dX4_poorest_21 : decode cX4_poorest 21 = .ok (.iload 4, 2) := by decide +kernel
theorem dX4_poorest_23 : decode cX4_poorest 23 = .ok (.invokevirtual 45, 3) := by decide +kernel
theorem dX4_poorest_26 : decode cX4_poorest 26 = .ok (.aload_n 0, 1) := by decide +kernel
theorem dX4_poorest_27 : decode cX4_poorest 27 = .ok (.iload_n 2, 1) := by decide +kernel
theorem dX4_poorest_28 : decode cX4_poorest 28 = .ok (.invokevirtual 45, 3) := by decide +kernel
theorem dX4_poorest_31 : decode cX4_poorest 31 = .ok (.if_icmp .ge 6, 3) := by decide +kernel
theorem dX4_poorest_34 : decode cX4_poorest 34 = .ok (.iload 4, 2) := by decide +kernel
theorem dX4_poorest_36 : decode cX4_poorest 36 = .ok (.istore_n 2, 1) := by decide +kernel
theorem dX4_poorest_37 : decode cX4_poorest 37 = .ok (.iinc 3 1, 3) := by decide +kernel
theorem dX4_poorest_40 : decode cX4_poorest 40 = .ok (.goto (-36), 3) := by decide +kernel
theorem dX4_poorest_43 : decode cX4_poorest 43 = .ok (.iload_n 2, 1) := by decide +kernel
theorem dX4_poorest_44 : decode cX4_poorest 44 = .ok (.ireturn, 1) := by decide +kernel
theorem dX5_init_0 : decode cX5_init 0 = .ok (.aload_n 0, 1) := by decide +kernel
theorem dX5_init_1 : decode cX5_init 1 = .ok (.invokespecial 3, 3) := by decide +kernel
theorem dX5_init_4 : decode cX5_init 4 = .ok (.aload_n 0, 1) := by decide +kernel
theorem dX5_init_5 : decode cX5_init 5 = .ok (.sipush 1801, 3) := by decide +kernel
theorem dX5_init_8 : decode cX5_init 8 = .ok (.newarray .long, 2) := by decide +kernel
theorem dX5_init_10 : decode cX5_init 10 = .ok (.putfield 11, 3) := by decide +kernel
theorem dX5_init_13 : decode cX5_init 13 = .ok (.aload_n 0, 1) := by decide +kernel
theorem dX5_init_14 : decode cX5_init 14 = .ok (.sipush 1801, 3) := by decide +kernel
theorem dX5_init_17 : decode cX5_init 17 = .ok (.newarray .long, 2) := by decide +kernel
theorem dX5_init_19 : decode cX5_init 19 = .ok (.putfield 15, 3) := by decide +kernel
theorem dX5_init_22 : decode cX5_init 22 = .ok (.return_, 1) := by decide +kernel
theorem dX5_leastIn_0 : decode cX5_leastIn 0 = .ok (.aload_n 0, 1) := by decide +kernel
theorem dX5_leastIn_1 : decode cX5_leastIn 1 = .ok (.aload_n 1, 1) := by decide +kernel
theorem dX5_leastIn_2 : decode cX5_leastIn 2 = .ok (.iload_n 2, 1) := by decide +kernel
theorem dX5_leastIn_3 : decode cX5_leastIn 3 = .ok (.invokevirtual 18, 3) := by decide +kernel
theorem dX5_leastIn_6 : decode cX5_leastIn 6 = .ok (.aload_n 1, 1) := by decide +kernel
theorem dX5_leastIn_7 : decode cX5_leastIn 7 = .ok (.invokevirtual 22, 3) := by decide +kernel
theorem dX5_leastIn_10 : decode cX5_leastIn 10 = .ok (.istore_n 3, 1) := by decide +kernel
theorem dX5_leastIn_11 : decode cX5_leastIn 11 = .ok (.aload_n 1, 1) := by decide +kernel
theorem dX5_leastIn_12 : decode cX5_leastIn 12 = .ok (.iload_n 2, 1) := by decide +kernel
theorem dX5_leastIn_13 : decode cX5_leastIn 13 = .ok (.invokevirtual 28, 3) := by decide +kernel
theorem dX5_leastIn_16 : decode cX5_leastIn 16 = .ok (.istore 4, 2) := by decide +kernel
theorem dX5_leastIn_18 : decode cX5_leastIn 18 = .ok (.iload 4, 2) := by decide +kernel
theorem dX5_leastIn_20 : decode cX5_leastIn 20 = .ok (.istore 5, 2) := by decide +kernel
theorem dX5_leastIn_22 : decode cX5_leastIn 22 = .ok (.iload 5, 2) := by decide +kernel
theorem dX5_leastIn_24 : decode cX5_leastIn 24 = .ok (.aload_n 1, 1) := by decide +kernel
theorem dX5_leastIn_25 : decode cX5_leastIn 25 = .ok (.iload_n 2, 1) := by decide +kernel
theorem dX5_leastIn_26 : decode cX5_leastIn 26 = .ok (.invokevirtual 32, 3) := by decide +kernel
theorem dX5_leastIn_29 : decode cX5_leastIn 29 = .ok (.if_icmp .gt 25, 3) := by decide +kernel
theorem dX5_leastIn_32 : decode cX5_leastIn 32 = .ok (.aload_n 0, 1) := by decide +kernel
theorem dX5_leastIn_33 : decode cX5_leastIn 33 = .ok (.iload_n 3, 1) := by decide +kernel
theorem dX5_leastIn_34 : decode cX5_leastIn 34 = .ok (.iload 5, 2) := by decide +kernel
theorem dX5_leastIn_36 : decode cX5_leastIn 36 = .ok (.isub, 1) := by decide +kernel
theorem dX5_leastIn_37 : decode cX5_leastIn 37 = .ok (.invokevirtual 35, 3) := by decide +kernel
theorem dX5_leastIn_40 : decode cX5_leastIn 40 = .ok (.lconst 0, 1) := by decide +kernel
theorem dX5_leastIn_41 : decode cX5_leastIn 41 = .ok (.lcmp, 1) := by decide +kernel
theorem dX5_leastIn_42 : decode cX5_leastIn 42 = .ok (.ifCond .le 6, 3) := by decide +kernel
theorem dX5_leastIn_45 : decode cX5_leastIn 45 = .ok (.iload 5, 2) := by decide +kernel
theorem dX5_leastIn_47 : decode cX5_leastIn 47 = .ok (.ireturn, 1) := by decide +kernel
theorem dX5_leastIn_48 : decode cX5_leastIn 48 = .ok (.iinc 5 1, 3) := by decide +kernel
theorem dX5_leastIn_51 : decode cX5_leastIn 51 = .ok (.goto (-29), 3) := by decide +kernel
theorem dX5_leastIn_54 : decode cX5_leastIn 54 = .ok (.iload 4, 2) := by decide +kernel
theorem dX5_leastIn_56 : decode cX5_leastIn 56 = .ok (.ireturn, 1) := by decide +kernel
theorem dX5_greatestIn_0 : decode cX5_greatestIn 0 = .ok (.aload_n 0, 1) := by decide +kernel
theorem dX5_greatestIn_1 : decode cX5_greatestIn 1 = .ok (.aload_n 1, 1) := by decide +kernel
theorem dX5_greatestIn_2 : decode cX5_greatestIn 2 = .ok (.iload_n 2, 1) := by decide +kernel
theorem dX5_greatestIn_3 : decode cX5_greatestIn 3 = .ok (.invokevirtual 18, 3) := by decide +kernel
theorem dX5_greatestIn_6 : decode cX5_greatestIn 6 = .ok (.aload_n 1, 1) := by decide +kernel
theorem dX5_greatestIn_7 : decode cX5_greatestIn 7 = .ok (.invokevirtual 22, 3) := by decide +kernel
theorem dX5_greatestIn_10 : decode cX5_greatestIn 10 = .ok (.istore_n 3, 1) := by decide +kernel
theorem dX5_greatestIn_11 : decode cX5_greatestIn 11 = .ok (.aload_n 1, 1) := by decide +kernel
theorem dX5_greatestIn_12 : decode cX5_greatestIn 12 = .ok (.iload_n 2, 1) := by decide +kernel
theorem dX5_greatestIn_13 : decode cX5_greatestIn 13 = .ok (.invokevirtual 32, 3) := by decide +kernel
theorem dX5_greatestIn_16 : decode cX5_greatestIn 16 = .ok (.istore 4, 2) := by decide +kernel
theorem dX5_greatestIn_18 : decode cX5_greatestIn 18 = .ok (.iload 4, 2) := by decide +kernel
theorem dX5_greatestIn_20 : decode cX5_greatestIn 20 = .ok (.istore 5, 2) := by decide +kernel
theorem dX5_greatestIn_22 : decode cX5_greatestIn 22 = .ok (.iload 5, 2) := by decide +kernel
theorem dX5_greatestIn_24 : decode cX5_greatestIn 24 = .ok (.aload_n 1, 1) := by decide +kernel
theorem dX5_greatestIn_25 : decode cX5_greatestIn 25 = .ok (.iload_n 2, 1) := by decide +kernel
theorem dX5_greatestIn_26 : decode cX5_greatestIn 26 = .ok (.invokevirtual 28, 3) := by decide +kernel
theorem dX5_greatestIn_29 : decode cX5_greatestIn 29 = .ok (.if_icmp .lt 25, 3) := by decide +kernel
theorem dX5_greatestIn_32 : decode cX5_greatestIn 32 = .ok (.aload_n 0, 1) := by decide +kernel
theorem dX5_greatestIn_33 : decode cX5_greatestIn 33 = .ok (.iload_n 3, 1) := by decide +kernel
theorem dX5_greatestIn_34 : decode cX5_greatestIn 34 = .ok (.iload 5, 2) := by decide +kernel
theorem dX5_greatestIn_36 : decode cX5_greatestIn 36 = .ok (.isub, 1) := by decide +kernel
theorem dX5_greatestIn_37 : decode cX5_greatestIn 37 = .ok (.invokevirtual 35, 3) := by decide +kernel
theorem dX5_greatestIn_40 : decode cX5_greatestIn 40 = .ok (.lconst 0, 1) := by decide +kernel
theorem dX5_greatestIn_41 : decode cX5_greatestIn 41 = .ok (.lcmp, 1) := by decide +kernel
theorem dX5_greatestIn_42 : decode cX5_greatestIn 42 = .ok (.ifCond .le 6, 3) := by decide +kernel
theorem dX5_greatestIn_45 : decode cX5_greatestIn 45 = .ok (.iload 5, 2) := by decide +kernel
theorem dX5_greatestIn_47 : decode cX5_greatestIn 47 = .ok (.ireturn, 1) := by decide +kernel
theorem dX5_greatestIn_48 : decode cX5_greatestIn 48 = .ok (.iinc 5 (-1), 3) := by decide +kernel
theorem dX5_greatestIn_51 : decode cX5_greatestIn 51 = .ok (.goto (-29), 3) := by decide +kernel
theorem dX5_greatestIn_54 : decode cX5_greatestIn 54 = .ok (.iload 4, 2) := by decide +kernel
theorem dX5_greatestIn_56 : decode cX5_greatestIn 56 = .ok (.ireturn, 1) := by decide +kernel
theorem dX5_averageIn_0 : decode cX5_averageIn 0 = .ok (.aload_n 0, 1) := by decide +kernel
theorem dX5_averageIn_1 : decode cX5_averageIn 1 = .ok (.aload_n 1, 1) := by decide +kernel
theorem dX5_averageIn_2 : decode cX5_averageIn 2 = .ok (.iload_n 2, 1) := by decide +kernel
theorem dX5_averageIn_3 : decode cX5_averageIn 3 = .ok (.invokevirtual 18, 3) := by decide +kernel
theorem dX5_averageIn_6 : decode cX5_averageIn 6 = .ok (.aload_n 1, 1) := by decide +kernel
theorem dX5_averageIn_7 : decode cX5_averageIn 7 = .ok (.invokevirtual 22, 3) := by decide +kernel
theorem dX5_averageIn_10 : decode cX5_averageIn 10 = .ok (.istore_n 3, 1) := by decide +kernel
theorem dX5_averageIn_11 : decode cX5_averageIn 11 = .ok (.lconst 0, 1) := by decide +kernel
theorem dX5_averageIn_12 : decode cX5_averageIn 12 = .ok (.lstore 4, 2) := by decide +kernel
theorem dX5_averageIn_14 : decode cX5_averageIn 14 = .ok (.lconst 0, 1) := by decide +kernel
theorem dX5_averageIn_15 : decode cX5_averageIn 15 = .ok (.lstore 6, 2) := by decide +kernel
theorem dX5_averageIn_17 : decode cX5_averageIn 17 = .ok (.aload_n 1, 1) := by decide +kernel
theorem dX5_averageIn_18 : decode cX5_averageIn 18 = .ok (.iload_n 2, 1) := by decide +kernel
theorem dX5_averageIn_19 : decode cX5_averageIn 19 = .ok (.invokevirtual 28, 3) := by decide +kernel
theorem dX5_averageIn_22 : decode cX5_averageIn 22 = .ok (.istore 8, 2) := by decide +kernel
theorem dX5_averageIn_24 : decode cX5_averageIn 24 = .ok (.iload 8, 2) := by decide +kernel
theorem dX5_averageIn_26 : decode cX5_averageIn 26 = .ok (.aload_n 1, 1) := by decide +kernel
theorem dX5_averageIn_27 : decode cX5_averageIn 27 = .ok (.iload_n 2, 1) := by decide +kernel
theorem dX5_averageIn_28 : decode cX5_averageIn 28 = .ok (.invokevirtual 32, 3) := by decide +kernel
theorem dX5_averageIn_31 : decode cX5_averageIn 31 = .ok (.if_icmp .gt 37, 3) := by decide +kernel
theorem dX5_averageIn_34 : decode cX5_averageIn 34 = .ok (.aload_n 0, 1) := by decide +kernel
theorem dX5_averageIn_35 : decode cX5_averageIn 35 = .ok (.iload_n 3, 1) := by decide +kernel
theorem dX5_averageIn_36 : decode cX5_averageIn 36 = .ok (.iload 8, 2) := by decide +kernel
theorem dX5_averageIn_38 : decode cX5_averageIn 38 = .ok (.isub, 1) := by decide +kernel
theorem dX5_averageIn_39 : decode cX5_averageIn 39 = .ok (.invokevirtual 35, 3) := by decide +kernel
theorem dX5_averageIn_42 : decode cX5_averageIn 42 = .ok (.lstore 9, 2) := by decide +kernel
theorem dX5_averageIn_44 : decode cX5_averageIn 44 = .ok (.lload 4, 2) := by decide +kernel
theorem dX5_averageIn_46 : decode cX5_averageIn 46 = .ok (.lload 9, 2) := by decide +kernel
theorem dX5_averageIn_48 : decode cX5_averageIn 48 = .ok (.ladd, 1) := by decide +kernel
theorem dX5_averageIn_49 : decode cX5_averageIn 49 = .ok (.lstore 4, 2) := by decide +kernel
theorem dX5_averageIn_51 : decode cX5_averageIn 51 = .ok (.lload 6, 2) := by decide +kernel
theorem dX5_averageIn_53 : decode cX5_averageIn 53 = .ok (.lload 9, 2) := by decide +kernel
theorem dX5_averageIn_55 : decode cX5_averageIn 55 = .ok (.iload 8, 2) := by decide +kernel
theorem dX5_averageIn_57 : decode cX5_averageIn 57 = .ok (.i2l, 1) := by decide +kernel
theorem dX5_averageIn_58 : decode cX5_averageIn 58 = .ok (.lmul, 1) := by decide +kernel
theorem dX5_averageIn_59 : decode cX5_averageIn 59 = .ok (.ladd, 1) := by decide +kernel
theorem dX5_averageIn_60 : decode cX5_averageIn 60 = .ok (.lstore 6, 2) := by decide +kernel
theorem dX5_averageIn_62 : decode cX5_averageIn 62 = .ok (.iinc 8 1, 3) := by decide +kernel
theorem dX5_averageIn_65 : decode cX5_averageIn 65 = .ok (.goto (-41), 3) := by decide +kernel
theorem dX5_averageIn_68 : decode cX5_averageIn 68 = .ok (.lload 4, 2) := by decide +kernel
theorem dX5_averageIn_70 : decode cX5_averageIn 70 = .ok (.lconst 0, 1) := by decide +kernel
theorem dX5_averageIn_71 : decode cX5_averageIn 71 = .ok (.lcmp, 1) := by decide +kernel
theorem dX5_averageIn_72 : decode cX5_averageIn 72 = .ok (.ifCond .le 12, 3) := by decide +kernel
theorem dX5_averageIn_75 : decode cX5_averageIn 75 = .ok (.lload 6, 2) := by decide +kernel
theorem dX5_averageIn_77 : decode cX5_averageIn 77 = .ok (.lload 4, 2) := by decide +kernel
theorem dX5_averageIn_79 : decode cX5_averageIn 79 = .ok (.ldiv, 1) := by decide +kernel
theorem dX5_averageIn_80 : decode cX5_averageIn 80 = .ok (.l2i, 1) := by decide +kernel
theorem dX5_averageIn_81 : decode cX5_averageIn 81 = .ok (.goto 4, 3) := by decide +kernel
theorem dX5_averageIn_84 : decode cX5_averageIn 84 = .ok (.iconst 0, 1) := by decide +kernel
theorem dX5_averageIn_85 : decode cX5_averageIn 85 = .ok (.ireturn, 1) := by decide +kernel
theorem dX5_waysWith_0 : decode cX5_waysWith 0 = .ok (.aload_n 0, 1) := by decide +kernel
theorem dX5_waysWith_1 : decode cX5_waysWith 1 = .ok (.aload_n 1, 1) := by decide +kernel
theorem dX5_waysWith_2 : decode cX5_waysWith 2 = .ok (.iload_n 2, 1) := by decide +kernel
theorem dX5_waysWith_3 : decode cX5_waysWith 3 = .ok (.invokevirtual 18, 3) := by decide +kernel
theorem dX5_waysWith_6 : decode cX5_waysWith 6 = .ok (.aload_n 1, 1) := by decide +kernel
theorem dX5_waysWith_7 : decode cX5_waysWith 7 = .ok (.invokevirtual 22, 3) := by decide +kernel
theorem dX5_waysWith_10 : decode cX5_waysWith 10 = .ok (.istore 4, 2) := by decide +kernel
theorem dX5_waysWith_12 : decode cX5_waysWith 12 = .ok (.lconst 0, 1) := by decide +kernel
theorem dX5_waysWith_13 : decode cX5_waysWith 13 = .ok (.lstore 5, 2) := by decide +kernel
theorem dX5_waysWith_15 : decode cX5_waysWith 15 = .ok (.iload_n 3, 1) := by decide +kernel
theorem dX5_waysWith_16 : decode cX5_waysWith 16 = .ok (.aload_n 1, 1) := by decide +kernel
theorem dX5_waysWith_17 : decode cX5_waysWith 17 = .ok (.iload_n 2, 1) := by decide +kernel
theorem dX5_waysWith_18 : decode cX5_waysWith 18 = .ok (.invokevirtual 28, 3) := by decide +kernel
theorem dX5_waysWith_21 : decode cX5_waysWith 21 = .ok (.invokestatic 39, 3) := by decide +kernel
theorem dX5_waysWith_24 : decode cX5_waysWith 24 = .ok (.istore 7, 2) := by decide +kernel
theorem dX5_waysWith_26 : decode cX5_waysWith 26 = .ok (.iload 7, 2) := by decide +kernel
theorem dX5_waysWith_28 : decode cX5_waysWith 28 = .ok (.aload_n 1, 1) := by decide +kernel
theorem dX5_waysWith_29 : decode cX5_waysWith 29 = .ok (.iload_n 2, 1) := by decide +kernel
theorem dX5_waysWith_30 : decode cX5_waysWith 30 = .ok (.invokevirtual 32, 3) := by decide +kernel
theorem dX5_waysWith_33 : decode cX5_waysWith 33 = .ok (.if_icmp .gt 23, 3) := by decide +kernel
theorem dX5_waysWith_36 : decode cX5_waysWith 36 = .ok (.lload 5, 2) := by decide +kernel
theorem dX5_waysWith_38 : decode cX5_waysWith 38 = .ok (.aload_n 0, 1) := by decide +kernel
theorem dX5_waysWith_39 : decode cX5_waysWith 39 = .ok (.iload 4, 2) := by decide +kernel
theorem dX5_waysWith_41 : decode cX5_waysWith 41 = .ok (.iload 7, 2) := by decide +kernel
theorem dX5_waysWith_43 : decode cX5_waysWith 43 = .ok (.isub, 1) := by decide +kernel
theorem dX5_waysWith_44 : decode cX5_waysWith 44 = .ok (.invokevirtual 35, 3) := by decide +kernel
theorem dX5_waysWith_47 : decode cX5_waysWith 47 = .ok (.ladd, 1) := by decide +kernel
theorem dX5_waysWith_48 : decode cX5_waysWith 48 = .ok (.lstore 5, 2) := by decide +kernel
theorem dX5_waysWith_50 : decode cX5_waysWith 50 = .ok (.iinc 7 1, 3) := by decide +kernel
theorem dX5_waysWith_53 : decode cX5_waysWith 53 = .ok (.goto (-27), 3) := by decide +kernel
theorem dX5_waysWith_56 : decode cX5_waysWith 56 = .ok (.lload 5, 2) := by decide +kernel
theorem dX5_waysWith_58 : decode cX5_waysWith 58 = .ok (.lreturn, 1) := by decide +kernel
theorem dX5_takeInOthers_0 : decode cX5_takeInOthers 0 = .ok (.iconst 0, 1) := by decide +kernel
theorem dX5_takeInOthers_1 : decode cX5_takeInOthers 1 = .ok (.istore_n 3, 1) := by decide +kernel
theorem dX5_takeInOthers_2 : decode cX5_takeInOthers 2 = .ok (.iload_n 3, 1) := by decide +kernel
theorem dX5_takeInOthers_3 : decode cX5_takeInOthers 3 = .ok (.sipush 1801, 3) := by decide +kernel
theorem dX5_takeInOthers_6 : decode cX5_takeInOthers 6 = .ok (.if_icmp .ge 24, 3) := by decide +kernel
theorem dX5_takeInOthers_9 : decode cX5_takeInOthers 9 = .ok (.aload_n 0, 1) := by decide +kernel
theorem dX5_takeInOthers_10 : decode cX5_takeInOthers 10 = .ok (.getfield 11, 3) := by decide +kernel
theorem dX5_takeInOthers_13 : decode cX5_takeInOthers 13 = .ok (.iload_n 3, 1) := by decide +kernel
theorem dX5_takeInOthers_14 : decode cX5_takeInOthers 14 = .ok (.iload_n 3, 1) := by decide +kernel
theorem dX5_takeInOthers_15 : decode cX5_takeInOthers 15 = .ok (.ifCond .ne 7, 3) := by decide +kernel
theorem dX5_takeInOthers_18 : decode cX5_takeInOthers 18 = .ok (.lconst 1, 1) := by decide +kernel
theorem dX5_takeInOthers_19 : decode cX5_takeInOthers 19 = .ok (.goto 4, 3) := by decide +kernel
theorem dX5_takeInOthers_22 : decode cX5_takeInOthers 22 = .ok (.lconst 0, 1) := by decide +kernel
theorem dX5_takeInOthers_23 : decode cX5_takeInOthers 23 = .ok (.lastore, 1) := by decide +kernel
theorem dX5_takeInOthers_24 : decode cX5_takeInOthers 24 = .ok (.iinc 3 1, 3) := by decide +kernel
theorem dX5_takeInOthers_27 : decode cX5_takeInOthers 27 = .ok (.goto (-25), 3) := by decide +kernel
theorem dX5_takeInOthers_30 : decode cX5_takeInOthers 30 = .ok (.iconst 0, 1) := by decide +kernel
theorem dX5_takeInOthers_31 : decode cX5_takeInOthers 31 = .ok (.istore_n 3, 1) := by decide +kernel
theorem dX5_takeInOthers_32 : decode cX5_takeInOthers 32 = .ok (.iload_n 3, 1) := by decide +kernel
theorem dX5_takeInOthers_33 : decode cX5_takeInOthers 33 = .ok (.aload_n 1, 1) := by decide +kernel
theorem dX5_takeInOthers_34 : decode cX5_takeInOthers 34 = .ok (.getfield 45, 3) := by decide +kernel
theorem dX5_takeInOthers_37 : decode cX5_takeInOthers 37 = .ok (.if_icmp .ge 28, 3) := by decide +kernel
theorem dX5_takeInOthers_40 : decode cX5_takeInOthers 40 = .ok (.iload_n 3, 1) := by decide +kernel
theorem dX5_takeInOthers_41 : decode cX5_takeInOthers 41 = .ok (.iload_n 2, 1) := by decide +kernel
theorem dX5_takeInOthers_42 : decode cX5_takeInOthers 42 = .ok (.if_icmp .eq 17, 3) := by decide +kernel
theorem dX5_takeInOthers_45 : decode cX5_takeInOthers 45 = .ok (.aload_n 0, 1) := by decide +kernel
theorem dX5_takeInOthers_46 : decode cX5_takeInOthers 46 = .ok (.aload_n 1, 1) := by decide +kernel
theorem dX5_takeInOthers_47 : decode cX5_takeInOthers 47 = .ok (.iload_n 3, 1) := by decide +kernel
theorem dX5_takeInOthers_48 : decode cX5_takeInOthers 48 = .ok (.invokevirtual 28, 3) := by decide +kernel
theorem dX5_takeInOthers_51 : decode cX5_takeInOthers 51 = .ok (.aload_n 1, 1) := by decide +kernel
theorem dX5_takeInOthers_52 : decode cX5_takeInOthers 52 = .ok (.iload_n 3, 1) := by decide +kernel
theorem dX5_takeInOthers_53 : decode cX5_takeInOthers 53 = .ok (.invokevirtual 32, 3) := by decide +kernel
theorem dX5_takeInOthers_56 : decode cX5_takeInOthers 56 = .ok (.invokevirtual 49, 3) := by decide +kernel
theorem dX5_takeInOthers_59 : decode cX5_takeInOthers 59 = .ok (.iinc 3 1, 3) := by decide +kernel
theorem dX5_takeInOthers_62 : decode cX5_takeInOthers 62 = .ok (.goto (-30), 3) := by decide +kernel
theorem dX5_takeInOthers_65 : decode cX5_takeInOthers 65 = .ok (.return_, 1) := by decide +kernel
theorem dX5_takeIn_0 : decode cX5_takeIn 0 = .ok (.lconst 0, 1) := by decide +kernel
theorem dX5_takeIn_1 : decode cX5_takeIn 1 = .ok (.lstore_n 3, 1) := by decide +kernel
theorem dX5_takeIn_2 : decode cX5_takeIn 2 = .ok (.iconst 0, 1) := by decide +kernel
theorem dX5_takeIn_3 : decode cX5_takeIn 3 = .ok (.istore 5, 2) := by decide +kernel
theorem dX5_takeIn_5 : decode cX5_takeIn 5 = .ok (.iload 5, 2) := by decide +kernel
theorem dX5_takeIn_7 : decode cX5_takeIn 7 = .ok (.sipush 1801, 3) := by decide +kernel
theorem dX5_takeIn_10 : decode cX5_takeIn 10 = .ok (.if_icmp .ge 27, 3) := by decide +kernel
theorem dX5_takeIn_13 : decode cX5_takeIn 13 = .ok (.lload_n 3, 1) := by decide +kernel
theorem dX5_takeIn_14 : decode cX5_takeIn 14 = .ok (.aload_n 0, 1) := by decide +kernel
theorem dX5_takeIn_15 : decode cX5_takeIn 15 = .ok (.getfield 11, 3) := by decide +kernel
theorem dX5_takeIn_18 : decode cX5_takeIn 18 = .ok (.iload 5, 2) := by decide +kernel
theorem dX5_takeIn_20 : decode cX5_takeIn 20 = .ok (.laload, 1) := by decide +kernel
theorem dX5_takeIn_21 : decode cX5_takeIn 21 = .ok (.ladd, 1) := by decide +kernel
theorem dX5_takeIn_22 : decode cX5_takeIn 22 = .ok (.lstore_n 3, 1) := by decide +kernel
theorem dX5_takeIn_23 : decode cX5_takeIn 23 = .ok (.aload_n 0, 1) := by decide +kernel
theorem dX5_takeIn_24 : decode cX5_takeIn 24 = .ok (.getfield 15, 3) := by decide +kernel
theorem dX5_takeIn_27 : decode cX5_takeIn 27 = .ok (.iload 5, 2) := by decide +kernel
theorem dX5_takeIn_29 : decode cX5_takeIn 29 = .ok (.lload_n 3, 1) := by decide +kernel
theorem dX5_takeIn_30 : decode cX5_takeIn 30 = .ok (.lastore, 1) := by decide +kernel
theorem dX5_takeIn_31 : decode cX5_takeIn 31 = .ok (.iinc 5 1, 3) := by decide +kernel
theorem dX5_takeIn_34 : decode cX5_takeIn 34 = .ok (.goto (-29), 3) := by decide +kernel
theorem dX5_takeIn_37 : decode cX5_takeIn 37 = .ok (.iconst 0, 1) := by decide +kernel
theorem dX5_takeIn_38 : decode cX5_takeIn 38 = .ok (.istore 5, 2) := by decide +kernel
theorem dX5_takeIn_40 : decode cX5_takeIn 40 = .ok (.iload 5, 2) := by decide +kernel
theorem dX5_takeIn_42 : decode cX5_takeIn 42 = .ok (.sipush 1801, 3) := by decide +kernel
theorem dX5_takeIn_45 : decode cX5_takeIn 45 = .ok (.if_icmp .ge 35, 3) := by decide +kernel
theorem dX5_takeIn_48 : decode cX5_takeIn 48 = .ok (.aload_n 0, 1) := by decide +kernel
theorem dX5_takeIn_49 : decode cX5_takeIn 49 = .ok (.getfield 11, 3) := by decide +kernel
theorem dX5_takeIn_52 : decode cX5_takeIn 52 = .ok (.iload 5, 2) := by decide +kernel
theorem dX5_takeIn_54 : decode cX5_takeIn 54 = .ok (.aload_n 0, 1) := by decide +kernel
theorem dX5_takeIn_55 : decode cX5_takeIn 55 = .ok (.iload 5, 2) := by decide +kernel
theorem dX5_takeIn_57 : decode cX5_takeIn 57 = .ok (.iload_n 1, 1) := by decide +kernel
theorem dX5_takeIn_58 : decode cX5_takeIn 58 = .ok (.isub, 1) := by decide +kernel
theorem dX5_takeIn_59 : decode cX5_takeIn 59 = .ok (.invokevirtual 53, 3) := by decide +kernel
theorem dX5_takeIn_62 : decode cX5_takeIn 62 = .ok (.aload_n 0, 1) := by decide +kernel
theorem dX5_takeIn_63 : decode cX5_takeIn 63 = .ok (.iload 5, 2) := by decide +kernel
theorem dX5_takeIn_65 : decode cX5_takeIn 65 = .ok (.iload_n 2, 1) := by decide +kernel
theorem dX5_takeIn_66 : decode cX5_takeIn 66 = .ok (.isub, 1) := by decide +kernel
theorem dX5_takeIn_67 : decode cX5_takeIn 67 = .ok (.iconst 1, 1) := by decide +kernel
theorem dX5_takeIn_68 : decode cX5_takeIn 68 = .ok (.isub, 1) := by decide +kernel
theorem dX5_takeIn_69 : decode cX5_takeIn 69 = .ok (.invokevirtual 53, 3) := by decide +kernel
theorem dX5_takeIn_72 : decode cX5_takeIn 72 = .ok (.lsub, 1) := by decide +kernel
theorem dX5_takeIn_73 : decode cX5_takeIn 73 = .ok (.lastore, 1) := by decide +kernel
theorem dX5_takeIn_74 : decode cX5_takeIn 74 = .ok (.iinc 5 1, 3) := by decide +kernel
theorem dX5_takeIn_77 : decode cX5_takeIn 77 = .ok (.goto (-37), 3) := by decide +kernel
theorem dX5_takeIn_80 : decode cX5_takeIn 80 = .ok (.return_, 1) := by decide +kernel
theorem dX5_waysOf_0 : decode cX5_waysOf 0 = .ok (.iload_n 1, 1) := by decide +kernel
theorem dX5_waysOf_1 : decode cX5_waysOf 1 = .ok (.iconst 0, 1) := by decide +kernel
theorem dX5_waysOf_2 : decode cX5_waysOf 2 = .ok (.sipush 1800, 3) := by decide +kernel
theorem dX5_waysOf_5 : decode cX5_waysOf 5 = .ok (.invokestatic 56, 3) := by decide +kernel
theorem dX5_waysOf_8 : decode cX5_waysOf 8 = .ok (.ifCond .eq 12, 3) := by decide +kernel
theorem dX5_waysOf_11 : decode cX5_waysOf 11 = .ok (.aload_n 0, 1) := by decide +kernel
theorem dX5_waysOf_12 : decode cX5_waysOf 12 = .ok (.getfield 11, 3) := by decide +kernel
theorem dX5_waysOf_15 : decode cX5_waysOf 15 = .ok (.iload_n 1, 1) := by decide +kernel
theorem dX5_waysOf_16 : decode cX5_waysOf 16 = .ok (.laload, 1) := by decide +kernel
theorem dX5_waysOf_17 : decode cX5_waysOf 17 = .ok (.goto 4, 3) := by decide +kernel
theorem dX5_waysOf_20 : decode cX5_waysOf 20 = .ok (.lconst 0, 1) := by decide +kernel
theorem dX5_waysOf_21 : decode cX5_waysOf 21 = .ok (.lreturn, 1) := by decide +kernel
theorem dX5_waysUpTo_0 : decode cX5_waysUpTo 0 = .ok (.iload_n 1, 1) := by decide +kernel
theorem dX5_waysUpTo_1 : decode cX5_waysUpTo 1 = .ok (.iconst 0, 1) := by decide +kernel
theorem dX5_waysUpTo_2 : decode cX5_waysUpTo 2 = .ok (.sipush 1800, 3) := by decide +kernel
theorem dX5_waysUpTo_5 : decode cX5_waysUpTo 5 = .ok (.invokestatic 56, 3) := by decide +kernel
theorem dX5_waysUpTo_8 : decode cX5_waysUpTo 8 = .ok (.ifCond .eq 12, 3) := by decide +kernel
theorem dX5_waysUpTo_11 : decode cX5_waysUpTo 11 = .ok (.aload_n 0, 1) := by decide +kernel
theorem dX5_waysUpTo_12 : decode cX5_waysUpTo 12 = .ok (.getfield 15, 3) := by decide +kernel
theorem dX5_waysUpTo_15 : decode cX5_waysUpTo 15 = .ok (.iload_n 1, 1) := by decide +kernel
theorem dX5_waysUpTo_16 : decode cX5_waysUpTo 16 = .ok (.laload, 1) := by decide +kernel
theorem dX5_waysUpTo_17 : decode cX5_waysUpTo 17 = .ok (.goto 4, 3) := by decide +kernel
theorem dX5_waysUpTo_20 : decode cX5_waysUpTo 20 = .ok (.lconst 0, 1) := by decide +kernel
theorem dX5_waysUpTo_21 : decode cX5_waysUpTo 21 = .ok (.lreturn, 1) := by decide +kernel
theorem dX6_init_0 : decode cX6_init 0 = .ok (.aload_n 0, 1) := by decide +kernel
theorem dX6_init_1 : decode cX6_init 1 = .ok (.invokespecial 1, 3) := by decide +kernel
theorem dX6_init_4 : decode cX6_init 4 = .ok (.aload_n 0, 1) := by decide +kernel
theorem dX6_init_5 : decode cX6_init 5 = .ok (.new 7, 3) := by decide +kernel
theorem dX6_init_8 : decode cX6_init 8 = .ok (.dup, 1) := by decide +kernel
theorem dX6_init_9 : decode cX6_init 9 = .ok (.invokespecial 9, 3) := by decide +kernel
theorem dX6_init_12 : decode cX6_init 12 = .ok (.putfield 10, 3) := by decide +kernel
theorem dX6_init_15 : decode cX6_init 15 = .ok (.aload_n 0, 1) := by decide +kernel
theorem dX6_init_16 : decode cX6_init 16 = .ok (.new 7, 3) := by decide +kernel
theorem dX6_init_19 : decode cX6_init 19 = .ok (.dup, 1) := by decide +kernel
theorem dX6_init_20 : decode cX6_init 20 = .ok (.invokespecial 9, 3) := by decide +kernel
theorem dX6_init_23 : decode cX6_init 23 = .ok (.putfield 16, 3) := by decide +kernel
theorem dX6_init_26 : decode cX6_init 26 = .ok (.aload_n 0, 1) := by decide +kernel
theorem dX6_init_27 : decode cX6_init 27 = .ok (.iconst 2, 1) := by decide +kernel
theorem dX6_init_28 : decode cX6_init 28 = .ok (.anewarray 7, 3) := by decide +kernel
theorem dX6_init_31 : decode cX6_init 31 = .ok (.putfield 19, 3) := by decide +kernel
theorem dX6_init_34 : decode cX6_init 34 = .ok (.aload_n 0, 1) := by decide +kernel
theorem dX6_init_35 : decode cX6_init 35 = .ok (.new 23, 3) := by decide +kernel
theorem dX6_init_38 : decode cX6_init 38 = .ok (.dup, 1) := by decide +kernel
theorem dX6_init_39 : decode cX6_init 39 = .ok (.invokespecial 25, 3) := by decide +kernel
theorem dX6_init_42 : decode cX6_init 42 = .ok (.putfield 26, 3) := by decide +kernel
theorem dX6_init_45 : decode cX6_init 45 = .ok (.aload_n 0, 1) := by decide +kernel
theorem dX6_init_46 : decode cX6_init 46 = .ok (.new 30, 3) := by decide +kernel
theorem dX6_init_49 : decode cX6_init 49 = .ok (.dup, 1) := by decide +kernel
theorem dX6_init_50 : decode cX6_init 50 = .ok (.invokespecial 32, 3) := by decide +kernel
theorem dX6_init_53 : decode cX6_init 53 = .ok (.putfield 33, 3) := by decide +kernel
theorem dX6_init_56 : decode cX6_init 56 = .ok (.aload_n 0, 1) := by decide +kernel
theorem dX6_init_57 : decode cX6_init 57 = .ok (.getfield 10, 3) := by decide +kernel
theorem dX6_init_60 : decode cX6_init 60 = .ok (.iconst 3, 1) := by decide +kernel
theorem dX6_init_61 : decode cX6_init 61 = .ok (.invokevirtual 37, 3) := by decide +kernel
theorem dX6_init_64 : decode cX6_init 64 = .ok (.return_, 1) := by decide +kernel
theorem dX6_setUp_0 : decode cX6_setUp 0 = .ok (.iload_n 1, 1) := by decide +kernel
theorem dX6_setUp_1 : decode cX6_setUp 1 = .ok (.iconst 2, 1) := by decide +kernel
theorem dX6_setUp_2 : decode cX6_setUp 2 = .ok (.bipush 6, 2) := by decide +kernel
theorem dX6_setUp_4 : decode cX6_setUp 4 = .ok (.invokestatic 41, 3) := by decide +kernel
theorem dX6_setUp_7 : decode cX6_setUp 7 = .ok (.ifCond .ne 6, 3) := by decide +kernel
theorem dX6_setUp_10 : decode cX6_setUp 10 = .ok (.bipush (-2), 2) := by decide +kernel
theorem dX6_setUp_12 : decode cX6_setUp 12 = .ok (.ireturn, 1) := by decide +kernel
theorem dX6_setUp_13 : decode cX6_setUp 13 = .ok (.aload_n 0, 1) := by decide +kernel
theorem dX6_setUp_14 : decode cX6_setUp 14 = .ok (.getfield 10, 3) := by decide +kernel
theorem dX6_setUp_17 : decode cX6_setUp 17 = .ok (.getfield 45, 3) := by decide +kernel
theorem dX6_setUp_20 : decode cX6_setUp 20 = .ok (.getfield 49, 3) := by decide +kernel
theorem dX6_setUp_23 : decode cX6_setUp 23 = .ok (.istore_n 2, 1) := by decide +kernel
theorem dX6_setUp_24 : decode cX6_setUp 24 = .ok (.aload_n 0, 1) := by decide +kernel
theorem dX6_setUp_25 : decode cX6_setUp 25 = .ok (.getfield 10, 3) := by decide +kernel
theorem dX6_setUp_28 : decode cX6_setUp 28 = .ok (.iload_n 1, 1) := by decide +kernel
theorem dX6_setUp_29 : decode cX6_setUp 29 = .ok (.invokevirtual 37, 3) := by decide +kernel
theorem dX6_setUp_32 : decode cX6_setUp 32 = .ok (.iload_n 2, 1) := by decide +kernel
theorem dX6_setUp_33 : decode cX6_setUp 33 = .ok (.ireturn, 1) := by decide +kernel
theorem dX6_set_0 : decode cX6_set 0 = .ok (.iload_n 1, 1) := by decide +kernel
theorem dX6_set_1 : decode cX6_set 1 = .ok (.iload_n 2, 1) := by decide +kernel
theorem dX6_set_2 : decode cX6_set 2 = .ok (.invokestatic 55, 3) := by decide +kernel
theorem dX6_set_5 : decode cX6_set 5 = .ok (.ifCond .ne 6, 3) := by decide +kernel
theorem dX6_set_8 : decode cX6_set 8 = .ok (.bipush (-2), 2) := by decide +kernel
theorem dX6_set_10 : decode cX6_set 10 = .ok (.ireturn, 1) := by decide +kernel
theorem dX6_set_11 : decode cX6_set 11 = .ok (.aload_n 0, 1) := by decide +kernel
theorem dX6_set_12 : decode cX6_set 12 = .ok (.getfield 10, 3) := by decide +kernel
theorem dX6_set_15 : decode cX6_set 15 = .ok (.getfield 59, 3) := by decide +kernel
theorem dX6_set_18 : decode cX6_set 18 = .ok (.invokevirtual 63, 3) := by decide +kernel
theorem dX6_set_21 : decode cX6_set 21 = .ok (.ifCond .eq 6, 3) := by decide +kernel
theorem dX6_set_24 : decode cX6_set 24 = .ok (.bipush (-5), 2) := by decide +kernel
theorem dX6_set_26 : decode cX6_set 26 = .ok (.ireturn, 1) := by decide +kernel
theorem dX6_set_27 : decode cX6_set 27 = .ok (.aload_n 0, 1) := by decide +kernel
theorem dX6_set_28 : decode cX6_set 28 = .ok (.getfield 10, 3) := by decide +kernel
theorem dX6_set_31 : decode cX6_set 31 = .ok (.iload_n 1, 1) := by decide +kernel
theorem dX6_set_32 : decode cX6_set 32 = .ok (.iload_n 2, 1) := by decide +kernel
theorem dX6_set_33 : decode cX6_set 33 = .ok (.invokevirtual 69, 3) := by decide +kernel
theorem dX6_set_36 : decode cX6_set 36 = .ok (.ireturn, 1) := by decide +kernel
theorem dX6_fill_0 : decode cX6_fill 0 = .ok (.aload_n 0, 1) := by decide +kernel
theorem dX6_fill_1 : decode cX6_fill 1 = .ok (.getfield 10, 3) := by decide +kernel
theorem dX6_fill_4 : decode cX6_fill 4 = .ok (.getfield 45, 3) := by decide +kernel
theorem dX6_fill_7 : decode cX6_fill 7 = .ok (.iload_n 1, 1) := by decide +kernel
theorem dX6_fill_8 : decode cX6_fill 8 = .ok (.invokevirtual 73, 3) := by decide +kernel
theorem dX6_fill_11 : decode cX6_fill 11 = .ok (.ifCond .ne 5, 3) := by decide +kernel
theorem dX6_fill_14 : decode cX6_fill 14 = .ok (.iconst (-1), 1) := by decide +kernel
theorem dX6_fill_15 : decode cX6_fill 15 = .ok (.ireturn, 1) := by decide +kernel
theorem dX6_fill_16 : decode cX6_fill 16 = .ok (.iload_n 2, 1) := by decide +kernel
theorem dX6_fill_17 : decode cX6_fill 17 = .ok (.iconst 0, 1) := by decide +kernel
theorem dX6_fill_18 : decode cX6_fill 18 = .ok (.sipush 300, 3) := by decide +kernel
theorem dX6_fill_21 : decode cX6_fill 21 = .ok (.invokestatic 41, 3) := by decide +kernel
theorem dX6_fill_24 : decode cX6_fill 24 = .ok (.ifCond .ne 6, 3) := by decide +kernel
theorem dX6_fill_27 : decode cX6_fill 27 = .ok (.bipush (-2), 2) := by decide +kernel
theorem dX6_fill_29 : decode cX6_fill 29 = .ok (.ireturn, 1) := by decide +kernel
theorem dX6_fill_30 : decode cX6_fill 30 = .ok (.aload_n 0, 1) := by decide +kernel
theorem dX6_fill_31 : decode cX6_fill 31 = .ok (.getfield 10, 3) := by decide +kernel
theorem dX6_fill_34 : decode cX6_fill 34 = .ok (.invokevirtual 77, 3) := by decide +kernel
theorem dX6_fill_37 : decode cX6_fill 37 = .ok (.ifCond .ne 6, 3) := by decide +kernel
theorem dX6_fill_40 : decode cX6_fill 40 = .ok (.bipush (-5), 2) := by decide +kernel
theorem dX6_fill_42 : decode cX6_fill 42 = .ok (.ireturn, 1) := by decide +kernel
theorem dX6_fill_43 : decode cX6_fill 43 = .ok (.aload_n 0, 1) := by decide +kernel
theorem dX6_fill_44 : decode cX6_fill 44 = .ok (.getfield 10, 3) := by decide +kernel
theorem dX6_fill_47 : decode cX6_fill 47 = .ok (.getfield 45, 3) := by decide +kernel
theorem dX6_fill_50 : decode cX6_fill 50 = .ok (.iload_n 1, 1) := by decide +kernel
theorem dX6_fill_51 : decode cX6_fill 51 = .ok (.iload_n 2, 1) := by decide +kernel
theorem dX6_fill_52 : decode cX6_fill 52 = .ok (.invokevirtual 80, 3) := by decide +kernel
theorem dX6_fill_55 : decode cX6_fill 55 = .ok (.ireturn, 1) := by decide +kernel
theorem dX6_embolden_0 : decode cX6_embolden 0 = .ok (.aload_n 0, 1) := by decide +kernel
theorem dX6_embolden_1 : decode cX6_embolden 1 = .ok (.getfield 10, 3) := by decide +kernel
theorem dX6_embolden_4 : decode cX6_embolden 4 = .ok (.getfield 45, 3) := by decide +kernel
theorem dX6_embolden_7 : decode cX6_embolden 7 = .ok (.iload_n 1, 1) := by decide +kernel
theorem dX6_embolden_8 : decode cX6_embolden 8 = .ok (.invokevirtual 73, 3) := by decide +kernel
theorem dX6_embolden_11 : decode cX6_embolden 11 = .ok (.ifCond .ne 5, 3) := by decide +kernel
theorem dX6_embolden_14 : decode cX6_embolden 14 = .ok (.iconst (-1), 1) := by decide +kernel
theorem dX6_embolden_15 : decode cX6_embolden 15 = .ok (.ireturn, 1) := by decide +kernel
theorem dX6_embolden_16 : decode cX6_embolden 16 = .ok (.iload_n 2, 1) := by decide +kernel
theorem dX6_embolden_17 : decode cX6_embolden 17 = .ok (.iconst 0, 1) := by decide +kernel
theorem dX6_embolden_18 : decode cX6_embolden 18 = .ok (.bipush 30, 2) := by decide +kernel
theorem dX6_embolden_20 : decode cX6_embolden 20 = .ok (.invokestatic 41, 3) := by decide +kernel
theorem dX6_embolden_23 : decode cX6_embolden 23 = .ok (.ifCond .ne 6, 3) := by decide +kernel
theorem dX6_embolden_26 : decode cX6_embolden 26 = .ok (.bipush (-2), 2) := by decide +kernel
theorem dX6_embolden_28 : decode cX6_embolden 28 = .ok (.ireturn, 1) := by decide +kernel
theorem dX6_embolden_29 : decode cX6_embolden 29 = .ok (.aload_n 0, 1) := by decide +kernel
theorem dX6_embolden_30 : decode cX6_embolden 30 = .ok (.getfield 10, 3) := by decide +kernel
theorem dX6_embolden_33 : decode cX6_embolden 33 = .ok (.getfield 45, 3) := by decide +kernel
theorem dX6_embolden_36 : decode cX6_embolden 36 = .ok (.iload_n 1, 1) := by decide +kernel
theorem dX6_embolden_37 : decode cX6_embolden 37 = .ok (.iload_n 2, 1) := by decide +kernel
theorem dX6_embolden_38 : decode cX6_embolden 38 = .ok (.invokevirtual 83, 3) := by decide +kernel
theorem dX6_embolden_41 : decode cX6_embolden 41 = .ok (.ireturn, 1) := by decide +kernel
theorem dX6_lot_0 : decode cX6_lot 0 = .ok (.iload_n 1, 1) := by decide +kernel
theorem dX6_lot_1 : decode cX6_lot 1 = .ok (.iconst 0, 1) := by decide +kernel
theorem dX6_lot_2 : decode cX6_lot 2 = .ok (.iconst 5, 1) := by decide +kernel
theorem dX6_lot_3 : decode cX6_lot 3 = .ok (.invokestatic 41, 3) := by decide +kernel
theorem dX6_lot_6 : decode cX6_lot 6 = .ok (.ifCond .eq 13, 3) := by decide +kernel
theorem dX6_lot_9 : decode cX6_lot 9 = .ok (.iload_n 2, 1) := by decide +kernel
theorem dX6_lot_10 : decode cX6_lot 10 = .ok (.iconst 1, 1) := by decide +kernel
theorem dX6_lot_11 : decode cX6_lot 11 = .ok (.bipush 50, 2) := by decide +kernel
theorem dX6_lot_13 : decode cX6_lot 13 = .ok (.invokestatic 41, 3) := by decide +kernel
theorem dX6_lot_16 : decode cX6_lot 16 = .ok (.ifCond .ne 6, 3) := by decide +kernel
theorem dX6_lot_19 : decode cX6_lot 19 = .ok (.bipush (-2), 2) := by decide +kernel
theorem dX6_lot_21 : decode cX6_lot 21 = .ok (.ireturn, 1) := by decide +kernel
theorem dX6_lot_22 : decode cX6_lot 22 = .ok (.aload_n 0, 1) := by decide +kernel
theorem dX6_lot_23 : decode cX6_lot 23 = .ok (.getfield 10, 3) := by decide +kernel
theorem dX6_lot_26 : decode cX6_lot 26 = .ok (.getfield 86, 3) := by decide +kernel
theorem dX6_lot_29 : decode cX6_lot 29 = .ok (.invokevirtual 90, 3) := by decide +kernel
theorem dX6_lot_32 : decode cX6_lot 32 = .ok (.ifCond .eq 6, 3) := by decide +kernel
theorem dX6_lot_35 : decode cX6_lot 35 = .ok (.bipush (-4), 2) := by decide +kernel
theorem dX6_lot_37 : decode cX6_lot 37 = .ok (.ireturn, 1) := by decide +kernel
theorem dX6_lot_38 : decode cX6_lot 38 = .ok (.aload_n 0, 1) := by decide +kernel
theorem dX6_lot_39 : decode cX6_lot 39 = .ok (.getfield 10, 3) := by decide +kernel
theorem dX6_lot_42 : decode cX6_lot 42 = .ok (.invokevirtual 77, 3) := by decide +kernel
theorem dX6_lot_45 : decode cX6_lot 45 = .ok (.ifCond .ne 6, 3) := by decide +kernel
theorem dX6_lot_48 : decode cX6_lot 48 = .ok (.bipush (-5), 2) := by decide +kernel
theorem dX6_lot_50 : decode cX6_lot 50 = .ok (.ireturn, 1) := by decide +kernel
theorem dX6_lot_51 : decode cX6_lot 51 = .ok (.aload_n 0, 1) := by decide +kernel
theorem dX6_lot_52 : decode cX6_lot 52 = .ok (.getfield 10, 3) := by decide +kernel
theorem dX6_lot_55 : decode cX6_lot 55 = .ok (.getfield 86, 3) := by decide +kernel
theorem dX6_lot_58 : decode cX6_lot 58 = .ok (.iload_n 1, 1) := by decide +kernel
theorem dX6_lot_59 : decode cX6_lot 59 = .ok (.iload_n 2, 1) := by decide +kernel
theorem dX6_lot_60 : decode cX6_lot 60 = .ok (.invokevirtual 95, 3) := by decide +kernel
theorem dX6_lot_63 : decode cX6_lot 63 = .ok (.ireturn, 1) := by decide +kernel
theorem dX6_begin_0 : decode cX6_begin 0 = .ok (.aload_n 0, 1) := by decide +kernel
theorem dX6_begin_1 : decode cX6_begin 1 = .ok (.getfield 10, 3) := by decide +kernel
theorem dX6_begin_4 : decode cX6_begin 4 = .ok (.iload_n 1, 1) := by decide +kernel
theorem dX6_begin_5 : decode cX6_begin 5 = .ok (.iload_n 2, 1) := by decide +kernel
theorem dX6_begin_6 : decode cX6_begin 6 = .ok (.invokevirtual 98, 3) := by decide +kernel
theorem dX6_begin_9 : decode cX6_begin 9 = .ok (.ireturn, 1) := by decide +kernel
theorem dX6_bid_0 : decode cX6_bid 0 = .ok (.aload_n 0, 1) := by decide +kernel
theorem dX6_bid_1 : decode cX6_bid 1 = .ok (.getfield 10, 3) := by decide +kernel
theorem dX6_bid_4 : decode cX6_bid 4 = .ok (.iload_n 1, 1) := by decide +kernel
theorem dX6_bid_5 : decode cX6_bid 5 = .ok (.iload_n 2, 1) := by decide +kernel
theorem dX6_bid_6 : decode cX6_bid 6 = .ok (.invokevirtual 101, 3) := by decide +kernel
theorem dX6_bid_9 : decode cX6_bid 9 = .ok (.ireturn, 1) := by decide +kernel
theorem dX6_pass_0 : decode cX6_pass 0 = .ok (.aload_n 0, 1) := by decide +kernel
theorem dX6_pass_1 : decode cX6_pass 1 = .ok (.getfield 10, 3) := by decide +kernel
theorem dX6_pass_4 : decode cX6_pass 4 = .ok (.iload_n 1, 1) := by decide +kernel
theorem dX6_pass_5 : decode cX6_pass 5 = .ok (.invokevirtual 104, 3) := by decide +kernel
theorem dX6_pass_8 : decode cX6_pass 8 = .ok (.ireturn, 1) := by decide +kernel
theorem dX6_move_0 : decode cX6_move 0 = .ok (.aload_n 0, 1) := by decide +kernel
theorem dX6_move_1 : decode cX6_move 1 = .ok (.getfield 10, 3) := by decide +kernel
theorem dX6_move_4 : decode cX6_move 4 = .ok (.invokevirtual 108, 3) := by decide +kernel
theorem dX6_move_7 : decode cX6_move 7 = .ok (.ireturn, 1) := by decide +kernel
theorem dX6_last_0 : decode cX6_last 0 = .ok (.aload_n 0, 1) := by decide +kernel
theorem dX6_last_1 : decode cX6_last 1 = .ok (.getfield 10, 3) := by decide +kernel
theorem dX6_last_4 : decode cX6_last 4 = .ok (.invokevirtual 112, 3) := by decide +kernel
theorem dX6_last_7 : decode cX6_last 7 = .ok (.ireturn, 1) := by decide +kernel
theorem dX6_ask_0 : decode cX6_ask 0 = .ok (.aload_n 0, 1) := by decide +kernel
theorem dX6_ask_1 : decode cX6_ask 1 = .ok (.getfield 10, 3) := by decide +kernel
theorem dX6_ask_4 : decode cX6_ask 4 = .ok (.getfield 45, 3) := by decide +kernel
theorem dX6_ask_7 : decode cX6_ask 7 = .ok (.iload_n 1, 1) := by decide +kernel
theorem dX6_ask_8 : decode cX6_ask 8 = .ok (.invokevirtual 73, 3) := by decide +kernel
theorem dX6_ask_11 : decode cX6_ask 11 = .ok (.ifCond .ne 5, 3) := by decide +kernel
theorem dX6_ask_14 : decode cX6_ask 14 = .ok (.iconst (-1), 1) := by decide +kernel
theorem dX6_ask_15 : decode cX6_ask 15 = .ok (.ireturn, 1) := by decide +kernel
theorem dX6_ask_16 : decode cX6_ask 16 = .ok (.iload_n 2, 1) := by decide +kernel
theorem dX6_ask_17 : decode cX6_ask 17 = .ok (.iconst 1, 1) := by decide +kernel
theorem dX6_ask_18 : decode cX6_ask 18 = .ok (.sipush 300, 3) := by decide +kernel
theorem dX6_ask_21 : decode cX6_ask 21 = .ok (.invokestatic 41, 3) := by decide +kernel
theorem dX6_ask_24 : decode cX6_ask 24 = .ok (.ifCond .ne 6, 3) := by decide +kernel
theorem dX6_ask_27 : decode cX6_ask 27 = .ok (.bipush (-2), 2) := by decide +kernel
theorem dX6_ask_29 : decode cX6_ask 29 = .ok (.ireturn, 1) := by decide +kernel
theorem dX6_ask_30 : decode cX6_ask 30 = .ok (.aload_n 0, 1) := by decide +kernel
theorem dX6_ask_31 : decode cX6_ask 31 = .ok (.getfield 10, 3) := by decide +kernel
theorem dX6_ask_34 : decode cX6_ask 34 = .ok (.getfield 59, 3) := by decide +kernel
theorem dX6_ask_37 : decode cX6_ask 37 = .ok (.invokevirtual 63, 3) := by decide +kernel
theorem dX6_ask_40 : decode cX6_ask 40 = .ok (.ifCond .eq 6, 3) := by decide +kernel
theorem dX6_ask_43 : decode cX6_ask 43 = .ok (.bipush (-5), 2) := by decide +kernel
theorem dX6_ask_45 : decode cX6_ask 45 = .ok (.ireturn, 1) := by decide +kernel
theorem dX6_ask_46 : decode cX6_ask 46 = .ok (.aload_n 0, 1) := by decide +kernel
theorem dX6_ask_47 : decode cX6_ask 47 = .ok (.getfield 10, 3) := by decide +kernel
theorem dX6_ask_50 : decode cX6_ask 50 = .ok (.getfield 45, 3) := by decide +kernel
theorem dX6_ask_53 : decode cX6_ask 53 = .ok (.iload_n 1, 1) := by decide +kernel
theorem dX6_ask_54 : decode cX6_ask 54 = .ok (.iload_n 2, 1) := by decide +kernel
theorem dX6_ask_55 : decode cX6_ask 55 = .ok (.invokevirtual 115, 3) := by decide +kernel
theorem dX6_ask_58 : decode cX6_ask 58 = .ok (.ifCond .eq 7, 3) := by decide +kernel
theorem dX6_ask_61 : decode cX6_ask 61 = .ok (.iconst 1, 1) := by decide +kernel
theorem dX6_ask_62 : decode cX6_ask 62 = .ok (.goto 4, 3) := by decide +kernel
theorem dX6_ask_65 : decode cX6_ask 65 = .ok (.iconst 0, 1) := by decide +kernel
theorem dX6_ask_66 : decode cX6_ask 66 = .ok (.ireturn, 1) := by decide +kernel
theorem dX6_player_0 : decode cX6_player 0 = .ok (.aload_n 0, 1) := by decide +kernel
theorem dX6_player_1 : decode cX6_player 1 = .ok (.getfield 10, 3) := by decide +kernel
theorem dX6_player_4 : decode cX6_player 4 = .ok (.getfield 45, 3) := by decide +kernel
theorem dX6_player_7 : decode cX6_player 7 = .ok (.iload_n 1, 1) := by decide +kernel
theorem dX6_player_8 : decode cX6_player 8 = .ok (.invokevirtual 73, 3) := by decide +kernel
theorem dX6_player_11 : decode cX6_player 11 = .ok (.ifCond .ne 5, 3) := by decide +kernel
theorem dX6_player_14 : decode cX6_player 14 = .ok (.iconst (-1), 1) := by decide +kernel
theorem dX6_player_15 : decode cX6_player 15 = .ok (.ireturn, 1) := by decide +kernel
theorem dX6_player_16 : decode cX6_player 16 = .ok (.iload_n 2, 1) := by decide +kernel
theorem dX6_player_17 : decode cX6_player 17 = .ok (.tableswitch 171 0 9 #[55, 67, 79, 91, 100, 109, 118, 130, 139, 151], 55) := by decide +kernel
theorem dX6_player_72 : decode cX6_player 72 = .ok (.aload_n 0, 1) := by decide +kernel
theorem dX6_player_73 : decode cX6_player 73 = .ok (.getfield 10, 3) := by decide +kernel
theorem dX6_player_76 : decode cX6_player 76 = .ok (.getfield 45, 3) := by decide +kernel
theorem dX6_player_79 : decode cX6_player 79 = .ok (.iload_n 1, 1) := by decide +kernel
theorem dX6_player_80 : decode cX6_player 80 = .ok (.invokevirtual 118, 3) := by decide +kernel
theorem dX6_player_83 : decode cX6_player 83 = .ok (.ireturn, 1) := by decide +kernel
theorem dX6_player_84 : decode cX6_player 84 = .ok (.aload_n 0, 1) := by decide +kernel
theorem dX6_player_85 : decode cX6_player 85 = .ok (.getfield 10, 3) := by decide +kernel
theorem dX6_player_88 : decode cX6_player 88 = .ok (.getfield 45, 3) := by decide +kernel
theorem dX6_player_91 : decode cX6_player 91 = .ok (.iload_n 1, 1) := by decide +kernel
theorem dX6_player_92 : decode cX6_player 92 = .ok (.invokevirtual 121, 3) := by decide +kernel
theorem dX6_player_95 : decode cX6_player 95 = .ok (.ireturn, 1) := by decide +kernel
theorem dX6_player_96 : decode cX6_player 96 = .ok (.aload_n 0, 1) := by decide +kernel
theorem dX6_player_97 : decode cX6_player 97 = .ok (.getfield 10, 3) := by decide +kernel
theorem dX6_player_100 : decode cX6_player 100 = .ok (.getfield 45, 3) := by decide +kernel
theorem dX6_player_103 : decode cX6_player 103 = .ok (.iload_n 1, 1) := by decide +kernel
theorem dX6_player_104 : decode cX6_player 104 = .ok (.invokevirtual 124, 3) := by decide +kernel
theorem dX6_player_107 : decode cX6_player 107 = .ok (.ireturn, 1) := by decide +kernel
theorem dX6_player_108 : decode cX6_player 108 = .ok (.aload_n 0, 1) := by decide +kernel
theorem dX6_player_109 : decode cX6_player 109 = .ok (.getfield 10, 3) := by decide +kernel
theorem dX6_player_112 : decode cX6_player 112 = .ok (.iload_n 1, 1) := by decide +kernel
theorem dX6_player_113 : decode cX6_player 113 = .ok (.invokevirtual 127, 3) := by decide +kernel
theorem dX6_player_116 : decode cX6_player 116 = .ok (.ireturn, 1) := by decide +kernel
theorem dX6_player_117 : decode cX6_player 117 = .ok (.aload_n 0, 1) := by decide +kernel
theorem dX6_player_118 : decode cX6_player 118 = .ok (.getfield 10, 3) := by decide +kernel
theorem dX6_player_121 : decode cX6_player 121 = .ok (.iload_n 1, 1) := by decide +kernel
theorem dX6_player_122 : decode cX6_player 122 = .ok (.invokevirtual 130, 3) := by decide +kernel
theorem dX6_player_125 : decode cX6_player 125 = .ok (.ireturn, 1) := by decide +kernel
theorem dX6_player_126 : decode cX6_player 126 = .ok (.aload_n 0, 1) := by decide +kernel
theorem dX6_player_127 : decode cX6_player 127 = .ok (.getfield 10, 3) := by decide +kernel
theorem dX6_player_130 : decode cX6_player 130 = .ok (.iload_n 1, 1) := by decide +kernel
theorem dX6_player_131 : decode cX6_player 131 = .ok (.invokevirtual 133, 3) := by decide +kernel
theorem dX6_player_134 : decode cX6_player 134 = .ok (.ireturn, 1) := by decide +kernel
theorem dX6_player_135 : decode cX6_player 135 = .ok (.aload_n 0, 1) := by decide +kernel
theorem dX6_player_136 : decode cX6_player 136 = .ok (.getfield 10, 3) := by decide +kernel
theorem dX6_player_139 : decode cX6_player 139 = .ok (.getfield 86, 3) := by decide +kernel
theorem dX6_player_142 : decode cX6_player 142 = .ok (.iload_n 1, 1) := by decide +kernel
theorem dX6_player_143 : decode cX6_player 143 = .ok (.invokevirtual 136, 3) := by decide +kernel
theorem dX6_player_146 : decode cX6_player 146 = .ok (.ireturn, 1) := by decide +kernel
theorem dX6_player_147 : decode cX6_player 147 = .ok (.aload_n 0, 1) := by decide +kernel
theorem dX6_player_148 : decode cX6_player 148 = .ok (.getfield 10, 3) := by decide +kernel
theorem dX6_player_151 : decode cX6_player 151 = .ok (.iload_n 1, 1) := by decide +kernel
theorem dX6_player_152 : decode cX6_player 152 = .ok (.invokevirtual 139, 3) := by decide +kernel
theorem dX6_player_155 : decode cX6_player 155 = .ok (.ireturn, 1) := by decide +kernel
theorem dX6_player_156 : decode cX6_player 156 = .ok (.aload_n 0, 1) := by decide +kernel
theorem dX6_player_157 : decode cX6_player 157 = .ok (.getfield 10, 3) := by decide +kernel
theorem dX6_player_160 : decode cX6_player 160 = .ok (.getfield 59, 3) := by decide +kernel
theorem dX6_player_163 : decode cX6_player 163 = .ok (.iload_n 1, 1) := by decide +kernel
theorem dX6_player_164 : decode cX6_player 164 = .ok (.invokevirtual 142, 3) := by decide +kernel
theorem dX6_player_167 : decode cX6_player 167 = .ok (.ireturn, 1) := by decide +kernel
theorem dX6_player_168 : decode cX6_player 168 = .ok (.aload_n 0, 1) := by decide +kernel
theorem dX6_player_169 : decode cX6_player 169 = .ok (.getfield 10, 3) := by decide +kernel
theorem dX6_player_172 : decode cX6_player 172 = .ok (.getfield 59, 3) := by decide +kernel
theorem dX6_player_175 : decode cX6_player 175 = .ok (.iload_n 1, 1) := by decide +kernel
theorem dX6_player_176 : decode cX6_player 176 = .ok (.invokevirtual 145, 3) := by decide +kernel
theorem dX6_player_179 : decode cX6_player 179 = .ok (.ifCond .eq 7, 3) := by decide +kernel
theorem dX6_player_182 : decode cX6_player 182 = .ok (.iconst 1, 1) := by decide +kernel
theorem dX6_player_183 : decode cX6_player 183 = .ok (.goto 4, 3) := by decide +kernel
theorem dX6_player_186 : decode cX6_player 186 = .ok (.iconst 0, 1) := by decide +kernel
theorem dX6_player_187 : decode cX6_player 187 = .ok (.ireturn, 1) := by decide +kernel
theorem dX6_player_188 : decode cX6_player 188 = .ok (.bipush (-2), 2) := by decide +kernel
theorem dX6_player_190 : decode cX6_player 190 = .ok (.ireturn, 1) := by decide +kernel
theorem dX6_about_0 : decode cX6_about 0 = .ok (.aload_n 0, 1) := by decide +kernel
theorem dX6_about_1 : decode cX6_about 1 = .ok (.getfield 10, 3) := by decide +kernel
theorem dX6_about_4 : decode cX6_about 4 = .ok (.getfield 86, 3) := by decide +kernel
theorem dX6_about_7 : decode cX6_about 7 = .ok (.astore_n 3, 1) := by decide +kernel
theorem dX6_about_8 : decode cX6_about 8 = .ok (.aload_n 3, 1) := by decide +kernel
theorem dX6_about_9 : decode cX6_about 9 = .ok (.iload_n 1, 1) := by decide +kernel
theorem dX6_about_10 : decode cX6_about 10 = .ok (.invokevirtual 148, 3) := by decide +kernel
theorem dX6_about_13 : decode cX6_about 13 = .ok (.ifCond .ne 5, 3) := by decide +kernel
theorem dX6_about_16 : decode cX6_about 16 = .ok (.iconst (-1), 1) := by decide +kernel
theorem dX6_about_17 : decode cX6_about 17 = .ok (.ireturn, 1) := by decide +kernel
theorem dX6_about_18 : decode cX6_about 18 = .ok (.iload_n 2, 1) := by decide +kernel
theorem dX6_about_19 : decode cX6_about 19 = .ok (.tableswitch 63 0 4 #[33, 39, 45, 51, 57], 33) := by decide +kernel
theorem dX6_about_52 : decode cX6_about 52 = .ok (.aload_n 3, 1) := by decide +kernel
theorem dX6_about_53 : decode cX6_about 53 = .ok (.iload_n 1, 1) := by decide +kernel
theorem dX6_about_54 : decode cX6_about 54 = .ok (.invokevirtual 151, 3) := by decide +kernel
theorem dX6_about_57 : decode cX6_about 57 = .ok (.ireturn, 1) := by decide +kernel
theorem dX6_about_58 : decode cX6_about 58 = .ok (.aload_n 3, 1) := by decide +kernel
theorem dX6_about_59 : decode cX6_about 59 = .ok (.iload_n 1, 1) := by decide +kernel
theorem dX6_about_60 : decode cX6_about 60 = .ok (.invokevirtual 154, 3) := by decide +kernel
theorem dX6_about_63 : decode cX6_about 63 = .ok (.ireturn, 1) := by decide +kernel
theorem dX6_about_64 : decode cX6_about 64 = .ok (.aload_n 3, 1) := by decide +kernel
theorem dX6_about_65 : decode cX6_about 65 = .ok (.iload_n 1, 1) := by decide +kernel
theorem dX6_about_66 : decode cX6_about 66 = .ok (.invokevirtual 157, 3) := by decide +kernel
theorem dX6_about_69 : decode cX6_about 69 = .ok (.ireturn, 1) := by decide +kernel
theorem dX6_about_70 : decode cX6_about 70 = .ok (.aload_n 3, 1) := by decide +kernel
theorem dX6_about_71 : decode cX6_about 71 = .ok (.iload_n 1, 1) := by decide +kernel
theorem dX6_about_72 : decode cX6_about 72 = .ok (.invokevirtual 160, 3) := by decide +kernel
theorem dX6_about_75 : decode cX6_about 75 = .ok (.ireturn, 1) := by decide +kernel
theorem dX6_about_76 : decode cX6_about 76 = .ok (.aload_n 3, 1) := by decide +kernel
theorem dX6_about_77 : decode cX6_about 77 = .ok (.iload_n 1, 1) := by decide +kernel
theorem dX6_about_78 : decode cX6_about 78 = .ok (.invokevirtual 163, 3) := by decide +kernel
theorem dX6_about_81 : decode cX6_about 81 = .ok (.ireturn, 1) := by decide +kernel
theorem dX6_about_82 : decode cX6_about 82 = .ok (.bipush (-2), 2) := by decide +kernel
theorem dX6_about_84 : decode cX6_about 84 = .ok (.ireturn, 1) := by decide +kernel
theorem dX6_count_0 : decode cX6_count 0 = .ok (.iload_n 1, 1) := by decide +kernel
theorem dX6_count_1 : decode cX6_count 1 = .ok (.bipush 13, 2) := by decide +kernel
theorem dX6_count_3 : decode cX6_count 3 = .ok (.isub, 1) := by decide +kernel
theorem dX6_count_4 : decode cX6_count 4 = .ok (.invokestatic 166, 3) := by decide +kernel
theorem dX6_count_7 : decode cX6_count 7 = .ok (.ifCond .eq 15, 3) := by decide +kernel
theorem dX6_count_10 : decode cX6_count 10 = .ok (.aload_n 0, 1) := by decide +kernel
theorem dX6_count_11 : decode cX6_count 11 = .ok (.getfield 10, 3) := by decide +kernel
theorem dX6_count_14 : decode cX6_count 14 = .ok (.iload_n 1, 1) := by decide +kernel
theorem dX6_count_15 : decode cX6_count 15 = .ok (.bipush 13, 2) := by decide +kernel
theorem dX6_count_17 : decode cX6_count 17 = .ok (.isub, 1) := by decide +kernel
theorem dX6_count_18 : decode cX6_count 18 = .ok (.invokevirtual 169, 3) := by decide +kernel
theorem dX6_count_21 : decode cX6_count 21 = .ok (.ireturn, 1) := by decide +kernel
theorem dX6_count_22 : decode cX6_count 22 = .ok (.iload_n 1, 1) := by decide +kernel
theorem dX6_count_23 : decode cX6_count 23 = .ok (.tableswitch 210 0 12 #[65, 76, 87, 98, 106, 125, 136, 147, 158, 169, 180, 191, 202], 65) := by decide +kernel
theorem dX6_count_88 : decode cX6_count 88 = .ok (.aload_n 0, 1) := by decide +kernel
theorem dX6_count_89 : decode cX6_count 89 = .ok (.getfield 10, 3) := by decide +kernel
theorem dX6_count_92 : decode cX6_count 92 = .ok (.getfield 45, 3) := by decide +kernel
theorem dX6_count_95 : decode cX6_count 95 = .ok (.getfield 49, 3) := by decide +kernel
theorem dX6_count_98 : decode cX6_count 98 = .ok (.ireturn, 1) := by decide +kernel
theorem dX6_count_99 : decode cX6_count 99 = .ok (.aload_n 0, 1) := by decide +kernel
theorem dX6_count_100 : decode cX6_count 100 = .ok (.getfield 10, 3) := by decide +kernel
theorem dX6_count_103 : decode cX6_count 103 = .ok (.getfield 86, 3) := by decide +kernel
theorem dX6_count_106 : decode cX6_count 106 = .ok (.getfield 172, 3) := by decide +kernel
theorem dX6_count_109 : decode cX6_count 109 = .ok (.ireturn, 1) := by decide +kernel
theorem dX6_count_110 : decode cX6_count 110 = .ok (.aload_n 0, 1) := by decide +kernel
theorem dX6_count_111 : decode cX6_count 111 = .ok (.getfield 10, 3) := by decide +kernel
theorem dX6_count_114 : decode cX6_count 114 = .ok (.getfield 86, 3) := by decide +kernel
theorem dX6_count_117 : decode cX6_count 117 = .ok (.invokevirtual 175, 3) := by decide +kernel
theorem dX6_count_120 : decode cX6_count 120 = .ok (.ireturn, 1) := by decide +kernel
theorem dX6_count_121 : decode cX6_count 121 = .ok (.aload_n 0, 1) := by decide +kernel
theorem dX6_count_122 : decode cX6_count 122 = .ok (.getfield 10, 3) := by decide +kernel
theorem dX6_count_125 : decode cX6_count 125 = .ok (.invokevirtual 178, 3) := by decide +kernel
theorem dX6_count_128 : decode cX6_count 128 = .ok (.ireturn, 1) := by decide +kernel
theorem dX6_count_129 : decode cX6_count 129 = .ok (.aload_n 0, 1) := by decide +kernel
theorem dX6_count_130 : decode cX6_count 130 = .ok (.getfield 10, 3) := by decide +kernel
theorem dX6_count_133 : decode cX6_count 133 = .ok (.getfield 59, 3) := by decide +kernel
theorem dX6_count_136 : decode cX6_count 136 = .ok (.invokevirtual 63, 3) := by decide +kernel
theorem dX6_count_139 : decode cX6_count 139 = .ok (.ifCond .eq 7, 3) := by decide +kernel
theorem dX6_count_142 : decode cX6_count 142 = .ok (.iconst 1, 1) := by decide +kernel
theorem dX6_count_143 : decode cX6_count 143 = .ok (.goto 4, 3) := by decide +kernel
theorem dX6_count_146 : decode cX6_count 146 = .ok (.iconst 0, 1) := by decide +kernel
theorem dX6_count_147 : decode cX6_count 147 = .ok (.ireturn, 1) := by decide +kernel
theorem dX6_count_148 : decode cX6_count 148 = .ok (.aload_n 0, 1) := by decide +kernel
theorem dX6_count_149 : decode cX6_count 149 = .ok (.getfield 10, 3) := by decide +kernel
theorem dX6_count_152 : decode cX6_count 152 = .ok (.getfield 59, 3) := by decide +kernel
theorem dX6_count_155 : decode cX6_count 155 = .ok (.getfield 181, 3) := by decide +kernel
theorem dX6_count_158 : decode cX6_count 158 = .ok (.ireturn, 1) := by decide +kernel
theorem dX6_count_159 : decode cX6_count 159 = .ok (.aload_n 0, 1) := by decide +kernel
theorem dX6_count_160 : decode cX6_count 160 = .ok (.getfield 10, 3) := by decide +kernel
theorem dX6_count_163 : decode cX6_count 163 = .ok (.getfield 59, 3) := by decide +kernel
theorem dX6_count_166 : decode cX6_count 166 = .ok (.getfield 184, 3) := by decide +kernel
theorem dX6_count_169 : decode cX6_count 169 = .ok (.ireturn, 1) := by decide +kernel
theorem dX6_count_170 : decode cX6_count 170 = .ok (.aload_n 0, 1) := by decide +kernel
theorem dX6_count_171 : decode cX6_count 171 = .ok (.getfield 10, 3) := by decide +kernel
theorem dX6_count_174 : decode cX6_count 174 = .ok (.getfield 59, 3) := by decide +kernel
theorem dX6_count_177 : decode cX6_count 177 = .ok (.getfield 187, 3) := by decide +kernel
theorem dX6_count_180 : decode cX6_count 180 = .ok (.ireturn, 1) := by decide +kernel
theorem dX6_count_181 : decode cX6_count 181 = .ok (.aload_n 0, 1) := by decide +kernel
theorem dX6_count_182 : decode cX6_count 182 = .ok (.getfield 10, 3) := by decide +kernel
theorem dX6_count_185 : decode cX6_count 185 = .ok (.getfield 59, 3) := by decide +kernel
theorem dX6_count_188 : decode cX6_count 188 = .ok (.getfield 190, 3) := by decide +kernel
theorem dX6_count_191 : decode cX6_count 191 = .ok (.ireturn, 1) := by decide +kernel
theorem dX6_count_192 : decode cX6_count 192 = .ok (.aload_n 0, 1) := by decide +kernel
theorem dX6_count_193 : decode cX6_count 193 = .ok (.getfield 10, 3) := by decide +kernel
theorem dX6_count_196 : decode cX6_count 196 = .ok (.getfield 59, 3) := by decide +kernel
theorem dX6_count_199 : decode cX6_count 199 = .ok (.getfield 193, 3) := by decide +kernel
theorem dX6_count_202 : decode cX6_count 202 = .ok (.ireturn, 1) := by decide +kernel
theorem dX6_count_203 : decode cX6_count 203 = .ok (.aload_n 0, 1) := by decide +kernel
theorem dX6_count_204 : decode cX6_count 204 = .ok (.getfield 10, 3) := by decide +kernel
theorem dX6_count_207 : decode cX6_count 207 = .ok (.getfield 45, 3) := by decide +kernel
theorem dX6_count_210 : decode cX6_count 210 = .ok (.invokevirtual 196, 3) := by decide +kernel
theorem dX6_count_213 : decode cX6_count 213 = .ok (.ireturn, 1) := by decide +kernel
theorem dX6_count_214 : decode cX6_count 214 = .ok (.aload_n 0, 1) := by decide +kernel
theorem dX6_count_215 : decode cX6_count 215 = .ok (.getfield 10, 3) := by decide +kernel
theorem dX6_count_218 : decode cX6_count 218 = .ok (.getfield 45, 3) := by decide +kernel
theorem dX6_count_221 : decode cX6_count 221 = .ok (.invokevirtual 199, 3) := by decide +kernel
theorem dX6_count_224 : decode cX6_count 224 = .ok (.ireturn, 1) := by decide +kernel
theorem dX6_count_225 : decode cX6_count 225 = .ok (.aload_n 0, 1) := by decide +kernel
theorem dX6_count_226 : decode cX6_count 226 = .ok (.getfield 33, 3) := by decide +kernel
theorem dX6_count_229 : decode cX6_count 229 = .ok (.getfield 202, 3) := by decide +kernel
theorem dX6_count_232 : decode cX6_count 232 = .ok (.ireturn, 1) := by decide +kernel
theorem dX6_count_233 : decode cX6_count 233 = .ok (.bipush (-2), 2) := by decide +kernel
theorem dX6_count_235 : decode cX6_count 235 = .ok (.ireturn, 1) := by decide +kernel
theorem dX6_known_0 : decode cX6_known 0 = .ok (.aload_n 0, 1) := by decide +kernel
theorem dX6_known_1 : decode cX6_known 1 = .ok (.getfield 10, 3) := by decide +kernel
theorem dX6_known_4 : decode cX6_known 4 = .ok (.getfield 45, 3) := by decide +kernel
theorem dX6_known_7 : decode cX6_known 7 = .ok (.astore_n 3, 1) := by decide +kernel
theorem dX6_known_8 : decode cX6_known 8 = .ok (.aload_n 3, 1) := by decide +kernel
theorem dX6_known_9 : decode cX6_known 9 = .ok (.iload_n 1, 1) := by decide +kernel
theorem dX6_known_10 : decode cX6_known 10 = .ok (.invokevirtual 73, 3) := by decide +kernel
theorem dX6_known_13 : decode cX6_known 13 = .ok (.ifCond .ne 5, 3) := by decide +kernel
theorem dX6_known_16 : decode cX6_known 16 = .ok (.iconst (-1), 1) := by decide +kernel
theorem dX6_known_17 : decode cX6_known 17 = .ok (.ireturn, 1) := by decide +kernel
theorem dX6_known_18 : decode cX6_known 18 = .ok (.iload_n 2, 1) := by decide +kernel
theorem dX6_known_19 : decode cX6_known 19 = .ok (.tableswitch 75 0 4 #[33, 39, 45, 55, 65], 33) := by decide +kernel
theorem dX6_known_52 : decode cX6_known 52 = .ok (.aload_n 3, 1) := by decide +kernel
theorem dX6_known_53 : decode cX6_known 53 = .ok (.iload_n 1, 1) := by decide +kernel
theorem dX6_known_54 : decode cX6_known 54 = .ok (.invokevirtual 205, 3) := by decide +kernel
theorem dX6_known_57 : decode cX6_known 57 = .ok (.ireturn, 1) := by decide +kernel
theorem dX6_known_58 : decode cX6_known 58 = .ok (.aload_n 3, 1) := by decide +kernel
theorem dX6_known_59 : decode cX6_known 59 = .ok (.iload_n 1, 1) := by decide +kernel
theorem dX6_known_60 : decode cX6_known 60 = .ok (.invokevirtual 208, 3) := by decide +kernel
theorem dX6_known_63 : decode cX6_known 63 = .ok (.ireturn, 1) := by decide +kernel
theorem dX6_known_64 : decode cX6_known 64 = .ok (.aload_n 0, 1) := by decide +kernel
theorem dX6_known_65 : decode cX6_known 65 = .ok (.getfield 26, 3) := by decide +kernel
theorem dX6_known_68 : decode cX6_known 68 = .ok (.aload_n 3, 1) := by decide +kernel
theorem dX6_known_69 : decode cX6_known 69 = .ok (.iload_n 1, 1) := by decide +kernel
theorem dX6_known_70 : decode cX6_known 70 = .ok (.invokevirtual 211, 3) := by decide +kernel
theorem dX6_known_73 : decode cX6_known 73 = .ok (.ireturn, 1) := by decide +kernel
theorem dX6_known_74 : decode cX6_known 74 = .ok (.aload_n 0, 1) := by decide +kernel
theorem dX6_known_75 : decode cX6_known 75 = .ok (.getfield 26, 3) := by decide +kernel
theorem dX6_known_78 : decode cX6_known 78 = .ok (.aload_n 3, 1) := by decide +kernel
theorem dX6_known_79 : decode cX6_known 79 = .ok (.iload_n 1, 1) := by decide +kernel
theorem dX6_known_80 : decode cX6_known 80 = .ok (.invokevirtual 215, 3) := by decide +kernel
theorem dX6_known_83 : decode cX6_known 83 = .ok (.ireturn, 1) := by decide +kernel
theorem dX6_known_84 : decode cX6_known 84 = .ok (.aload_n 0, 1) := by decide +kernel
theorem dX6_known_85 : decode cX6_known 85 = .ok (.getfield 26, 3) := by decide +kernel
theorem dX6_known_88 : decode cX6_known 88 = .ok (.aload_n 3, 1) := by decide +kernel
theorem dX6_known_89 : decode cX6_known 89 = .ok (.iload_n 1, 1) := by decide +kernel
theorem dX6_known_90 : decode cX6_known 90 = .ok (.invokevirtual 218, 3) := by decide +kernel
theorem dX6_known_93 : decode cX6_known 93 = .ok (.ireturn, 1) := by decide +kernel
theorem dX6_known_94 : decode cX6_known 94 = .ok (.bipush (-2), 2) := by decide +kernel
theorem dX6_known_96 : decode cX6_known 96 = .ok (.ireturn, 1) := by decide +kernel
theorem dX6_ways_0 : decode cX6_ways 0 = .ok (.aload_n 0, 1) := by decide +kernel
theorem dX6_ways_1 : decode cX6_ways 1 = .ok (.getfield 26, 3) := by decide +kernel
theorem dX6_ways_4 : decode cX6_ways 4 = .ok (.aload_n 0, 1) := by decide +kernel
theorem dX6_ways_5 : decode cX6_ways 5 = .ok (.getfield 10, 3) := by decide +kernel
theorem dX6_ways_8 : decode cX6_ways 8 = .ok (.getfield 45, 3) := by decide +kernel
theorem dX6_ways_11 : decode cX6_ways 11 = .ok (.iconst 0, 1) := by decide +kernel
theorem dX6_ways_12 : decode cX6_ways 12 = .ok (.iconst 0, 1) := by decide +kernel
theorem dX6_ways_13 : decode cX6_ways 13 = .ok (.invokevirtual 221, 3) := by decide +kernel
theorem dX6_ways_16 : decode cX6_ways 16 = .ok (.lreturn, 1) := by decide +kernel
theorem dX6_canPay_0 : decode cX6_canPay 0 = .ok (.aload_n 0, 1) := by decide +kernel
theorem dX6_canPay_1 : decode cX6_canPay 1 = .ok (.getfield 10, 3) := by decide +kernel
theorem dX6_canPay_4 : decode cX6_canPay 4 = .ok (.getfield 45, 3) := by decide +kernel
theorem dX6_canPay_7 : decode cX6_canPay 7 = .ok (.iload_n 1, 1) := by decide +kernel
theorem dX6_canPay_8 : decode cX6_canPay 8 = .ok (.invokevirtual 73, 3) := by decide +kernel
theorem dX6_canPay_11 : decode cX6_canPay 11 = .ok (.ifCond .ne 7, 3) := by decide +kernel
theorem dX6_canPay_14 : decode cX6_canPay 14 = .ok (.ldc2_w 225, 3) := by decide +kernel
theorem dX6_canPay_17 : decode cX6_canPay 17 = .ok (.lreturn, 1) := by decide +kernel
theorem dX6_canPay_18 : decode cX6_canPay 18 = .ok (.iload_n 2, 1) := by decide +kernel
theorem dX6_canPay_19 : decode cX6_canPay 19 = .ok (.iconst 0, 1) := by decide +kernel
theorem dX6_canPay_20 : decode cX6_canPay 20 = .ok (.sipush 300, 3) := by decide +kernel
theorem dX6_canPay_23 : decode cX6_canPay 23 = .ok (.invokestatic 41, 3) := by decide +kernel
theorem dX6_canPay_26 : decode cX6_canPay 26 = .ok (.ifCond .ne 7, 3) := by decide +kernel
theorem dX6_canPay_29 : decode cX6_canPay 29 = .ok (.ldc2_w 227, 3) := by decide +kernel
theorem dX6_canPay_32 : decode cX6_canPay 32 = .ok (.lreturn, 1) := by decide +kernel
theorem dX6_canPay_33 : decode cX6_canPay 33 = .ok (.aload_n 0, 1) := by decide +kernel
theorem dX6_canPay_34 : decode cX6_canPay 34 = .ok (.getfield 26, 3) := by decide +kernel
theorem dX6_canPay_37 : decode cX6_canPay 37 = .ok (.aload_n 0, 1) := by decide +kernel
theorem dX6_canPay_38 : decode cX6_canPay 38 = .ok (.getfield 10, 3) := by decide +kernel
theorem dX6_canPay_41 : decode cX6_canPay 41 = .ok (.getfield 45, 3) := by decide +kernel
theorem dX6_canPay_44 : decode cX6_canPay 44 = .ok (.iload_n 1, 1) := by decide +kernel
theorem dX6_canPay_45 : decode cX6_canPay 45 = .ok (.iload_n 2, 1) := by decide +kernel
theorem dX6_canPay_46 : decode cX6_canPay 46 = .ok (.invokevirtual 221, 3) := by decide +kernel
theorem dX6_canPay_49 : decode cX6_canPay 49 = .ok (.lreturn, 1) := by decide +kernel
theorem dX6_forecast_0 : decode cX6_forecast 0 = .ok (.aload_n 0, 1) := by decide +kernel
theorem dX6_forecast_1 : decode cX6_forecast 1 = .ok (.getfield 10, 3) := by decide +kernel
theorem dX6_forecast_4 : decode cX6_forecast 4 = .ok (.getfield 45, 3) := by decide +kernel
theorem dX6_forecast_7 : decode cX6_forecast 7 = .ok (.iload_n 3, 1) := by decide +kernel
theorem dX6_forecast_8 : decode cX6_forecast 8 = .ok (.invokevirtual 73, 3) := by decide +kernel
theorem dX6_forecast_11 : decode cX6_forecast 11 = .ok (.ifCond .ne 5, 3) := by decide +kernel
theorem dX6_forecast_14 : decode cX6_forecast 14 = .ok (.iconst (-1), 1) := by decide +kernel
theorem dX6_forecast_15 : decode cX6_forecast 15 = .ok (.ireturn, 1) := by decide +kernel
theorem dX6_forecast_16 : decode cX6_forecast 16 = .ok (.iload_n 1, 1) := by decide +kernel
theorem dX6_forecast_17 : decode cX6_forecast 17 = .ok (.invokestatic 229, 3) := by decide +kernel
theorem dX6_forecast_20 : decode cX6_forecast 20 = .ok (.ifCond .eq 10, 3) := by decide +kernel
theorem dX6_forecast_23 : decode cX6_forecast 23 = .ok (.iload_n 2, 1) := by decide +kernel
theorem dX6_forecast_24 : decode cX6_forecast 24 = .ok (.invokestatic 232, 3) := by decide +kernel
theorem dX6_forecast_27 : decode cX6_forecast 27 = .ok (.ifCond .ne 6, 3) := by decide +kernel
theorem dX6_forecast_30 : decode cX6_forecast 30 = .ok (.bipush (-2), 2) := by decide +kernel
theorem dX6_forecast_32 : decode cX6_forecast 32 = .ok (.ireturn, 1) := by decide +kernel
theorem dX6_forecast_33 : decode cX6_forecast 33 = .ok (.aload_n 0, 1) := by decide +kernel
theorem dX6_forecast_34 : decode cX6_forecast 34 = .ok (.getfield 16, 3) := by decide +kernel
theorem dX6_forecast_37 : decode cX6_forecast 37 = .ok (.aload_n 0, 1) := by decide +kernel
theorem dX6_forecast_38 : decode cX6_forecast 38 = .ok (.getfield 10, 3) := by decide +kernel
theorem dX6_forecast_41 : decode cX6_forecast 41 = .ok (.invokevirtual 235, 3) := by decide +kernel
theorem dX6_forecast_44 : decode cX6_forecast 44 = .ok (.iconst 0, 1) := by decide +kernel
theorem dX6_forecast_45 : decode cX6_forecast 45 = .ok (.istore 4, 2) := by decide +kernel
theorem dX6_forecast_47 : decode cX6_forecast 47 = .ok (.iload 4, 2) := by decide +kernel
theorem dX6_forecast_49 : decode cX6_forecast 49 = .ok (.ldc 239, 2) := by decide +kernel
theorem dX6_forecast_51 : decode cX6_forecast 51 = .ok (.if_icmp .ge 82, 3) := by decide +kernel
theorem dX6_forecast_54 : decode cX6_forecast 54 = .ok (.aload_n 0, 1) := by decide +kernel
theorem dX6_forecast_55 : decode cX6_forecast 55 = .ok (.getfield 16, 3) := by decide +kernel
theorem dX6_forecast_58 : decode cX6_forecast 58 = .ok (.getfield 86, 3) := by decide +kernel
theorem dX6_forecast_61 : decode cX6_forecast 61 = .ok (.invokevirtual 175, 3) := by decide +kernel
theorem dX6_forecast_64 : decode cX6_forecast 64 = .ok (.bipush (-6), 2) := by decide +kernel
theorem dX6_forecast_66 : decode cX6_forecast 66 = .ok (.if_icmp .eq 67, 3) := by decide +kernel
theorem dX6_forecast_69 : decode cX6_forecast 69 = .ok (.aload_n 0, 1) := by decide +kernel
theorem dX6_forecast_70 : decode cX6_forecast 70 = .ok (.getfield 16, 3) := by decide +kernel
theorem dX6_forecast_73 : decode cX6_forecast 73 = .ok (.getfield 59, 3) := by decide +kernel
theorem dX6_forecast_76 : decode cX6_forecast 76 = .ok (.invokevirtual 63, 3) := by decide +kernel
theorem dX6_forecast_79 : decode cX6_forecast 79 = .ok (.ifCond .eq 14, 3) := by decide +kernel
theorem dX6_forecast_82 : decode cX6_forecast 82 = .ok (.aload_n 0, 1) := by decide +kernel
theorem dX6_forecast_83 : decode cX6_forecast 83 = .ok (.getfield 16, 3) := by decide +kernel
theorem dX6_forecast_86 : decode cX6_forecast 86 = .ok (.invokevirtual 108, 3) := by decide +kernel
theorem dX6_forecast_89 : decode cX6_forecast 89 = .ok (.pop, 1) := by decide +kernel
theorem dX6_forecast_90 : decode cX6_forecast 90 = .ok (.goto 37, 3) := by decide +kernel
theorem dX6_forecast_93 : decode cX6_forecast 93 = .ok (.aload_n 0, 1) := by decide +kernel
theorem dX6_forecast_94 : decode cX6_forecast 94 = .ok (.getfield 16, 3) := by decide +kernel
theorem dX6_forecast_97 : decode cX6_forecast 97 = .ok (.getfield 86, 3) := by decide +kernel
theorem dX6_forecast_100 : decode cX6_forecast 100 = .ok (.invokevirtual 240, 3) := by decide +kernel
theorem dX6_forecast_103 : decode cX6_forecast 103 = .ok (.ifCond .eq 16, 3) := by decide +kernel
theorem dX6_forecast_106 : decode cX6_forecast 106 = .ok (.aload_n 0, 1) := by decide +kernel
theorem dX6_forecast_107 : decode cX6_forecast 107 = .ok (.getfield 16, 3) := by decide +kernel
theorem dX6_forecast_110 : decode cX6_forecast 110 = .ok (.iload_n 1, 1) := by decide +kernel
theorem dX6_forecast_111 : decode cX6_forecast 111 = .ok (.iload_n 2, 1) := by decide +kernel
theorem dX6_forecast_112 : decode cX6_forecast 112 = .ok (.invokevirtual 98, 3) := by decide +kernel
theorem dX6_forecast_115 : decode cX6_forecast 115 = .ok (.pop, 1) := by decide +kernel
theorem dX6_forecast_116 : decode cX6_forecast 116 = .ok (.goto 11, 3) := by decide +kernel
theorem dX6_forecast_119 : decode cX6_forecast 119 = .ok (.aload_n 0, 1) := by decide +kernel
theorem dX6_forecast_120 : decode cX6_forecast 120 = .ok (.getfield 16, 3) := by decide +kernel
theorem dX6_forecast_123 : decode cX6_forecast 123 = .ok (.invokevirtual 112, 3) := by decide +kernel
theorem dX6_forecast_126 : decode cX6_forecast 126 = .ok (.pop, 1) := by decide +kernel
theorem dX6_forecast_127 : decode cX6_forecast 127 = .ok (.iinc 4 1, 3) := by decide +kernel
theorem dX6_forecast_130 : decode cX6_forecast 130 = .ok (.goto (-83), 3) := by decide +kernel
theorem dX6_forecast_133 : decode cX6_forecast 133 = .ok (.aload_n 0, 1) := by decide +kernel
theorem dX6_forecast_134 : decode cX6_forecast 134 = .ok (.getfield 16, 3) := by decide +kernel
theorem dX6_forecast_137 : decode cX6_forecast 137 = .ok (.iload_n 3, 1) := by decide +kernel
theorem dX6_forecast_138 : decode cX6_forecast 138 = .ok (.invokevirtual 130, 3) := by decide +kernel
theorem dX6_forecast_141 : decode cX6_forecast 141 = .ok (.ireturn, 1) := by decide +kernel
theorem dX6_bestMode_0 : decode cX6_bestMode 0 = .ok (.aload_n 0, 1) := by decide +kernel
theorem dX6_bestMode_1 : decode cX6_bestMode 1 = .ok (.getfield 10, 3) := by decide +kernel
theorem dX6_bestMode_4 : decode cX6_bestMode 4 = .ok (.getfield 45, 3) := by decide +kernel
theorem dX6_bestMode_7 : decode cX6_bestMode 7 = .ok (.iload_n 1, 1) := by decide +kernel
theorem dX6_bestMode_8 : decode cX6_bestMode 8 = .ok (.invokevirtual 73, 3) := by decide +kernel
theorem dX6_bestMode_11 : decode cX6_bestMode 11 = .ok (.ifCond .ne 5, 3) := by decide +kernel
theorem dX6_bestMode_14 : decode cX6_bestMode 14 = .ok (.iconst (-1), 1) := by decide +kernel
theorem dX6_bestMode_15 : decode cX6_bestMode 15 = .ok (.ireturn, 1) := by decide +kernel
theorem dX6_bestMode_16 : decode cX6_bestMode 16 = .ok (.iload_n 2, 1) := by decide +kernel
theorem dX6_bestMode_17 : decode cX6_bestMode 17 = .ok (.invokestatic 232, 3) := by decide +kernel
theorem dX6_bestMode_20 : decode cX6_bestMode 20 = .ok (.ifCond .ne 6, 3) := by decide +kernel
theorem dX6_bestMode_23 : decode cX6_bestMode 23 = .ok (.bipush (-2), 2) := by decide +kernel
theorem dX6_bestMode_25 : decode cX6_bestMode 25 = .ok (.ireturn, 1) := by decide +kernel
theorem dX6_bestMode_26 : decode cX6_bestMode 26 = .ok (.iconst 0, 1) := by decide +kernel
theorem dX6_bestMode_27 : decode cX6_bestMode 27 = .ok (.istore_n 3, 1) := by decide +kernel
theorem dX6_bestMode_28 : decode cX6_bestMode 28 = .ok (.aload_n 0, 1) := by decide +kernel
theorem dX6_bestMode_29 : decode cX6_bestMode 29 = .ok (.iconst 0, 1) := by decide +kernel
theorem dX6_bestMode_30 : decode cX6_bestMode 30 = .ok (.iload_n 2, 1) := by decide +kernel
theorem dX6_bestMode_31 : decode cX6_bestMode 31 = .ok (.iload_n 1, 1) := by decide +kernel
theorem dX6_bestMode_32 : decode cX6_bestMode 32 = .ok (.invokevirtual 243, 3) := by decide +kernel
theorem dX6_bestMode_35 : decode cX6_bestMode 35 = .ok (.istore 4, 2) := by decide +kernel
theorem dX6_bestMode_37 : decode cX6_bestMode 37 = .ok (.iconst 1, 1) := by decide +kernel
theorem dX6_bestMode_38 : decode cX6_bestMode 38 = .ok (.istore 5, 2) := by decide +kernel
theorem dX6_bestMode_40 : decode cX6_bestMode 40 = .ok (.iload 5, 2) := by decide +kernel
theorem dX6_bestMode_42 : decode cX6_bestMode 42 = .ok (.iconst 2, 1) := by decide +kernel
theorem dX6_bestMode_43 : decode cX6_bestMode 43 = .ok (.if_icmp .gt 33, 3) := by decide +kernel
theorem dX6_bestMode_46 : decode cX6_bestMode 46 = .ok (.aload_n 0, 1) := by decide +kernel
theorem dX6_bestMode_47 : decode cX6_bestMode 47 = .ok (.iload 5, 2) := by decide +kernel
theorem dX6_bestMode_49 : decode cX6_bestMode 49 = .ok (.iload_n 2, 1) := by decide +kernel
theorem dX6_bestMode_50 : decode cX6_bestMode 50 = .ok (.iload_n 1, 1) := by decide +kernel
theorem dX6_bestMode_51 : decode cX6_bestMode 51 = .ok (.invokevirtual 243, 3) := by decide +kernel
theorem dX6_bestMode_54 : decode cX6_bestMode 54 = .ok (.istore 6, 2) := by decide +kernel
theorem dX6_bestMode_56 : decode cX6_bestMode 56 = .ok (.iload 6, 2) := by decide +kernel
theorem dX6_bestMode_58 : decode cX6_bestMode 58 = .ok (.iload 4, 2) := by decide +kernel
theorem dX6_bestMode_60 : decode cX6_bestMode 60 = .ok (.if_icmp .le 10, 3) := by decide +kernel
theorem dX6_bestMode_63 : decode cX6_bestMode 63 = .ok (.iload 5, 2) := by decide +kernel
theorem dX6_bestMode_65 : decode cX6_bestMode 65 = .ok (.istore_n 3, 1) := by decide +kernel
theorem dX6_bestMode_66 : decode cX6_bestMode 66 = .ok (.iload 6, 2) := by decide +kernel
theorem dX6_bestMode_68 : decode cX6_bestMode 68 = .ok (.istore 4, 2) := by decide +kernel
theorem dX6_bestMode_70 : decode cX6_bestMode 70 = .ok (.iinc 5 1, 3) := by decide +kernel
theorem dX6_bestMode_73 : decode cX6_bestMode 73 = .ok (.goto (-33), 3) := by decide +kernel
theorem dX6_bestMode_76 : decode cX6_bestMode 76 = .ok (.iload_n 3, 1) := by decide +kernel
theorem dX6_bestMode_77 : decode cX6_bestMode 77 = .ok (.ireturn, 1) := by decide +kernel
theorem dX6_leastBid_0 : decode cX6_leastBid 0 = .ok (.aload_n 0, 1) := by decide +kernel
theorem dX6_leastBid_1 : decode cX6_leastBid 1 = .ok (.getfield 10, 3) := by decide +kernel
theorem dX6_leastBid_4 : decode cX6_leastBid 4 = .ok (.getfield 45, 3) := by decide +kernel
theorem dX6_leastBid_7 : decode cX6_leastBid 7 = .ok (.iload_n 1, 1) := by decide +kernel
theorem dX6_leastBid_8 : decode cX6_leastBid 8 = .ok (.invokevirtual 73, 3) := by decide +kernel
theorem dX6_leastBid_11 : decode cX6_leastBid 11 = .ok (.ifCond .ne 5, 3) := by decide +kernel
theorem dX6_leastBid_14 : decode cX6_leastBid 14 = .ok (.iconst (-1), 1) := by decide +kernel
theorem dX6_leastBid_15 : decode cX6_leastBid 15 = .ok (.ireturn, 1) := by decide +kernel
theorem dX6_leastBid_16 : decode cX6_leastBid 16 = .ok (.iload_n 2, 1) := by decide +kernel
theorem dX6_leastBid_17 : decode cX6_leastBid 17 = .ok (.invokestatic 232, 3) := by decide +kernel
theorem dX6_leastBid_20 : decode cX6_leastBid 20 = .ok (.ifCond .ne 6, 3) := by decide +kernel
theorem dX6_leastBid_23 : decode cX6_leastBid 23 = .ok (.bipush (-2), 2) := by decide +kernel
theorem dX6_leastBid_25 : decode cX6_leastBid 25 = .ok (.ireturn, 1) := by decide +kernel
theorem dX6_leastBid_26 : decode cX6_leastBid 26 = .ok (.aload_n 0, 1) := by decide +kernel
theorem dX6_leastBid_27 : decode cX6_leastBid 27 = .ok (.getfield 10, 3) := by decide +kernel
theorem dX6_leastBid_30 : decode cX6_leastBid 30 = .ok (.getfield 59, 3) := by decide +kernel
theorem dX6_leastBid_33 : decode cX6_leastBid 33 = .ok (.invokevirtual 63, 3) := by decide +kernel
theorem dX6_leastBid_36 : decode cX6_leastBid 36 = .ok (.ifCond .ne 16, 3) := by decide +kernel
theorem dX6_leastBid_39 : decode cX6_leastBid 39 = .ok (.aload_n 0, 1) := by decide +kernel
theorem dX6_leastBid_40 : decode cX6_leastBid 40 = .ok (.getfield 10, 3) := by decide +kernel
theorem dX6_leastBid_43 : decode cX6_leastBid 43 = .ok (.getfield 86, 3) := by decide +kernel
theorem dX6_leastBid_46 : decode cX6_leastBid 46 = .ok (.invokevirtual 240, 3) := by decide +kernel
theorem dX6_leastBid_49 : decode cX6_leastBid 49 = .ok (.ifCond .ne 6, 3) := by decide +kernel
theorem dX6_leastBid_52 : decode cX6_leastBid 52 = .ok (.bipush (-5), 2) := by decide +kernel
theorem dX6_leastBid_54 : decode cX6_leastBid 54 = .ok (.ireturn, 1) := by decide +kernel
theorem dX6_leastBid_55 : decode cX6_leastBid 55 = .ok (.aload_n 0, 1) := by decide +kernel
theorem dX6_leastBid_56 : decode cX6_leastBid 56 = .ok (.getfield 10, 3) := by decide +kernel
theorem dX6_leastBid_59 : decode cX6_leastBid 59 = .ok (.iload_n 1, 1) := by decide +kernel
theorem dX6_leastBid_60 : decode cX6_leastBid 60 = .ok (.iload_n 2, 1) := by decide +kernel
theorem dX6_leastBid_61 : decode cX6_leastBid 61 = .ok (.invokevirtual 247, 3) := by decide +kernel
theorem dX6_leastBid_64 : decode cX6_leastBid 64 = .ok (.istore_n 3, 1) := by decide +kernel
theorem dX6_leastBid_65 : decode cX6_leastBid 65 = .ok (.iload_n 3, 1) := by decide +kernel
theorem dX6_leastBid_66 : decode cX6_leastBid 66 = .ok (.aload_n 0, 1) := by decide +kernel
theorem dX6_leastBid_67 : decode cX6_leastBid 67 = .ok (.getfield 10, 3) := by decide +kernel
theorem dX6_leastBid_70 : decode cX6_leastBid 70 = .ok (.getfield 45, 3) := by decide +kernel
theorem dX6_leastBid_73 : decode cX6_leastBid 73 = .ok (.iload_n 1, 1) := by decide +kernel
theorem dX6_leastBid_74 : decode cX6_leastBid 74 = .ok (.invokevirtual 118, 3) := by decide +kernel
theorem dX6_leastBid_77 : decode cX6_leastBid 77 = .ok (.if_icmp .gt 7, 3) := by decide +kernel
theorem dX6_leastBid_80 : decode cX6_leastBid 80 = .ok (.iload_n 3, 1) := by decide +kernel
theorem dX6_leastBid_81 : decode cX6_leastBid 81 = .ok (.goto 5, 3) := by decide +kernel
theorem dX6_leastBid_84 : decode cX6_leastBid 84 = .ok (.bipush (-6), 2) := by decide +kernel
theorem dX6_leastBid_86 : decode cX6_leastBid 86 = .ok (.ireturn, 1) := by decide +kernel
theorem dX6_put_0 : decode cX6_put 0 = .ok (.lload_n 1, 1) := by decide +kernel
theorem dX6_put_1 : decode cX6_put 1 = .ok (.invokestatic 250, 3) := by decide +kernel
theorem dX6_put_4 : decode cX6_put 4 = .ok (.istore_n 3, 1) := by decide +kernel
theorem dX6_put_5 : decode cX6_put 5 = .ok (.iload_n 3, 1) := by decide +kernel
theorem dX6_put_6 : decode cX6_put 6 = .ok (.ifCond .ne 6, 3) := by decide +kernel
theorem dX6_put_9 : decode cX6_put 9 = .ok (.bipush (-2), 2) := by decide +kernel
theorem dX6_put_11 : decode cX6_put 11 = .ok (.ireturn, 1) := by decide +kernel
theorem dX6_put_12 : decode cX6_put 12 = .ok (.aload_n 0, 1) := by decide +kernel
theorem dX6_put_13 : decode cX6_put 13 = .ok (.getfield 33, 3) := by decide +kernel
theorem dX6_put_16 : decode cX6_put 16 = .ok (.getfield 202, 3) := by decide +kernel
theorem dX6_put_19 : decode cX6_put 19 = .ok (.iload_n 3, 1) := by decide +kernel
theorem dX6_put_20 : decode cX6_put 20 = .ok (.iadd, 1) := by decide +kernel
theorem dX6_put_21 : decode cX6_put 21 = .ok (.bipush 60, 2) := by decide +kernel
theorem dX6_put_23 : decode cX6_put 23 = .ok (.if_icmp .le 6, 3) := by decide +kernel
theorem dX6_put_26 : decode cX6_put 26 = .ok (.bipush (-4), 2) := by decide +kernel
theorem dX6_put_28 : decode cX6_put 28 = .ok (.ireturn, 1) := by decide +kernel
theorem dX6_put_29 : decode cX6_put 29 = .ok (.iload_n 3, 1) := by decide +kernel
theorem dX6_put_30 : decode cX6_put 30 = .ok (.iconst 1, 1) := by decide +kernel
theorem dX6_put_31 : decode cX6_put 31 = .ok (.isub, 1) := by decide +kernel
theorem dX6_put_32 : decode cX6_put 32 = .ok (.istore 4, 2) := by decide +kernel
theorem dX6_put_34 : decode cX6_put 34 = .ok (.iload 4, 2) := by decide +kernel
theorem dX6_put_36 : decode cX6_put 36 = .ok (.ifCond .lt 29, 3) := by decide +kernel
theorem dX6_put_39 : decode cX6_put 39 = .ok (.aload_n 0, 1) := by decide +kernel
theorem dX6_put_40 : decode cX6_put 40 = .ok (.getfield 33, 3) := by decide +kernel
theorem dX6_put_43 : decode cX6_put 43 = .ok (.lload_n 1, 1) := by decide +kernel
theorem dX6_put_44 : decode cX6_put 44 = .ok (.bipush 8, 2) := by decide +kernel
theorem dX6_put_46 : decode cX6_put 46 = .ok (.iload 4, 2) := by decide +kernel
theorem dX6_put_48 : decode cX6_put 48 = .ok (.imul, 1) := by decide +kernel
theorem dX6_put_49 : decode cX6_put 49 = .ok (.lushr, 1) := by decide +kernel
theorem dX6_put_50 : decode cX6_put 50 = .ok (.ldc2_w 254, 3) := by decide +kernel
theorem dX6_put_53 : decode cX6_put 53 = .ok (.land, 1) := by decide +kernel
theorem dX6_put_54 : decode cX6_put 54 = .ok (.l2i, 1) := by decide +kernel
theorem dX6_put_55 : decode cX6_put 55 = .ok (.i2c, 1) := by decide +kernel
theorem dX6_put_56 : decode cX6_put 56 = .ok (.invokevirtual 256, 3) := by decide +kernel
theorem dX6_put_59 : decode cX6_put 59 = .ok (.iinc 4 (-1), 3) := by decide +kernel
theorem dX6_put_62 : decode cX6_put 62 = .ok (.goto (-28), 3) := by decide +kernel
theorem dX6_put_65 : decode cX6_put 65 = .ok (.aload_n 0, 1) := by decide +kernel
theorem dX6_put_66 : decode cX6_put 66 = .ok (.getfield 33, 3) := by decide +kernel
theorem dX6_put_69 : decode cX6_put 69 = .ok (.getfield 202, 3) := by decide +kernel
theorem dX6_put_72 : decode cX6_put 72 = .ok (.ireturn, 1) := by decide +kernel
theorem dX6_wipe_0 : decode cX6_wipe 0 = .ok (.aload_n 0, 1) := by decide +kernel
theorem dX6_wipe_1 : decode cX6_wipe 1 = .ok (.getfield 33, 3) := by decide +kernel
theorem dX6_wipe_4 : decode cX6_wipe 4 = .ok (.getfield 202, 3) := by decide +kernel
theorem dX6_wipe_7 : decode cX6_wipe 7 = .ok (.istore_n 1, 1) := by decide +kernel
theorem dX6_wipe_8 : decode cX6_wipe 8 = .ok (.aload_n 0, 1) := by decide +kernel
theorem dX6_wipe_9 : decode cX6_wipe 9 = .ok (.getfield 33, 3) := by decide +kernel
theorem dX6_wipe_12 : decode cX6_wipe 12 = .ok (.invokevirtual 260, 3) := by decide +kernel
theorem dX6_wipe_15 : decode cX6_wipe 15 = .ok (.iload_n 1, 1) := by decide +kernel
theorem dX6_wipe_16 : decode cX6_wipe 16 = .ok (.ireturn, 1) := by decide +kernel
theorem dX6_fault_0 : decode cX6_fault 0 = .ok (.aload_n 0, 1) := by decide +kernel
theorem dX6_fault_1 : decode cX6_fault 1 = .ok (.getfield 33, 3) := by decide +kernel
theorem dX6_fault_4 : decode cX6_fault 4 = .ok (.invokevirtual 263, 3) := by decide +kernel
theorem dX6_fault_7 : decode cX6_fault 7 = .ok (.ireturn, 1) := by decide +kernel
theorem dX6_carryOut_0 : decode cX6_carryOut 0 = .ok (.aload_n 0, 1) := by decide +kernel
theorem dX6_carryOut_1 : decode cX6_carryOut 1 = .ok (.getfield 33, 3) := by decide +kernel
theorem dX6_carryOut_4 : decode cX6_carryOut 4 = .ok (.invokevirtual 263, 3) := by decide +kernel
theorem dX6_carryOut_7 : decode cX6_carryOut 7 = .ok (.bipush (-6), 2) := by decide +kernel
theorem dX6_carryOut_9 : decode cX6_carryOut 9 = .ok (.if_icmp .eq 6, 3) := by decide +kernel
theorem dX6_carryOut_12 : decode cX6_carryOut 12 = .ok (.bipush (-3), 2) := by decide +kernel
theorem dX6_carryOut_14 : decode cX6_carryOut 14 = .ok (.ireturn, 1) := by decide +kernel
theorem dX6_carryOut_15 : decode cX6_carryOut 15 = .ok (.iconst 0, 1) := by decide +kernel
theorem dX6_carryOut_16 : decode cX6_carryOut 16 = .ok (.istore_n 1, 1) := by decide +kernel
theorem dX6_carryOut_17 : decode cX6_carryOut 17 = .ok (.aload_n 0, 1) := by decide +kernel
theorem dX6_carryOut_18 : decode cX6_carryOut 18 = .ok (.getfield 33, 3) := by decide +kernel
theorem dX6_carryOut_21 : decode cX6_carryOut 21 = .ok (.invokevirtual 266, 3) := by decide +kernel
theorem dX6_carryOut_24 : decode cX6_carryOut 24 = .ok (.iconst 0, 1) := by decide +kernel
theorem dX6_carryOut_25 : decode cX6_carryOut 25 = .ok (.istore_n 2, 1) := by decide +kernel
theorem dX6_carryOut_26 : decode cX6_carryOut 26 = .ok (.iload_n 2, 1) := by decide +kernel
theorem dX6_carryOut_27 : decode cX6_carryOut 27 = .ok (.bipush 60, 2) := by decide +kernel
theorem dX6_carryOut_29 : decode cX6_carryOut 29 = .ok (.if_icmp .ge 50, 3) := by decide +kernel
theorem dX6_carryOut_32 : decode cX6_carryOut 32 = .ok (.aload_n 0, 1) := by decide +kernel
theorem dX6_carryOut_33 : decode cX6_carryOut 33 = .ok (.getfield 33, 3) := by decide +kernel
theorem dX6_carryOut_36 : decode cX6_carryOut 36 = .ok (.invokevirtual 269, 3) := by decide +kernel
theorem dX6_carryOut_39 : decode cX6_carryOut 39 = .ok (.ifCond .eq 40, 3) := by decide +kernel
theorem dX6_carryOut_42 : decode cX6_carryOut 42 = .ok (.aload_n 0, 1) := by decide +kernel
theorem dX6_carryOut_43 : decode cX6_carryOut 43 = .ok (.invokevirtual 272, 3) := by decide +kernel
theorem dX6_carryOut_46 : decode cX6_carryOut 46 = .ok (.invokestatic 275, 3) := by decide +kernel
theorem dX6_carryOut_49 : decode cX6_carryOut 49 = .ok (.ifCond .eq 6, 3) := by decide +kernel
theorem dX6_carryOut_52 : decode cX6_carryOut 52 = .ok (.goto 27, 3) := by decide +kernel
theorem dX6_carryOut_55 : decode cX6_carryOut 55 = .ok (.iinc 1 1, 3) := by decide +kernel
theorem dX6_carryOut_58 : decode cX6_carryOut 58 = .ok (.aload_n 0, 1) := by decide +kernel
theorem dX6_carryOut_59 : decode cX6_carryOut 59 = .ok (.getfield 33, 3) := by decide +kernel
theorem dX6_carryOut_62 : decode cX6_carryOut 62 = .ok (.bipush 44, 2) := by decide +kernel
theorem dX6_carryOut_64 : decode cX6_carryOut 64 = .ok (.invokevirtual 278, 3) := by decide +kernel
theorem dX6_carryOut_67 : decode cX6_carryOut 67 = .ok (.ifCond .ne 6, 3) := by decide +kernel
theorem dX6_carryOut_70 : decode cX6_carryOut 70 = .ok (.goto 9, 3) := by decide +kernel
theorem dX6_carryOut_73 : decode cX6_carryOut 73 = .ok (.iinc 2 1, 3) := by decide +kernel
theorem dX6_carryOut_76 : decode cX6_carryOut 76 = .ok (.goto (-50), 3) := by decide +kernel
theorem dX6_carryOut_79 : decode cX6_carryOut 79 = .ok (.aload_n 0, 1) := by decide +kernel
theorem dX6_carryOut_80 : decode cX6_carryOut 80 = .ok (.getfield 33, 3) := by decide +kernel
theorem dX6_carryOut_83 : decode cX6_carryOut 83 = .ok (.invokevirtual 260, 3) := by decide +kernel
theorem dX6_carryOut_86 : decode cX6_carryOut 86 = .ok (.iload_n 1, 1) := by decide +kernel
theorem dX6_carryOut_87 : decode cX6_carryOut 87 = .ok (.ireturn, 1) := by decide +kernel
theorem dX6_carryOutAct_0 : decode cX6_carryOutAct 0 = .ok (.aload_n 0, 1) := by decide +kernel
theorem dX6_carryOutAct_1 : decode cX6_carryOutAct 1 = .ok (.getfield 33, 3) := by decide +kernel
theorem dX6_carryOutAct_4 : decode cX6_carryOutAct 4 = .ok (.getfield 282, 3) := by decide +kernel
theorem dX6_carryOutAct_7 : decode cX6_carryOutAct 7 = .ok (.lookupswitch 108 #[(98, 63), (109, 100), (112, 85), (115, 41)], 41) := by decide +kernel
theorem dX6_carryOutAct_48 : decode cX6_carryOutAct 48 = .ok (.aload_n 0, 1) := by decide +kernel
theorem dX6_carryOutAct_49 : decode cX6_carryOutAct 49 = .ok (.getfield 10, 3) := by decide +kernel
theorem dX6_carryOutAct_52 : decode cX6_carryOutAct 52 = .ok (.aload_n 0, 1) := by decide +kernel
theorem dX6_carryOutAct_53 : decode cX6_carryOutAct 53 = .ok (.getfield 33, 3) := by decide +kernel
theorem dX6_carryOutAct_56 : decode cX6_carryOutAct 56 = .ok (.getfield 285, 3) := by decide +kernel
theorem dX6_carryOutAct_59 : decode cX6_carryOutAct 59 = .ok (.aload_n 0, 1) := by decide +kernel
theorem dX6_carryOutAct_60 : decode cX6_carryOutAct 60 = .ok (.getfield 33, 3) := by decide +kernel
theorem dX6_carryOutAct_63 : decode cX6_carryOutAct 63 = .ok (.getfield 288, 3) := by decide +kernel
theorem dX6_carryOutAct_66 : decode cX6_carryOutAct 66 = .ok (.invokevirtual 98, 3) := by decide +kernel
theorem dX6_carryOutAct_69 : decode cX6_carryOutAct 69 = .ok (.ireturn, 1) := by decide +kernel
theorem dX6_carryOutAct_70 : decode cX6_carryOutAct 70 = .ok (.aload_n 0, 1) := by decide +kernel
theorem dX6_carryOutAct_71 : decode cX6_carryOutAct 71 = .ok (.getfield 10, 3) := by decide +kernel
theorem dX6_carryOutAct_74 : decode cX6_carryOutAct 74 = .ok (.aload_n 0, 1) := by decide +kernel
theorem dX6_carryOutAct_75 : decode cX6_carryOutAct 75 = .ok (.getfield 33, 3) := by decide +kernel
theorem dX6_carryOutAct_78 : decode cX6_carryOutAct 78 = .ok (.getfield 285, 3) := by decide +kernel
theorem dX6_carryOutAct_81 : decode cX6_carryOutAct 81 = .ok (.aload_n 0, 1) := by decide +kernel
theorem dX6_carryOutAct_82 : decode cX6_carryOutAct 82 = .ok (.getfield 33, 3) := by decide +kernel
theorem dX6_carryOutAct_85 : decode cX6_carryOutAct 85 = .ok (.getfield 288, 3) := by decide +kernel
theorem dX6_carryOutAct_88 : decode cX6_carryOutAct 88 = .ok (.invokevirtual 101, 3) := by decide +kernel
theorem dX6_carryOutAct_91 : decode cX6_carryOutAct 91 = .ok (.ireturn, 1) := by decide +kernel
theorem dX6_carryOutAct_92 : decode cX6_carryOutAct 92 = .ok (.aload_n 0, 1) := by decide +kernel
theorem dX6_carryOutAct_93 : decode cX6_carryOutAct 93 = .ok (.getfield 10, 3) := by decide +kernel
theorem dX6_carryOutAct_96 : decode cX6_carryOutAct 96 = .ok (.aload_n 0, 1) := by decide +kernel
theorem dX6_carryOutAct_97 : decode cX6_carryOutAct 97 = .ok (.getfield 33, 3) := by decide +kernel
theorem dX6_carryOutAct_100 : decode cX6_carryOutAct 100 = .ok (.getfield 285, 3) := by decide +kernel
theorem dX6_carryOutAct_103 : decode cX6_carryOutAct 103 = .ok (.invokevirtual 104, 3) := by decide +kernel
theorem dX6_carryOutAct_106 : decode cX6_carryOutAct 106 = .ok (.ireturn, 1) := by decide +kernel
theorem dX6_carryOutAct_107 : decode cX6_carryOutAct 107 = .ok (.aload_n 0, 1) := by decide +kernel
theorem dX6_carryOutAct_108 : decode cX6_carryOutAct 108 = .ok (.getfield 10, 3) := by decide +kernel
theorem dX6_carryOutAct_111 : decode cX6_carryOutAct 111 = .ok (.invokevirtual 108, 3) := by decide +kernel
theorem dX6_carryOutAct_114 : decode cX6_carryOutAct 114 = .ok (.ireturn, 1) := by decide +kernel
theorem dX6_carryOutAct_115 : decode cX6_carryOutAct 115 = .ok (.aload_n 0, 1) := by decide +kernel
theorem dX6_carryOutAct_116 : decode cX6_carryOutAct 116 = .ok (.getfield 10, 3) := by decide +kernel
theorem dX6_carryOutAct_119 : decode cX6_carryOutAct 119 = .ok (.invokevirtual 112, 3) := by decide +kernel
theorem dX6_carryOutAct_122 : decode cX6_carryOutAct 122 = .ok (.ireturn, 1) := by decide +kernel
theorem dX6_save_0 : decode cX6_save 0 = .ok (.iload_n 1, 1) := by decide +kernel
theorem dX6_save_1 : decode cX6_save 1 = .ok (.invokestatic 291, 3) := by decide +kernel
theorem dX6_save_4 : decode cX6_save 4 = .ok (.ifCond .ne 6, 3) := by decide +kernel
theorem dX6_save_7 : decode cX6_save 7 = .ok (.bipush (-2), 2) := by decide +kernel
theorem dX6_save_9 : decode cX6_save 9 = .ok (.ireturn, 1) := by decide +kernel
theorem dX6_save_10 : decode cX6_save 10 = .ok (.aload_n 0, 1) := by decide +kernel
theorem dX6_save_11 : decode cX6_save 11 = .ok (.getfield 19, 3) := by decide +kernel
theorem dX6_save_14 : decode cX6_save 14 = .ok (.iload_n 1, 1) := by decide +kernel
theorem dX6_save_15 : decode cX6_save 15 = .ok (.aaload, 1) := by decide +kernel
theorem dX6_save_16 : decode cX6_save 16 = .ok (.astore_n 2, 1) := by decide +kernel
theorem dX6_save_17 : decode cX6_save 17 = .ok (.aload_n 2, 1) := by decide +kernel
theorem dX6_save_18 : decode cX6_save 18 = .ok (.ifnonnull 18, 3) := by decide +kernel
theorem dX6_save_21 : decode cX6_save 21 = .ok (.new 7, 3) := by decide +kernel
theorem dX6_save_24 : decode cX6_save 24 = .ok (.dup, 1) := by decide +kernel
theorem dX6_save_25 : decode cX6_save 25 = .ok (.invokespecial 9, 3) := by decide +kernel
theorem dX6_save_28 : decode cX6_save 28 = .ok (.astore_n 2, 1) := by decide +kernel
theorem dX6_save_29 : decode cX6_save 29 = .ok (.aload_n 0, 1) := by decide +kernel
theorem dX6_save_30 : decode cX6_save 30 = .ok (.getfield 19, 3) := by decide +kernel
theorem dX6_save_33 : decode cX6_save 33 = .ok (.iload_n 1, 1) := by decide +kernel
theorem dX6_save_34 : decode cX6_save 34 = .ok (.aload_n 2, 1) := by decide +kernel
theorem dX6_save_35 : decode cX6_save 35 = .ok (.aastore, 1) := by decide +kernel
theorem dX6_save_36 : decode cX6_save 36 = .ok (.aload_n 2, 1) := by decide +kernel
theorem dX6_save_37 : decode cX6_save 37 = .ok (.aload_n 0, 1) := by decide +kernel
theorem dX6_save_38 : decode cX6_save 38 = .ok (.getfield 10, 3) := by decide +kernel
theorem dX6_save_41 : decode cX6_save 41 = .ok (.invokevirtual 235, 3) := by decide +kernel
theorem dX6_save_44 : decode cX6_save 44 = .ok (.aload_n 0, 1) := by decide +kernel
theorem dX6_save_45 : decode cX6_save 45 = .ok (.getfield 10, 3) := by decide +kernel
theorem dX6_save_48 : decode cX6_save 48 = .ok (.getfield 86, 3) := by decide +kernel
theorem dX6_save_51 : decode cX6_save 51 = .ok (.getfield 294, 3) := by decide +kernel
theorem dX6_save_54 : decode cX6_save 54 = .ok (.ireturn, 1) := by decide +kernel
theorem dX6_restore_0 : decode cX6_restore 0 = .ok (.iload_n 1, 1) := by decide +kernel
theorem dX6_restore_1 : decode cX6_restore 1 = .ok (.invokestatic 291, 3) := by decide +kernel
theorem dX6_restore_4 : decode cX6_restore 4 = .ok (.ifCond .ne 6, 3) := by decide +kernel
theorem dX6_restore_7 : decode cX6_restore 7 = .ok (.bipush (-2), 2) := by decide +kernel
theorem dX6_restore_9 : decode cX6_restore 9 = .ok (.ireturn, 1) := by decide +kernel
theorem dX6_restore_10 : decode cX6_restore 10 = .ok (.aload_n 0, 1) := by decide +kernel
theorem dX6_restore_11 : decode cX6_restore 11 = .ok (.getfield 19, 3) := by decide +kernel
theorem dX6_restore_14 : decode cX6_restore 14 = .ok (.iload_n 1, 1) := by decide +kernel
theorem dX6_restore_15 : decode cX6_restore 15 = .ok (.aaload, 1) := by decide +kernel
theorem dX6_restore_16 : decode cX6_restore 16 = .ok (.astore_n 2, 1) := by decide +kernel
theorem dX6_restore_17 : decode cX6_restore 17 = .ok (.aload_n 2, 1) := by decide +kernel
theorem dX6_restore_18 : decode cX6_restore 18 = .ok (.ifnonnull 6, 3) := by decide +kernel
theorem dX6_restore_21 : decode cX6_restore 21 = .ok (.bipush (-5), 2) := by decide +kernel
theorem dX6_restore_23 : decode cX6_restore 23 = .ok (.ireturn, 1) := by decide +kernel
theorem dX6_restore_24 : decode cX6_restore 24 = .ok (.aload_n 0, 1) := by decide +kernel
theorem dX6_restore_25 : decode cX6_restore 25 = .ok (.getfield 10, 3) := by decide +kernel
theorem dX6_restore_28 : decode cX6_restore 28 = .ok (.aload_n 2, 1) := by decide +kernel
theorem dX6_restore_29 : decode cX6_restore 29 = .ok (.invokevirtual 235, 3) := by decide +kernel
theorem dX6_restore_32 : decode cX6_restore 32 = .ok (.aload_n 0, 1) := by decide +kernel
theorem dX6_restore_33 : decode cX6_restore 33 = .ok (.getfield 10, 3) := by decide +kernel
theorem dX6_restore_36 : decode cX6_restore 36 = .ok (.getfield 86, 3) := by decide +kernel
theorem dX6_restore_39 : decode cX6_restore 39 = .ok (.getfield 294, 3) := by decide +kernel
theorem dX6_restore_42 : decode cX6_restore 42 = .ok (.ireturn, 1) := by decide +kernel
theorem dX6_within_0 : decode cX6_within 0 = .ok (.iload_n 0, 1) := by decide +kernel
theorem dX6_within_1 : decode cX6_within 1 = .ok (.iload_n 1, 1) := by decide +kernel
theorem dX6_within_2 : decode cX6_within 2 = .ok (.if_icmp .lt 12, 3) := by decide +kernel
theorem dX6_within_5 : decode cX6_within 5 = .ok (.iload_n 0, 1) := by decide +kernel
theorem dX6_within_6 : decode cX6_within 6 = .ok (.iload_n 2, 1) := by decide +kernel
theorem dX6_within_7 : decode cX6_within 7 = .ok (.if_icmp .gt 7, 3) := by decide +kernel
theorem dX6_within_10 : decode cX6_within 10 = .ok (.iconst 1, 1) := by decide +kernel
theorem dX6_within_11 : decode cX6_within 11 = .ok (.goto 4, 3) := by decide +kernel
theorem dX6_within_14 : decode cX6_within 14 = .ok (.iconst 0, 1) := by decide +kernel
theorem dX6_within_15 : decode cX6_within 15 = .ok (.ireturn, 1) := by decide +kernel
theorem dX6_isMode_0 : decode cX6_isMode 0 = .ok (.iload_n 0, 1) := by decide +kernel
theorem dX6_isMode_1 : decode cX6_isMode 1 = .ok (.iconst 0, 1) := by decide +kernel
theorem dX6_isMode_2 : decode cX6_isMode 2 = .ok (.iconst 2, 1) := by decide +kernel
theorem dX6_isMode_3 : decode cX6_isMode 3 = .ok (.invokestatic 41, 3) := by decide +kernel
theorem dX6_isMode_6 : decode cX6_isMode 6 = .ok (.ireturn, 1) := by decide +kernel
theorem dX6_isReserve_0 : decode cX6_isReserve 0 = .ok (.iload_n 0, 1) := by decide +kernel
theorem dX6_isReserve_1 : decode cX6_isReserve 1 = .ok (.iconst 1, 1) := by decide +kernel
theorem dX6_isReserve_2 : decode cX6_isReserve 2 = .ok (.sipush 300, 3) := by decide +kernel
theorem dX6_isReserve_5 : decode cX6_isReserve 5 = .ok (.invokestatic 41, 3) := by decide +kernel
theorem dX6_isReserve_8 : decode cX6_isReserve 8 = .ok (.ireturn, 1) := by decide +kernel
theorem dX6_isSetting_0 : decode cX6_isSetting 0 = .ok (.iload_n 0, 1) := by decide +kernel
theorem dX6_isSetting_1 : decode cX6_isSetting 1 = .ok (.iconst 0, 1) := by decide +kernel
theorem dX6_isSetting_2 : decode cX6_isSetting 2 = .ok (.iconst 5, 1) := by decide +kernel
theorem dX6_isSetting_3 : decode cX6_isSetting 3 = .ok (.invokestatic 41, 3) := by decide +kernel
theorem dX6_isSetting_6 : decode cX6_isSetting 6 = .ok (.ireturn, 1) := by decide +kernel
theorem dX6_isSettingValue_0 : decode cX6_isSettingValue 0 = .ok (.iload_n 0, 1) := by decide +kernel
theorem dX6_isSettingValue_1 : decode cX6_isSettingValue 1 = .ok (.invokestatic 166, 3) := by decide +kernel
theorem dX6_isSettingValue_4 : decode cX6_isSettingValue 4 = .ok (.ifCond .eq 24, 3) := by decide +kernel
theorem dX6_isSettingValue_7 : decode cX6_isSettingValue 7 = .ok (.iload_n 1, 1) := by decide +kernel
theorem dX6_isSettingValue_8 : decode cX6_isSettingValue 8 = .ok (.getstatic 297, 3) := by decide +kernel
theorem dX6_isSettingValue_11 : decode cX6_isSettingValue 11 = .ok (.iload_n 0, 1) := by decide +kernel
theorem dX6_isSettingValue_12 : decode cX6_isSettingValue 12 = .ok (.iaload, 1) := by decide +kernel
theorem dX6_isSettingValue_13 : decode cX6_isSettingValue 13 = .ok (.getstatic 301, 3) := by decide +kernel
theorem dX6_isSettingValue_16 : decode cX6_isSettingValue 16 = .ok (.iload_n 0, 1) := by decide +kernel
theorem dX6_isSettingValue_17 : decode cX6_isSettingValue 17 = .ok (.iaload, 1) := by decide +kernel
theorem dX6_isSettingValue_18 : decode cX6_isSettingValue 18 = .ok (.invokestatic 41, 3) := by decide +kernel
theorem dX6_isSettingValue_21 : decode cX6_isSettingValue 21 = .ok (.ifCond .eq 7, 3) := by decide +kernel
theorem dX6_isSettingValue_24 : decode cX6_isSettingValue 24 = .ok (.iconst 1, 1) := by decide +kernel
theorem dX6_isSettingValue_25 : decode cX6_isSettingValue 25 = .ok (.goto 4, 3) := by decide +kernel
theorem dX6_isSettingValue_28 : decode cX6_isSettingValue 28 = .ok (.iconst 0, 1) := by decide +kernel
theorem dX6_isSettingValue_29 : decode cX6_isSettingValue 29 = .ok (.ireturn, 1) := by decide +kernel
theorem dX6_isSlot_0 : decode cX6_isSlot 0 = .ok (.iload_n 0, 1) := by decide +kernel
theorem dX6_isSlot_1 : decode cX6_isSlot 1 = .ok (.iconst 0, 1) := by decide +kernel
theorem dX6_isSlot_2 : decode cX6_isSlot 2 = .ok (.iconst 1, 1) := by decide +kernel
theorem dX6_isSlot_3 : decode cX6_isSlot 3 = .ok (.invokestatic 41, 3) := by decide +kernel
theorem dX6_isSlot_6 : decode cX6_isSlot 6 = .ok (.ireturn, 1) := by decide +kernel
theorem dX6_isError_0 : decode cX6_isError 0 = .ok (.iload_n 0, 1) := by decide +kernel
theorem dX6_isError_1 : decode cX6_isError 1 = .ok (.ifCond .ge 13, 3) := by decide +kernel
theorem dX6_isError_4 : decode cX6_isError 4 = .ok (.iload_n 0, 1) := by decide +kernel
theorem dX6_isError_5 : decode cX6_isError 5 = .ok (.bipush (-6), 2) := by decide +kernel
theorem dX6_isError_7 : decode cX6_isError 7 = .ok (.if_icmp .eq 7, 3) := by decide +kernel
theorem dX6_isError_10 : decode cX6_isError 10 = .ok (.iconst 1, 1) := by decide +kernel
theorem dX6_isError_11 : decode cX6_isError 11 = .ok (.goto 4, 3) := by decide +kernel
theorem dX6_isError_14 : decode cX6_isError 14 = .ok (.iconst 0, 1) := by decide +kernel
theorem dX6_isError_15 : decode cX6_isError 15 = .ok (.ireturn, 1) := by decide +kernel
theorem dX6_signsIn_0 : decode cX6_signsIn 0 = .ok (.lload_n 0, 1) := by decide +kernel
theorem dX6_signsIn_1 : decode cX6_signsIn 1 = .ok (.lstore_n 2, 1) := by decide +kernel
theorem dX6_signsIn_2 : decode cX6_signsIn 2 = .ok (.iconst 0, 1) := by decide +kernel
theorem dX6_signsIn_3 : decode cX6_signsIn 3 = .ok (.istore 4, 2) := by decide +kernel
theorem dX6_signsIn_5 : decode cX6_signsIn 5 = .ok (.iconst 0, 1) := by decide +kernel
theorem dX6_signsIn_6 : decode cX6_signsIn 6 = .ok (.istore 5, 2) := by decide +kernel
theorem dX6_signsIn_8 : decode cX6_signsIn 8 = .ok (.iload 5, 2) := by decide +kernel
theorem dX6_signsIn_10 : decode cX6_signsIn 10 = .ok (.bipush 8, 2) := by decide +kernel
theorem dX6_signsIn_12 : decode cX6_signsIn 12 = .ok (.if_icmp .ge 45, 3) := by decide +kernel
theorem dX6_signsIn_15 : decode cX6_signsIn 15 = .ok (.lload_n 2, 1) := by decide +kernel
theorem dX6_signsIn_16 : decode cX6_signsIn 16 = .ok (.ldc2_w 254, 3) := by decide +kernel
theorem dX6_signsIn_19 : decode cX6_signsIn 19 = .ok (.land, 1) := by decide +kernel
theorem dX6_signsIn_20 : decode cX6_signsIn 20 = .ok (.lconst 0, 1) := by decide +kernel
theorem dX6_signsIn_21 : decode cX6_signsIn 21 = .ok (.lcmp, 1) := by decide +kernel
theorem dX6_signsIn_22 : decode cX6_signsIn 22 = .ok (.ifCond .eq 35, 3) := by decide +kernel
theorem dX6_signsIn_25 : decode cX6_signsIn 25 = .ok (.lload_n 2, 1) := by decide +kernel
theorem dX6_signsIn_26 : decode cX6_signsIn 26 = .ok (.ldc2_w 254, 3) := by decide +kernel
theorem dX6_signsIn_29 : decode cX6_signsIn 29 = .ok (.land, 1) := by decide +kernel
theorem dX6_signsIn_30 : decode cX6_signsIn 30 = .ok (.l2i, 1) := by decide +kernel
theorem dX6_signsIn_31 : decode cX6_signsIn 31 = .ok (.bipush 33, 2) := by decide +kernel
theorem dX6_signsIn_33 : decode cX6_signsIn 33 = .ok (.bipush 126, 2) := by decide +kernel
theorem dX6_signsIn_35 : decode cX6_signsIn 35 = .ok (.invokestatic 41, 3) := by decide +kernel
theorem dX6_signsIn_38 : decode cX6_signsIn 38 = .ok (.ifCond .ne 5, 3) := by decide +kernel
theorem dX6_signsIn_41 : decode cX6_signsIn 41 = .ok (.iconst 0, 1) := by decide +kernel
theorem dX6_signsIn_42 : decode cX6_signsIn 42 = .ok (.ireturn, 1) := by decide +kernel
theorem dX6_signsIn_43 : decode cX6_signsIn 43 = .ok (.lload_n 2, 1) := by decide +kernel
theorem dX6_signsIn_44 : decode cX6_signsIn 44 = .ok (.bipush 8, 2) := by decide +kernel
theorem dX6_signsIn_46 : decode cX6_signsIn 46 = .ok (.lushr, 1) := by decide +kernel
theorem dX6_signsIn_47 : decode cX6_signsIn 47 = .ok (.lstore_n 2, 1) := by decide +kernel
theorem dX6_signsIn_48 : decode cX6_signsIn 48 = .ok (.iinc 4 1, 3) := by decide +kernel
theorem dX6_signsIn_51 : decode cX6_signsIn 51 = .ok (.iinc 5 1, 3) := by decide +kernel
theorem dX6_signsIn_54 : decode cX6_signsIn 54 = .ok (.goto (-46), 3) := by decide +kernel
theorem dX6_signsIn_57 : decode cX6_signsIn 57 = .ok (.lload_n 2, 1) := by decide +kernel
theorem dX6_signsIn_58 : decode cX6_signsIn 58 = .ok (.lconst 0, 1) := by decide +kernel
theorem dX6_signsIn_59 : decode cX6_signsIn 59 = .ok (.lcmp, 1) := by decide +kernel
theorem dX6_signsIn_60 : decode cX6_signsIn 60 = .ok (.ifCond .ne 8, 3) := by decide +kernel
theorem dX6_signsIn_63 : decode cX6_signsIn 63 = .ok (.iload 4, 2) := by decide +kernel
theorem dX6_signsIn_65 : decode cX6_signsIn 65 = .ok (.goto 4, 3) := by decide +kernel
theorem dX6_signsIn_68 : decode cX6_signsIn 68 = .ok (.iconst 0, 1) := by decide +kernel
theorem dX6_signsIn_69 : decode cX6_signsIn 69 = .ok (.ireturn, 1) := by decide +kernel
theorem dX6_copyRow_0 : decode cX6_copyRow 0 = .ok (.aload_n 0, 1) := by decide +kernel
theorem dX6_copyRow_1 : decode cX6_copyRow 1 = .ok (.iconst 0, 1) := by decide +kernel
theorem dX6_copyRow_2 : decode cX6_copyRow 2 = .ok (.aload_n 1, 1) := by decide +kernel
theorem dX6_copyRow_3 : decode cX6_copyRow 3 = .ok (.iconst 0, 1) := by decide +kernel
theorem dX6_copyRow_4 : decode cX6_copyRow 4 = .ok (.aload_n 0, 1) := by decide +kernel
theorem dX6_copyRow_5 : decode cX6_copyRow 5 = .ok (.arraylength, 1) := by decide +kernel
theorem dX6_copyRow_6 : decode cX6_copyRow 6 = .ok (.aload_n 1, 1) := by decide +kernel
theorem dX6_copyRow_7 : decode cX6_copyRow 7 = .ok (.arraylength, 1) := by decide +kernel
theorem dX6_copyRow_8 : decode cX6_copyRow 8 = .ok (.invokestatic 304, 3) := by decide +kernel
theorem dX6_copyRow_11 : decode cX6_copyRow 11 = .ok (.invokestatic 309, 3) := by decide +kernel
theorem dX6_copyRow_14 : decode cX6_copyRow 14 = .ok (.return_, 1) := by decide +kernel
theorem dX7_init_0 : decode cX7_init 0 = .ok (.aload_n 0, 1) := by decide +kernel
theorem dX7_init_1 : decode cX7_init 1 = .ok (.invokespecial 1, 3) := by decide +kernel
theorem dX7_init_4 : decode cX7_init 4 = .ok (.aload_n 0, 1) := by decide +kernel
theorem dX7_init_5 : decode cX7_init 5 = .ok (.bipush 118, 2) := by decide +kernel
theorem dX7_init_7 : decode cX7_init 7 = .ok (.newarray .int, 2) := by decide +kernel
theorem dX7_init_9 : decode cX7_init 9 = .ok (.putfield 7, 3) := by decide +kernel
theorem dX7_init_12 : decode cX7_init 12 = .ok (.aload_n 0, 1) := by decide +kernel
theorem dX7_init_13 : decode cX7_init 13 = .ok (.bipush 118, 2) := by decide +kernel
theorem dX7_init_15 : decode cX7_init 15 = .ok (.newarray .int, 2) := by decide +kernel
theorem dX7_init_17 : decode cX7_init 17 = .ok (.putfield 13, 3) := by decide +kernel
theorem dX7_init_20 : decode cX7_init 20 = .ok (.aload_n 0, 1) := by decide +kernel
theorem dX7_init_21 : decode cX7_init 21 = .ok (.sipush 236, 3) := by decide +kernel
theorem dX7_init_24 : decode cX7_init 24 = .ok (.newarray .int, 2) := by decide +kernel
theorem dX7_init_26 : decode cX7_init 26 = .ok (.putfield 16, 3) := by decide +kernel
theorem dX7_init_29 : decode cX7_init 29 = .ok (.aload_n 0, 1) := by decide +kernel
theorem dX7_init_30 : decode cX7_init 30 = .ok (.iconst 2, 1) := by decide +kernel
theorem dX7_init_31 : decode cX7_init 31 = .ok (.newarray .boolean, 2) := by decide +kernel
theorem dX7_init_33 : decode cX7_init 33 = .ok (.putfield 19, 3) := by decide +kernel
theorem dX7_init_36 : decode cX7_init 36 = .ok (.aload_n 0, 1) := by decide +kernel
theorem dX7_init_37 : decode cX7_init 37 = .ok (.bipush 60, 2) := by decide +kernel
theorem dX7_init_39 : decode cX7_init 39 = .ok (.newarray .int, 2) := by decide +kernel
theorem dX7_init_41 : decode cX7_init 41 = .ok (.putfield 23, 3) := by decide +kernel
theorem dX7_init_44 : decode cX7_init 44 = .ok (.aload_n 0, 1) := by decide +kernel
theorem dX7_init_45 : decode cX7_init 45 = .ok (.bipush 6, 2) := by decide +kernel
theorem dX7_init_47 : decode cX7_init 47 = .ok (.newarray .int, 2) := by decide +kernel
theorem dX7_init_49 : decode cX7_init 49 = .ok (.putfield 26, 3) := by decide +kernel
theorem dX7_init_52 : decode cX7_init 52 = .ok (.aload_n 0, 1) := by decide +kernel
theorem dX7_init_53 : decode cX7_init 53 = .ok (.sipush 1801, 3) := by decide +kernel
theorem dX7_init_56 : decode cX7_init 56 = .ok (.newarray .long, 2) := by decide +kernel
theorem dX7_init_58 : decode cX7_init 58 = .ok (.putfield 29, 3) := by decide +kernel
theorem dX7_init_61 : decode cX7_init 61 = .ok (.aload_n 0, 1) := by decide +kernel
theorem dX7_init_62 : decode cX7_init 62 = .ok (.sipush 1801, 3) := by decide +kernel
theorem dX7_init_65 : decode cX7_init 65 = .ok (.newarray .long, 2) := by decide +kernel
theorem dX7_init_67 : decode cX7_init 67 = .ok (.putfield 33, 3) := by decide +kernel
theorem dX7_init_70 : decode cX7_init 70 = .ok (.aload_n 0, 1) := by decide +kernel
theorem dX7_init_71 : decode cX7_init 71 = .ok (.bipush 93, 2) := by decide +kernel
theorem dX7_init_73 : decode cX7_init 73 = .ok (.newarray .int, 2) := by decide +kernel
theorem dX7_init_75 : decode cX7_init 75 = .ok (.putfield 36, 3) := by decide +kernel
theorem dX7_init_78 : decode cX7_init 78 = .ok (.aload_n 0, 1) := by decide +kernel
theorem dX7_init_79 : decode cX7_init 79 = .ok (.getfield 7, 3) := by decide +kernel
theorem dX7_init_82 : decode cX7_init 82 = .ok (.bipush 10, 2) := by decide +kernel
theorem dX7_init_84 : decode cX7_init 84 = .ok (.bipush 100, 2) := by decide +kernel
theorem dX7_init_86 : decode cX7_init 86 = .ok (.iastore, 1) := by decide +kernel
theorem dX7_init_87 : decode cX7_init 87 = .ok (.aload_n 0, 1) := by decide +kernel
theorem dX7_init_88 : decode cX7_init 88 = .ok (.getfield 7, 3) := by decide +kernel
theorem dX7_init_91 : decode cX7_init 91 = .ok (.bipush 11, 2) := by decide +kernel
theorem dX7_init_93 : decode cX7_init 93 = .ok (.iconst 5, 1) := by decide +kernel
theorem dX7_init_94 : decode cX7_init 94 = .ok (.iastore, 1) := by decide +kernel
theorem dX7_init_95 : decode cX7_init 95 = .ok (.aload_n 0, 1) := by decide +kernel
theorem dX7_init_96 : decode cX7_init 96 = .ok (.getfield 7, 3) := by decide +kernel
theorem dX7_init_99 : decode cX7_init 99 = .ok (.bipush 12, 2) := by decide +kernel
theorem dX7_init_101 : decode cX7_init 101 = .ok (.bipush 12, 2) := by decide +kernel
theorem dX7_init_103 : decode cX7_init 103 = .ok (.iastore, 1) := by decide +kernel
theorem dX7_init_104 : decode cX7_init 104 = .ok (.aload_n 0, 1) := by decide +kernel
theorem dX7_init_105 : decode cX7_init 105 = .ok (.getfield 7, 3) := by decide +kernel
theorem dX7_init_108 : decode cX7_init 108 = .ok (.bipush 13, 2) := by decide +kernel
theorem dX7_init_110 : decode cX7_init 110 = .ok (.iconst 4, 1) := by decide +kernel
theorem dX7_init_111 : decode cX7_init 111 = .ok (.iastore, 1) := by decide +kernel
theorem dX7_init_112 : decode cX7_init 112 = .ok (.aload_n 0, 1) := by decide +kernel
theorem dX7_init_113 : decode cX7_init 113 = .ok (.getfield 7, 3) := by decide +kernel
theorem dX7_init_116 : decode cX7_init 116 = .ok (.bipush 14, 2) := by decide +kernel
theorem dX7_init_118 : decode cX7_init 118 = .ok (.bipush 15, 2) := by decide +kernel
theorem dX7_init_120 : decode cX7_init 120 = .ok (.iastore, 1) := by decide +kernel
theorem dX7_init_121 : decode cX7_init 121 = .ok (.aload_n 0, 1) := by decide +kernel
theorem dX7_init_122 : decode cX7_init 122 = .ok (.getfield 7, 3) := by decide +kernel
theorem dX7_init_125 : decode cX7_init 125 = .ok (.bipush 15, 2) := by decide +kernel
theorem dX7_init_127 : decode cX7_init 127 = .ok (.iconst 5, 1) := by decide +kernel
theorem dX7_init_128 : decode cX7_init 128 = .ok (.iastore, 1) := by decide +kernel
theorem dX7_init_129 : decode cX7_init 129 = .ok (.aload_n 0, 1) := by decide +kernel
theorem dX7_init_130 : decode cX7_init 130 = .ok (.iconst 3, 1) := by decide +kernel
theorem dX7_init_131 : decode cX7_init 131 = .ok (.invokevirtual 39, 3) := by decide +kernel
theorem dX7_init_134 : decode cX7_init 134 = .ok (.return_, 1) := by decide +kernel
theorem dX7_in_0 : decode cX7_in 0 = .ok (.iload_n 0, 1) := by decide +kernel
theorem dX7_in_1 : decode cX7_in 1 = .ok (.iload_n 1, 1) := by decide +kernel
theorem dX7_in_2 : decode cX7_in 2 = .ok (.if_icmp .lt 12, 3) := by decide +kernel
theorem dX7_in_5 : decode cX7_in 5 = .ok (.iload_n 0, 1) := by decide +kernel
theorem dX7_in_6 : decode cX7_in 6 = .ok (.iload_n 2, 1) := by decide +kernel
theorem dX7_in_7 : decode cX7_in 7 = .ok (.if_icmp .gt 7, 3) := by decide +kernel
theorem dX7_in_10 : decode cX7_in 10 = .ok (.iconst 1, 1) := by decide +kernel
theorem dX7_in_11 : decode cX7_in 11 = .ok (.goto 4, 3) := by decide +kernel
theorem dX7_in_14 : decode cX7_in 14 = .ok (.iconst 0, 1) := by decide +kernel
theorem dX7_in_15 : decode cX7_in 15 = .ok (.ireturn, 1) := by decide +kernel
theorem dX7_setting_0 : decode cX7_setting 0 = .ok (.aload_n 0, 1) := by decide +kernel
theorem dX7_setting_1 : decode cX7_setting 1 = .ok (.getfield 7, 3) := by decide +kernel
theorem dX7_setting_4 : decode cX7_setting 4 = .ok (.bipush 10, 2) := by decide +kernel
theorem dX7_setting_6 : decode cX7_setting 6 = .ok (.iload_n 1, 1) := by decide +kernel
theorem dX7_setting_7 : decode cX7_setting 7 = .ok (.iadd, 1) := by decide +kernel
theorem dX7_setting_8 : decode cX7_setting 8 = .ok (.iaload, 1) := by decide +kernel
theorem dX7_setting_9 : decode cX7_setting 9 = .ok (.ireturn, 1) := by decide +kernel
theorem dX7_of_0 : decode cX7_of 0 = .ok (.aload_n 0, 1) := by decide +kernel
theorem dX7_of_1 : decode cX7_of 1 = .ok (.getfield 7, 3) := by decide +kernel
theorem dX7_of_4 : decode cX7_of 4 = .ok (.bipush 16, 2) := by decide +kernel
theorem dX7_of_6 : decode cX7_of 6 = .ok (.bipush 7, 2) := by decide +kernel
theorem dX7_of_8 : decode cX7_of 8 = .ok (.iload_n 1, 1) := by decide +kernel
theorem dX7_of_9 : decode cX7_of 9 = .ok (.imul, 1) := by decide +kernel
theorem dX7_of_10 : decode cX7_of 10 = .ok (.iadd, 1) := by decide +kernel
theorem dX7_of_11 : decode cX7_of 11 = .ok (.iload_n 2, 1) := by decide +kernel
theorem dX7_of_12 : decode cX7_of 12 = .ok (.iadd, 1) := by decide +kernel
theorem dX7_of_13 : decode cX7_of 13 = .ok (.iaload, 1) := by decide +kernel
theorem dX7_of_14 : decode cX7_of 14 = .ok (.ireturn, 1) := by decide +kernel
theorem dX7_lay_0 : decode cX7_lay 0 = .ok (.aload_n 0, 1) := by decide +kernel
theorem dX7_lay_1 : decode cX7_lay 1 = .ok (.getfield 7, 3) := by decide +kernel
