theorem dX0_init_0 : decode cX0_init 0 = .ok (.aload_n 0, 1) := by decide +kernel
theorem dX0_init_1 : decode cX0_init 1 = .ok (.invokespecial 3, 3) := by decide +kernel
theorem dX0_init_4 : decode cX0_init 4 = .ok (.aload_n 0, 1) := by decide +kernel
theorem dX0_init_5 : decode cX0_init 5 = .ok (.bipush 6, 2) := by decide +kernel
theorem dX0_init_7 : decode cX0_init 7 = .ok (.newarray .int, 2) := by decide +kernel
theorem dX0_init_9 : decode cX0_init 9 = .ok (.putfield 9, 3) := by decide +kernel
theorem dX0_init_12 : decode cX0_init 12 = .ok (.aload_n 0, 1) := by decide +kernel
theorem dX0_init_13 : decode cX0_init 13 = .ok (.invokevirtual 15, 3) := by decide +kernel
theorem dX0_init_16 : decode cX0_init 16 = .ok (.return_, 1) := by decide +kernel
theorem dX0_clear_0 : decode cX0_clear 0 = .ok (.aload_n 0, 1) := by decide +kernel
theorem dX0_clear_1 : decode cX0_clear 1 = .ok (.bipush (-6), 2) := by decide +kernel
theorem dX0_clear_3 : decode cX0_clear 3 = .ok (.putfield 18, 3) := by decide +kernel
theorem dX0_clear_6 : decode cX0_clear 6 = .ok (.aload_n 0, 1) := by decide +kernel
theorem dX0_clear_7 : decode cX0_clear 7 = .ok (.bipush (-6), 2) := by decide +kernel
theorem dX0_clear_9 : decode cX0_clear 9 = .ok (.putfield 22, 3) := by decide +kernel
theorem dX0_clear_12 : decode cX0_clear 12 = .ok (.aload_n 0, 1) := by decide +kernel
theorem dX0_clear_13 : decode cX0_clear 13 = .ok (.bipush (-6), 2) := by decide +kernel
theorem dX0_clear_15 : decode cX0_clear 15 = .ok (.putfield 25, 3) := by decide +kernel
theorem dX0_clear_18 : decode cX0_clear 18 = .ok (.aload_n 0, 1) := by decide +kernel
theorem dX0_clear_19 : decode cX0_clear 19 = .ok (.bipush (-6), 2) := by decide +kernel
theorem dX0_clear_21 : decode cX0_clear 21 = .ok (.putfield 28, 3) := by decide +kernel
theorem dX0_clear_24 : decode cX0_clear 24 = .ok (.aload_n 0, 1) := by decide +kernel
theorem dX0_clear_25 : decode cX0_clear 25 = .ok (.bipush (-6), 2) := by decide +kernel
theorem dX0_clear_27 : decode cX0_clear 27 = .ok (.putfield 31, 3) := by decide +kernel
theorem dX0_clear_30 : decode cX0_clear 30 = .ok (.aload_n 0, 1) := by decide +kernel
theorem dX0_clear_31 : decode cX0_clear 31 = .ok (.bipush (-6), 2) := by decide +kernel
theorem dX0_clear_33 : decode cX0_clear 33 = .ok (.putfield 34, 3) := by decide +kernel
theorem dX0_clear_36 : decode cX0_clear 36 = .ok (.aload_n 0, 1) := by decide +kernel
theorem dX0_clear_37 : decode cX0_clear 37 = .ok (.iconst 0, 1) := by decide +kernel
theorem dX0_clear_38 : decode cX0_clear 38 = .ok (.putfield 37, 3) := by decide +kernel
theorem dX0_clear_41 : decode cX0_clear 41 = .ok (.aload_n 0, 1) := by decide +kernel
theorem dX0_clear_42 : decode cX0_clear 42 = .ok (.bipush (-6), 2) := by decide +kernel
theorem dX0_clear_44 : decode cX0_clear 44 = .ok (.putfield 40, 3) := by decide +kernel
theorem dX0_clear_47 : decode cX0_clear 47 = .ok (.iconst 0, 1) := by decide +kernel
theorem dX0_clear_48 : decode cX0_clear 48 = .ok (.istore_n 1, 1) := by decide +kernel
theorem dX0_clear_49 : decode cX0_clear 49 = .ok (.iload_n 1, 1) := by decide +kernel
theorem dX0_clear_50 : decode cX0_clear 50 = .ok (.bipush 6, 2) := by decide +kernel
theorem dX0_clear_52 : decode cX0_clear 52 = .ok (.if_icmp .ge 17, 3) := by decide +kernel
theorem dX0_clear_55 : decode cX0_clear 55 = .ok (.aload_n 0, 1) := by decide +kernel
theorem dX0_clear_56 : decode cX0_clear 56 = .ok (.getfield 9, 3) := by decide +kernel
theorem dX0_clear_59 : decode cX0_clear 59 = .ok (.iload_n 1, 1) := by decide +kernel
theorem dX0_clear_60 : decode cX0_clear 60 = .ok (.bipush (-6), 2) := by decide +kernel
theorem dX0_clear_62 : decode cX0_clear 62 = .ok (.iastore, 1) := by decide +kernel
theorem dX0_clear_63 : decode cX0_clear 63 = .ok (.iinc 1 1, 3) := by decide +kernel
theorem dX0_clear_66 : decode cX0_clear 66 = .ok (.goto (-17), 3) := by decide +kernel
theorem dX0_clear_69 : decode cX0_clear 69 = .ok (.return_, 1) := by decide +kernel
theorem dX0_start_0 : decode cX0_start 0 = .ok (.aload_n 0, 1) := by decide +kernel
theorem dX0_start_1 : decode cX0_start 1 = .ok (.invokevirtual 15, 3) := by decide +kernel
theorem dX0_start_4 : decode cX0_start 4 = .ok (.aload_n 0, 1) := by decide +kernel
theorem dX0_start_5 : decode cX0_start 5 = .ok (.iload_n 1, 1) := by decide +kernel
theorem dX0_start_6 : decode cX0_start 6 = .ok (.putfield 18, 3) := by decide +kernel
theorem dX0_start_9 : decode cX0_start 9 = .ok (.aload_n 0, 1) := by decide +kernel
theorem dX0_start_10 : decode cX0_start 10 = .ok (.iload_n 2, 1) := by decide +kernel
theorem dX0_start_11 : decode cX0_start 11 = .ok (.putfield 22, 3) := by decide +kernel
theorem dX0_start_14 : decode cX0_start 14 = .ok (.aload_n 0, 1) := by decide +kernel
theorem dX0_start_15 : decode cX0_start 15 = .ok (.iload_n 1, 1) := by decide +kernel
theorem dX0_start_16 : decode cX0_start 16 = .ok (.iconst 2, 1) := by decide +kernel
theorem dX0_start_17 : decode cX0_start 17 = .ok (.if_icmp .ne 7, 3) := by decide +kernel
theorem dX0_start_20 : decode cX0_start 20 = .ok (.iload_n 2, 1) := by decide +kernel
theorem dX0_start_21 : decode cX0_start 21 = .ok (.goto 5, 3) := by decide +kernel
theorem dX0_start_24 : decode cX0_start 24 = .ok (.bipush (-6), 2) := by decide +kernel
theorem dX0_start_26 : decode cX0_start 26 = .ok (.putfield 25, 3) := by decide +kernel
theorem dX0_start_29 : decode cX0_start 29 = .ok (.aload_n 0, 1) := by decide +kernel
theorem dX0_start_30 : decode cX0_start 30 = .ok (.iload_n 1, 1) := by decide +kernel
theorem dX0_start_31 : decode cX0_start 31 = .ok (.ifCond .ne 7, 3) := by decide +kernel
theorem dX0_start_34 : decode cX0_start 34 = .ok (.iload_n 3, 1) := by decide +kernel
theorem dX0_start_35 : decode cX0_start 35 = .ok (.goto 5, 3) := by decide +kernel
theorem dX0_start_38 : decode cX0_start 38 = .ok (.bipush (-6), 2) := by decide +kernel
theorem dX0_start_40 : decode cX0_start 40 = .ok (.putfield 31, 3) := by decide +kernel
theorem dX0_start_43 : decode cX0_start 43 = .ok (.aload_n 0, 1) := by decide +kernel
theorem dX0_start_44 : decode cX0_start 44 = .ok (.iconst 0, 1) := by decide +kernel
theorem dX0_start_45 : decode cX0_start 45 = .ok (.putfield 34, 3) := by decide +kernel
theorem dX0_start_48 : decode cX0_start 48 = .ok (.return_, 1) := by decide +kernel
theorem dX0_takeOver_0 : decode cX0_takeOver 0 = .ok (.aload_n 0, 1) := by decide +kernel
theorem dX0_takeOver_1 : decode cX0_takeOver 1 = .ok (.aload_n 1, 1) := by decide +kernel
theorem dX0_takeOver_2 : decode cX0_takeOver 2 = .ok (.getfield 18, 3) := by decide +kernel
theorem dX0_takeOver_5 : decode cX0_takeOver 5 = .ok (.putfield 18, 3) := by decide +kernel
theorem dX0_takeOver_8 : decode cX0_takeOver 8 = .ok (.aload_n 0, 1) := by decide +kernel
theorem dX0_takeOver_9 : decode cX0_takeOver 9 = .ok (.aload_n 1, 1) := by decide +kernel
theorem dX0_takeOver_10 : decode cX0_takeOver 10 = .ok (.getfield 22, 3) := by decide +kernel
theorem dX0_takeOver_13 : decode cX0_takeOver 13 = .ok (.putfield 22, 3) := by decide +kernel
theorem dX0_takeOver_16 : decode cX0_takeOver 16 = .ok (.aload_n 0, 1) := by decide +kernel
theorem dX0_takeOver_17 : decode cX0_takeOver 17 = .ok (.aload_n 1, 1) := by decide +kernel
theorem dX0_takeOver_18 : decode cX0_takeOver 18 = .ok (.getfield 25, 3) := by decide +kernel
theorem dX0_takeOver_21 : decode cX0_takeOver 21 = .ok (.putfield 25, 3) := by decide +kernel
theorem dX0_takeOver_24 : decode cX0_takeOver 24 = .ok (.aload_n 0, 1) := by decide +kernel
theorem dX0_takeOver_25 : decode cX0_takeOver 25 = .ok (.aload_n 1, 1) := by decide +kernel
theorem dX0_takeOver_26 : decode cX0_takeOver 26 = .ok (.getfield 28, 3) := by decide +kernel
theorem dX0_takeOver_29 : decode cX0_takeOver 29 = .ok (.putfield 28, 3) := by decide +kernel
theorem dX0_takeOver_32 : decode cX0_takeOver 32 = .ok (.aload_n 0, 1) := by decide +kernel
theorem dX0_takeOver_33 : decode cX0_takeOver 33 = .ok (.aload_n 1, 1) := by decide +kernel
theorem dX0_takeOver_34 : decode cX0_takeOver 34 = .ok (.getfield 31, 3) := by decide +kernel
theorem dX0_takeOver_37 : decode cX0_takeOver 37 = .ok (.putfield 31, 3) := by decide +kernel
theorem dX0_takeOver_40 : decode cX0_takeOver 40 = .ok (.aload_n 0, 1) := by decide +kernel
theorem dX0_takeOver_41 : decode cX0_takeOver 41 = .ok (.aload_n 1, 1) := by decide +kernel
theorem dX0_takeOver_42 : decode cX0_takeOver 42 = .ok (.getfield 34, 3) := by decide +kernel
theorem dX0_takeOver_45 : decode cX0_takeOver 45 = .ok (.putfield 34, 3) := by decide +kernel
theorem dX0_takeOver_48 : decode cX0_takeOver 48 = .ok (.aload_n 0, 1) := by decide +kernel
theorem dX0_takeOver_49 : decode cX0_takeOver 49 = .ok (.aload_n 1, 1) := by decide +kernel
theorem dX0_takeOver_50 : decode cX0_takeOver 50 = .ok (.getfield 37, 3) := by decide +kernel
theorem dX0_takeOver_53 : decode cX0_takeOver 53 = .ok (.putfield 37, 3) := by decide +kernel
theorem dX0_takeOver_56 : decode cX0_takeOver 56 = .ok (.aload_n 0, 1) := by decide +kernel
theorem dX0_takeOver_57 : decode cX0_takeOver 57 = .ok (.aload_n 1, 1) := by decide +kernel
theorem dX0_takeOver_58 : decode cX0_takeOver 58 = .ok (.getfield 40, 3) := by decide +kernel
theorem dX0_takeOver_61 : decode cX0_takeOver 61 = .ok (.putfield 40, 3) := by decide +kernel
theorem dX0_takeOver_64 : decode cX0_takeOver 64 = .ok (.aload_n 1, 1) := by decide +kernel
theorem dX0_takeOver_65 : decode cX0_takeOver 65 = .ok (.getfield 9, 3) := by decide +kernel
theorem dX0_takeOver_68 : decode cX0_takeOver 68 = .ok (.aload_n 0, 1) := by decide +kernel
theorem dX0_takeOver_69 : decode cX0_takeOver 69 = .ok (.getfield 9, 3) := by decide +kernel
theorem dX0_takeOver_72 : decode cX0_takeOver 72 = .ok (.invokestatic 43, 3) := by decide +kernel
theorem dX0_takeOver_75 : decode cX0_takeOver 75 = .ok (.return_, 1) := by decide +kernel
theorem dX0_goesOn_0 : decode cX0_goesOn 0 = .ok (.aload_n 0, 1) := by decide +kernel
theorem dX0_goesOn_1 : decode cX0_goesOn 1 = .ok (.getfield 18, 3) := by decide +kernel
theorem dX0_goesOn_4 : decode cX0_goesOn 4 = .ok (.bipush (-6), 2) := by decide +kernel
theorem dX0_goesOn_6 : decode cX0_goesOn 6 = .ok (.if_icmp .eq 7, 3) := by decide +kernel
theorem dX0_goesOn_9 : decode cX0_goesOn 9 = .ok (.iconst 1, 1) := by decide +kernel
theorem dX0_goesOn_10 : decode cX0_goesOn 10 = .ok (.goto 4, 3) := by decide +kernel
theorem dX0_goesOn_13 : decode cX0_goesOn 13 = .ok (.iconst 0, 1) := by decide +kernel
theorem dX0_goesOn_14 : decode cX0_goesOn 14 = .ok (.ireturn, 1) := by decide +kernel
theorem dX0_bidOf_0 : decode cX0_bidOf 0 = .ok (.iload_n 1, 1) := by decide +kernel
theorem dX0_bidOf_1 : decode cX0_bidOf 1 = .ok (.iconst 0, 1) := by decide +kernel
theorem dX0_bidOf_2 : decode cX0_bidOf 2 = .ok (.iconst 5, 1) := by decide +kernel
theorem dX0_bidOf_3 : decode cX0_bidOf 3 = .ok (.invokestatic 47, 3) := by decide +kernel
theorem dX0_bidOf_6 : decode cX0_bidOf 6 = .ok (.ifCond .eq 12, 3) := by decide +kernel
theorem dX0_bidOf_9 : decode cX0_bidOf 9 = .ok (.aload_n 0, 1) := by decide +kernel
theorem dX0_bidOf_10 : decode cX0_bidOf 10 = .ok (.getfield 9, 3) := by decide +kernel
theorem dX0_bidOf_13 : decode cX0_bidOf 13 = .ok (.iload_n 1, 1) := by decide +kernel
theorem dX0_bidOf_14 : decode cX0_bidOf 14 = .ok (.iaload, 1) := by decide +kernel
theorem dX0_bidOf_15 : decode cX0_bidOf 15 = .ok (.goto 5, 3) := by decide +kernel
theorem dX0_bidOf_18 : decode cX0_bidOf 18 = .ok (.bipush (-6), 2) := by decide +kernel
theorem dX0_bidOf_20 : decode cX0_bidOf 20 = .ok (.ireturn, 1) := by decide +kernel
theorem dX0_isOut_0 : decode cX0_isOut 0 = .ok (.aload_n 0, 1) := by decide +kernel
theorem dX0_isOut_1 : decode cX0_isOut 1 = .ok (.getfield 37, 3) := by decide +kernel
theorem dX0_isOut_4 : decode cX0_isOut 4 = .ok (.iload_n 1, 1) := by decide +kernel
theorem dX0_isOut_5 : decode cX0_isOut 5 = .ok (.ishr, 1) := by decide +kernel
theorem dX0_isOut_6 : decode cX0_isOut 6 = .ok (.iconst 1, 1) := by decide +kernel
theorem dX0_isOut_7 : decode cX0_isOut 7 = .ok (.iand, 1) := by decide +kernel
theorem dX0_isOut_8 : decode cX0_isOut 8 = .ok (.iconst 1, 1) := by decide +kernel
theorem dX0_isOut_9 : decode cX0_isOut 9 = .ok (.if_icmp .ne 7, 3) := by decide +kernel
theorem dX0_isOut_12 : decode cX0_isOut 12 = .ok (.iconst 1, 1) := by decide +kernel
theorem dX0_isOut_13 : decode cX0_isOut 13 = .ok (.goto 4, 3) := by decide +kernel
theorem dX0_isOut_16 : decode cX0_isOut 16 = .ok (.iconst 0, 1) := by decide +kernel
theorem dX0_isOut_17 : decode cX0_isOut 17 = .ok (.ireturn, 1) := by decide +kernel
theorem dX0_noteBid_0 : decode cX0_noteBid 0 = .ok (.iload_n 1, 1) := by decide +kernel
theorem dX0_noteBid_1 : decode cX0_noteBid 1 = .ok (.iconst 0, 1) := by decide +kernel
theorem dX0_noteBid_2 : decode cX0_noteBid 2 = .ok (.iconst 5, 1) := by decide +kernel
theorem dX0_noteBid_3 : decode cX0_noteBid 3 = .ok (.invokestatic 47, 3) := by decide +kernel
theorem dX0_noteBid_6 : decode cX0_noteBid 6 = .ok (.ifCond .ne 4, 3) := by decide +kernel
theorem dX0_noteBid_9 : decode cX0_noteBid 9 = .ok (.return_, 1) := by decide +kernel
theorem dX0_noteBid_10 : decode cX0_noteBid 10 = .ok (.aload_n 0, 1) := by decide +kernel
theorem dX0_noteBid_11 : decode cX0_noteBid 11 = .ok (.getfield 9, 3) := by decide +kernel
theorem dX0_noteBid_14 : decode cX0_noteBid 14 = .ok (.iload_n 1, 1) := by decide +kernel
theorem dX0_noteBid_15 : decode cX0_noteBid 15 = .ok (.iload_n 2, 1) := by decide +kernel
theorem dX0_noteBid_16 : decode cX0_noteBid 16 = .ok (.iastore, 1) := by decide +kernel
theorem dX0_noteBid_17 : decode cX0_noteBid 17 = .ok (.aload_n 0, 1) := by decide +kernel
theorem dX0_noteBid_18 : decode cX0_noteBid 18 = .ok (.dup, 1) := by decide +kernel
theorem dX0_noteBid_19 : decode cX0_noteBid 19 = .ok (.getfield 34, 3) := by decide +kernel
theorem dX0_noteBid_22 : decode cX0_noteBid 22 = .ok (.iconst 1, 1) := by decide +kernel
theorem dX0_noteBid_23 : decode cX0_noteBid 23 = .ok (.iadd, 1) := by decide +kernel
theorem dX0_noteBid_24 : decode cX0_noteBid 24 = .ok (.putfield 34, 3) := by decide +kernel
theorem dX0_noteBid_27 : decode cX0_noteBid 27 = .ok (.return_, 1) := by decide +kernel
theorem dX0_noteOut_0 : decode cX0_noteOut 0 = .ok (.aload_n 0, 1) := by decide +kernel
theorem dX0_noteOut_1 : decode cX0_noteOut 1 = .ok (.dup, 1) := by decide +kernel
theorem dX0_noteOut_2 : decode cX0_noteOut 2 = .ok (.getfield 37, 3) := by decide +kernel
theorem dX0_noteOut_5 : decode cX0_noteOut 5 = .ok (.iconst 1, 1) := by decide +kernel
theorem dX0_noteOut_6 : decode cX0_noteOut 6 = .ok (.iload_n 1, 1) := by decide +kernel
theorem dX0_noteOut_7 : decode cX0_noteOut 7 = .ok (.ishl, 1) := by decide +kernel
theorem dX0_noteOut_8 : decode cX0_noteOut 8 = .ok (.ior, 1) := by decide +kernel
theorem dX0_noteOut_9 : decode cX0_noteOut 9 = .ok (.putfield 37, 3) := by decide +kernel
theorem dX0_noteOut_12 : decode cX0_noteOut 12 = .ok (.return_, 1) := by decide +kernel
theorem dX1_init_0 : decode cX1_init 0 = .ok (.aload_n 0, 1) := by decide +kernel
theorem dX1_init_1 : decode cX1_init 1 = .ok (.invokespecial 3, 3) := by decide +kernel
theorem dX1_init_4 : decode cX1_init 4 = .ok (.aload_n 0, 1) := by decide +kernel
theorem dX1_init_5 : decode cX1_init 5 = .ok (.getstatic 9, 3) := by decide +kernel
theorem dX1_init_8 : decode cX1_init 8 = .ok (.invokevirtual 13, 3) := by decide +kernel
theorem dX1_init_11 : decode cX1_init 11 = .ok (.checkcast 14, 3) := by decide +kernel
theorem dX1_init_14 : decode cX1_init 14 = .ok (.putfield 18, 3) := by decide +kernel
theorem dX1_init_17 : decode cX1_init 17 = .ok (.aload_n 0, 1) := by decide +kernel
theorem dX1_init_18 : decode cX1_init 18 = .ok (.new 23, 3) := by decide +kernel
theorem dX1_init_21 : decode cX1_init 21 = .ok (.dup, 1) := by decide +kernel
theorem dX1_init_22 : decode cX1_init 22 = .ok (.invokespecial 25, 3) := by decide +kernel
theorem dX1_init_25 : decode cX1_init 25 = .ok (.putfield 26, 3) := by decide +kernel
theorem dX1_init_28 : decode cX1_init 28 = .ok (.aload_n 0, 1) := by decide +kernel
theorem dX1_init_29 : decode cX1_init 29 = .ok (.new 30, 3) := by decide +kernel
theorem dX1_init_32 : decode cX1_init 32 = .ok (.dup, 1) := by decide +kernel
theorem dX1_init_33 : decode cX1_init 33 = .ok (.invokespecial 32, 3) := by decide +kernel
theorem dX1_init_36 : decode cX1_init 36 = .ok (.putfield 33, 3) := by decide +kernel
theorem dX1_init_39 : decode cX1_init 39 = .ok (.aload_n 0, 1) := by decide +kernel
theorem dX1_init_40 : decode cX1_init 40 = .ok (.new 37, 3) := by decide +kernel
theorem dX1_init_43 : decode cX1_init 43 = .ok (.dup, 1) := by decide +kernel
theorem dX1_init_44 : decode cX1_init 44 = .ok (.invokespecial 39, 3) := by decide +kernel
theorem dX1_init_47 : decode cX1_init 47 = .ok (.putfield 40, 3) := by decide +kernel
theorem dX1_init_50 : decode cX1_init 50 = .ok (.return_, 1) := by decide +kernel
theorem dX1_startAnew_0 : decode cX1_startAnew 0 = .ok (.aload_n 0, 1) := by decide +kernel
theorem dX1_startAnew_1 : decode cX1_startAnew 1 = .ok (.getfield 26, 3) := by decide +kernel
theorem dX1_startAnew_4 : decode cX1_startAnew 4 = .ok (.iload_n 1, 1) := by decide +kernel
theorem dX1_startAnew_5 : decode cX1_startAnew 5 = .ok (.aload_n 0, 1) := by decide +kernel
theorem dX1_startAnew_6 : decode cX1_startAnew 6 = .ok (.iconst 0, 1) := by decide +kernel
theorem dX1_startAnew_7 : decode cX1_startAnew 7 = .ok (.invokevirtual 44, 3) := by decide +kernel
theorem dX1_startAnew_10 : decode cX1_startAnew 10 = .ok (.invokevirtual 48, 3) := by decide +kernel
theorem dX1_startAnew_13 : decode cX1_startAnew 13 = .ok (.aload_n 0, 1) := by decide +kernel
theorem dX1_startAnew_14 : decode cX1_startAnew 14 = .ok (.getfield 33, 3) := by decide +kernel
theorem dX1_startAnew_17 : decode cX1_startAnew 17 = .ok (.invokevirtual 52, 3) := by decide +kernel
theorem dX1_startAnew_20 : decode cX1_startAnew 20 = .ok (.aload_n 0, 1) := by decide +kernel
theorem dX1_startAnew_21 : decode cX1_startAnew 21 = .ok (.getfield 40, 3) := by decide +kernel
theorem dX1_startAnew_24 : decode cX1_startAnew 24 = .ok (.invokevirtual 55, 3) := by decide +kernel
theorem dX1_startAnew_27 : decode cX1_startAnew 27 = .ok (.return_, 1) := by decide +kernel
theorem dX1_takeOver_0 : decode cX1_takeOver 0 = .ok (.aload_n 1, 1) := by decide +kernel
theorem dX1_takeOver_1 : decode cX1_takeOver 1 = .ok (.getfield 18, 3) := by decide +kernel
theorem dX1_takeOver_4 : decode cX1_takeOver 4 = .ok (.aload_n 0, 1) := by decide +kernel
theorem dX1_takeOver_5 : decode cX1_takeOver 5 = .ok (.getfield 18, 3) := by decide +kernel
theorem dX1_takeOver_8 : decode cX1_takeOver 8 = .ok (.invokestatic 56, 3) := by decide +kernel
theorem dX1_takeOver_11 : decode cX1_takeOver 11 = .ok (.aload_n 0, 1) := by decide +kernel
theorem dX1_takeOver_12 : decode cX1_takeOver 12 = .ok (.getfield 26, 3) := by decide +kernel
theorem dX1_takeOver_15 : decode cX1_takeOver 15 = .ok (.aload_n 1, 1) := by decide +kernel
theorem dX1_takeOver_16 : decode cX1_takeOver 16 = .ok (.getfield 26, 3) := by decide +kernel
theorem dX1_takeOver_19 : decode cX1_takeOver 19 = .ok (.invokevirtual 60, 3) := by decide +kernel
theorem dX1_takeOver_22 : decode cX1_takeOver 22 = .ok (.aload_n 0, 1) := by decide +kernel
theorem dX1_takeOver_23 : decode cX1_takeOver 23 = .ok (.getfield 33, 3) := by decide +kernel
theorem dX1_takeOver_26 : decode cX1_takeOver 26 = .ok (.aload_n 1, 1) := by decide +kernel
theorem dX1_takeOver_27 : decode cX1_takeOver 27 = .ok (.getfield 33, 3) := by decide +kernel
theorem dX1_takeOver_30 : decode cX1_takeOver 30 = .ok (.invokevirtual 64, 3) := by decide +kernel
theorem dX1_takeOver_33 : decode cX1_takeOver 33 = .ok (.aload_n 0, 1) := by decide +kernel
theorem dX1_takeOver_34 : decode cX1_takeOver 34 = .ok (.getfield 40, 3) := by decide +kernel
theorem dX1_takeOver_37 : decode cX1_takeOver 37 = .ok (.aload_n 1, 1) := by decide +kernel
theorem dX1_takeOver_38 : decode cX1_takeOver 38 = .ok (.getfield 40, 3) := by decide +kernel
theorem dX1_takeOver_41 : decode cX1_takeOver 41 = .ok (.invokevirtual 67, 3) := by decide +kernel
theorem dX1_takeOver_44 : decode cX1_takeOver 44 = .ok (.return_, 1) := by decide +kernel
theorem dX1_settingOf_0 : decode cX1_settingOf 0 = .ok (.iload_n 1, 1) := by decide +kernel
theorem dX1_settingOf_1 : decode cX1_settingOf 1 = .ok (.ifCond .lt 21, 3) := by decide +kernel
theorem dX1_settingOf_4 : decode cX1_settingOf 4 = .ok (.iload_n 1, 1) := by decide +kernel
theorem dX1_settingOf_5 : decode cX1_settingOf 5 = .ok (.aload_n 0, 1) := by decide +kernel
theorem dX1_settingOf_6 : decode cX1_settingOf 6 = .ok (.getfield 18, 3) := by decide +kernel
theorem dX1_settingOf_9 : decode cX1_settingOf 9 = .ok (.arraylength, 1) := by decide +kernel
theorem dX1_settingOf_10 : decode cX1_settingOf 10 = .ok (.if_icmp .ge 12, 3) := by decide +kernel
theorem dX1_settingOf_13 : decode cX1_settingOf 13 = .ok (.aload_n 0, 1) := by decide +kernel
theorem dX1_settingOf_14 : decode cX1_settingOf 14 = .ok (.getfield 18, 3) := by decide +kernel
theorem dX1_settingOf_17 : decode cX1_settingOf 17 = .ok (.iload_n 1, 1) := by decide +kernel
theorem dX1_settingOf_18 : decode cX1_settingOf 18 = .ok (.iaload, 1) := by decide +kernel
theorem dX1_settingOf_19 : decode cX1_settingOf 19 = .ok (.goto 4, 3) := by decide +kernel
theorem dX1_settingOf_22 : decode cX1_settingOf 22 = .ok (.iconst 0, 1) := by decide +kernel
theorem dX1_settingOf_23 : decode cX1_settingOf 23 = .ok (.ireturn, 1) := by decide +kernel
theorem dX1_changeSetting_0 : decode cX1_changeSetting 0 = .ok (.iload_n 1, 1) := by decide +kernel
theorem dX1_changeSetting_1 : decode cX1_changeSetting 1 = .ok (.invokestatic 70, 3) := by decide +kernel
theorem dX1_changeSetting_4 : decode cX1_changeSetting 4 = .ok (.ifCond .ne 6, 3) := by decide +kernel
theorem dX1_changeSetting_7 : decode cX1_changeSetting 7 = .ok (.bipush (-2), 2) := by decide +kernel
theorem dX1_changeSetting_9 : decode cX1_changeSetting 9 = .ok (.ireturn, 1) := by decide +kernel
theorem dX1_changeSetting_10 : decode cX1_changeSetting 10 = .ok (.aload_n 0, 1) := by decide +kernel
theorem dX1_changeSetting_11 : decode cX1_changeSetting 11 = .ok (.getfield 18, 3) := by decide +kernel
theorem dX1_changeSetting_14 : decode cX1_changeSetting 14 = .ok (.iload_n 1, 1) := by decide +kernel
theorem dX1_changeSetting_15 : decode cX1_changeSetting 15 = .ok (.iaload, 1) := by decide +kernel
theorem dX1_changeSetting_16 : decode cX1_changeSetting 16 = .ok (.istore_n 3, 1) := by decide +kernel
theorem dX1_changeSetting_17 : decode cX1_changeSetting 17 = .ok (.aload_n 0, 1) := by decide +kernel
theorem dX1_changeSetting_18 : decode cX1_changeSetting 18 = .ok (.getfield 18, 3) := by decide +kernel
theorem dX1_changeSetting_21 : decode cX1_changeSetting 21 = .ok (.iload_n 1, 1) := by decide +kernel
theorem dX1_changeSetting_22 : decode cX1_changeSetting 22 = .ok (.iload_n 2, 1) := by decide +kernel
theorem dX1_changeSetting_23 : decode cX1_changeSetting 23 = .ok (.iastore, 1) := by decide +kernel
theorem dX1_changeSetting_24 : decode cX1_changeSetting 24 = .ok (.iload_n 3, 1) := by decide +kernel
theorem dX1_changeSetting_25 : decode cX1_changeSetting 25 = .ok (.ireturn, 1) := by decide +kernel
theorem dX1_isUnopened_0 : decode cX1_isUnopened 0 = .ok (.aload_n 0, 1) := by decide +kernel
theorem dX1_isUnopened_1 : decode cX1_isUnopened 1 = .ok (.getfield 33, 3) := by decide +kernel
theorem dX1_isUnopened_4 : decode cX1_isUnopened 4 = .ok (.getfield 74, 3) := by decide +kernel
theorem dX1_isUnopened_7 : decode cX1_isUnopened 7 = .ok (.ifCond .ne 17, 3) := by decide +kernel
theorem dX1_isUnopened_10 : decode cX1_isUnopened 10 = .ok (.aload_n 0, 1) := by decide +kernel
theorem dX1_isUnopened_11 : decode cX1_isUnopened 11 = .ok (.getfield 40, 3) := by decide +kernel
theorem dX1_isUnopened_14 : decode cX1_isUnopened 14 = .ok (.invokevirtual 78, 3) := by decide +kernel
theorem dX1_isUnopened_17 : decode cX1_isUnopened 17 = .ok (.ifCond .ne 7, 3) := by decide +kernel
theorem dX1_isUnopened_20 : decode cX1_isUnopened 20 = .ok (.iconst 1, 1) := by decide +kernel
theorem dX1_isUnopened_21 : decode cX1_isUnopened 21 = .ok (.goto 4, 3) := by decide +kernel
theorem dX1_isUnopened_24 : decode cX1_isUnopened 24 = .ok (.iconst 0, 1) := by decide +kernel
theorem dX1_isUnopened_25 : decode cX1_isUnopened 25 = .ok (.ireturn, 1) := by decide +kernel
theorem dX1_starter_0 : decode cX1_starter 0 = .ok (.aload_n 0, 1) := by decide +kernel
theorem dX1_starter_1 : decode cX1_starter 1 = .ok (.getfield 26, 3) := by decide +kernel
theorem dX1_starter_4 : decode cX1_starter 4 = .ok (.getfield 82, 3) := by decide +kernel
theorem dX1_starter_7 : decode cX1_starter 7 = .ok (.ifCond .le 21, 3) := by decide +kernel
theorem dX1_starter_10 : decode cX1_starter 10 = .ok (.aload_n 0, 1) := by decide +kernel
theorem dX1_starter_11 : decode cX1_starter 11 = .ok (.getfield 33, 3) := by decide +kernel
theorem dX1_starter_14 : decode cX1_starter 14 = .ok (.getfield 74, 3) := by decide +kernel
theorem dX1_starter_17 : decode cX1_starter 17 = .ok (.aload_n 0, 1) := by decide +kernel
theorem dX1_starter_18 : decode cX1_starter 18 = .ok (.getfield 26, 3) := by decide +kernel
theorem dX1_starter_21 : decode cX1_starter 21 = .ok (.getfield 82, 3) := by decide +kernel
theorem dX1_starter_24 : decode cX1_starter 24 = .ok (.irem, 1) := by decide +kernel
theorem dX1_starter_25 : decode cX1_starter 25 = .ok (.goto 4, 3) := by decide +kernel
theorem dX1_starter_28 : decode cX1_starter 28 = .ok (.iconst 0, 1) := by decide +kernel
theorem dX1_starter_29 : decode cX1_starter 29 = .ok (.ireturn, 1) := by decide +kernel
theorem dX1_startAuction_0 : decode cX1_startAuction 0 = .ok (.iload_n 1, 1) := by decide +kernel
theorem dX1_startAuction_1 : decode cX1_startAuction 1 = .ok (.invokestatic 85, 3) := by decide +kernel
theorem dX1_startAuction_4 : decode cX1_startAuction 4 = .ok (.ifCond .eq 10, 3) := by decide +kernel
theorem dX1_startAuction_7 : decode cX1_startAuction 7 = .ok (.iload_n 2, 1) := by decide +kernel
theorem dX1_startAuction_8 : decode cX1_startAuction 8 = .ok (.invokestatic 88, 3) := by decide +kernel
theorem dX1_startAuction_11 : decode cX1_startAuction 11 = .ok (.ifCond .ne 6, 3) := by decide +kernel
theorem dX1_startAuction_14 : decode cX1_startAuction 14 = .ok (.bipush (-2), 2) := by decide +kernel
theorem dX1_startAuction_16 : decode cX1_startAuction 16 = .ok (.ireturn, 1) := by decide +kernel
theorem dX1_startAuction_17 : decode cX1_startAuction 17 = .ok (.aload_n 0, 1) := by decide +kernel
theorem dX1_startAuction_18 : decode cX1_startAuction 18 = .ok (.getfield 40, 3) := by decide +kernel
theorem dX1_startAuction_21 : decode cX1_startAuction 21 = .ok (.invokevirtual 78, 3) := by decide +kernel
theorem dX1_startAuction_24 : decode cX1_startAuction 24 = .ok (.ifCond .ne 13, 3) := by decide +kernel
theorem dX1_startAuction_27 : decode cX1_startAuction 27 = .ok (.aload_n 0, 1) := by decide +kernel
theorem dX1_startAuction_28 : decode cX1_startAuction 28 = .ok (.getfield 33, 3) := by decide +kernel
theorem dX1_startAuction_31 : decode cX1_startAuction 31 = .ok (.invokevirtual 91, 3) := by decide +kernel
theorem dX1_startAuction_34 : decode cX1_startAuction 34 = .ok (.ifCond .ne 6, 3) := by decide +kernel
theorem dX1_startAuction_37 : decode cX1_startAuction 37 = .ok (.bipush (-5), 2) := by decide +kernel
theorem dX1_startAuction_39 : decode cX1_startAuction 39 = .ok (.ireturn, 1) := by decide +kernel
theorem dX1_startAuction_40 : decode cX1_startAuction 40 = .ok (.aload_n 0, 1) := by decide +kernel
theorem dX1_startAuction_41 : decode cX1_startAuction 41 = .ok (.getfield 40, 3) := by decide +kernel
theorem dX1_startAuction_44 : decode cX1_startAuction 44 = .ok (.iload_n 1, 1) := by decide +kernel
theorem dX1_startAuction_45 : decode cX1_startAuction 45 = .ok (.iload_n 2, 1) := by decide +kernel
theorem dX1_startAuction_46 : decode cX1_startAuction 46 = .ok (.aload_n 0, 1) := by decide +kernel
theorem dX1_startAuction_47 : decode cX1_startAuction 47 = .ok (.invokevirtual 94, 3) := by decide +kernel
theorem dX1_startAuction_50 : decode cX1_startAuction 50 = .ok (.invokevirtual 98, 3) := by decide +kernel
theorem dX1_startAuction_53 : decode cX1_startAuction 53 = .ok (.aload_n 0, 1) := by decide +kernel
theorem dX1_startAuction_54 : decode cX1_startAuction 54 = .ok (.getfield 33, 3) := by decide +kernel
theorem dX1_startAuction_57 : decode cX1_startAuction 57 = .ok (.invokevirtual 102, 3) := by decide +kernel
theorem dX1_startAuction_60 : decode cX1_startAuction 60 = .ok (.ireturn, 1) := by decide +kernel
theorem dX1_takeBid_0 : decode cX1_takeBid 0 = .ok (.aload_n 0, 1) := by decide +kernel
theorem dX1_takeBid_1 : decode cX1_takeBid 1 = .ok (.getfield 26, 3) := by decide +kernel
theorem dX1_takeBid_4 : decode cX1_takeBid 4 = .ok (.iload_n 1, 1) := by decide +kernel
theorem dX1_takeBid_5 : decode cX1_takeBid 5 = .ok (.invokevirtual 105, 3) := by decide +kernel
theorem dX1_takeBid_8 : decode cX1_takeBid 8 = .ok (.ifCond .ne 5, 3) := by decide +kernel
theorem dX1_takeBid_11 : decode cX1_takeBid 11 = .ok (.iconst (-1), 1) := by decide +kernel
theorem dX1_takeBid_12 : decode cX1_takeBid 12 = .ok (.ireturn, 1) := by decide +kernel
theorem dX1_takeBid_13 : decode cX1_takeBid 13 = .ok (.bipush (-5), 2) := by decide +kernel
theorem dX1_takeBid_15 : decode cX1_takeBid 15 = .ok (.istore_n 3, 1) := by decide +kernel
theorem dX1_takeBid_16 : decode cX1_takeBid 16 = .ok (.aload_n 0, 1) := by decide +kernel
theorem dX1_takeBid_17 : decode cX1_takeBid 17 = .ok (.getfield 40, 3) := by decide +kernel
theorem dX1_takeBid_20 : decode cX1_takeBid 20 = .ok (.getfield 108, 3) := by decide +kernel
theorem dX1_takeBid_23 : decode cX1_takeBid 23 = .ok (.ifCond .ne 10, 3) := by decide +kernel
theorem dX1_takeBid_26 : decode cX1_takeBid 26 = .ok (.aload_n 0, 1) := by decide +kernel
theorem dX1_takeBid_27 : decode cX1_takeBid 27 = .ok (.iload_n 1, 1) := by decide +kernel
theorem dX1_takeBid_28 : decode cX1_takeBid 28 = .ok (.iload_n 2, 1) := by decide +kernel
theorem dX1_takeBid_29 : decode cX1_takeBid 29 = .ok (.invokevirtual 111, 3) := by decide +kernel
theorem dX1_takeBid_32 : decode cX1_takeBid 32 = .ok (.istore_n 3, 1) := by decide +kernel
theorem dX1_takeBid_33 : decode cX1_takeBid 33 = .ok (.aload_n 0, 1) := by decide +kernel
theorem dX1_takeBid_34 : decode cX1_takeBid 34 = .ok (.getfield 40, 3) := by decide +kernel
theorem dX1_takeBid_37 : decode cX1_takeBid 37 = .ok (.getfield 108, 3) := by decide +kernel
theorem dX1_takeBid_40 : decode cX1_takeBid 40 = .ok (.iconst 1, 1) := by decide +kernel
theorem dX1_takeBid_41 : decode cX1_takeBid 41 = .ok (.if_icmp .ne 10, 3) := by decide +kernel
theorem dX1_takeBid_44 : decode cX1_takeBid 44 = .ok (.aload_n 0, 1) := by decide +kernel
theorem dX1_takeBid_45 : decode cX1_takeBid 45 = .ok (.iload_n 1, 1) := by decide +kernel
theorem dX1_takeBid_46 : decode cX1_takeBid 46 = .ok (.iload_n 2, 1) := by decide +kernel
theorem dX1_takeBid_47 : decode cX1_takeBid 47 = .ok (.invokevirtual 115, 3) := by decide +kernel
theorem dX1_takeBid_50 : decode cX1_takeBid 50 = .ok (.istore_n 3, 1) := by decide +kernel
theorem dX1_takeBid_51 : decode cX1_takeBid 51 = .ok (.aload_n 0, 1) := by decide +kernel
theorem dX1_takeBid_52 : decode cX1_takeBid 52 = .ok (.getfield 40, 3) := by decide +kernel
theorem dX1_takeBid_55 : decode cX1_takeBid 55 = .ok (.getfield 108, 3) := by decide +kernel
theorem dX1_takeBid_58 : decode cX1_takeBid 58 = .ok (.iconst 2, 1) := by decide +kernel
theorem dX1_takeBid_59 : decode cX1_takeBid 59 = .ok (.if_icmp .ne 10, 3) := by decide +kernel
theorem dX1_takeBid_62 : decode cX1_takeBid 62 = .ok (.aload_n 0, 1) := by decide +kernel
theorem dX1_takeBid_63 : decode cX1_takeBid 63 = .ok (.iload_n 1, 1) := by decide +kernel
theorem dX1_takeBid_64 : decode cX1_takeBid 64 = .ok (.iload_n 2, 1) := by decide +kernel
theorem dX1_takeBid_65 : decode cX1_takeBid 65 = .ok (.invokevirtual 118, 3) := by decide +kernel
theorem dX1_takeBid_68 : decode cX1_takeBid 68 = .ok (.istore_n 3, 1) := by decide +kernel
theorem dX1_takeBid_69 : decode cX1_takeBid 69 = .ok (.iload_n 3, 1) := by decide +kernel
theorem dX1_takeBid_70 : decode cX1_takeBid 70 = .ok (.bipush (-6), 2) := by decide +kernel
theorem dX1_takeBid_72 : decode cX1_takeBid 72 = .ok (.if_icmp .ne 10, 3) := by decide +kernel
theorem dX1_takeBid_75 : decode cX1_takeBid 75 = .ok (.aload_n 0, 1) := by decide +kernel
theorem dX1_takeBid_76 : decode cX1_takeBid 76 = .ok (.invokevirtual 121, 3) := by decide +kernel
theorem dX1_takeBid_79 : decode cX1_takeBid 79 = .ok (.goto 4, 3) := by decide +kernel
theorem dX1_takeBid_82 : decode cX1_takeBid 82 = .ok (.iload_n 3, 1) := by decide +kernel
theorem dX1_takeBid_83 : decode cX1_takeBid 83 = .ok (.ireturn, 1) := by decide +kernel
theorem dX1_takePass_0 : decode cX1_takePass 0 = .ok (.aload_n 0, 1) := by decide +kernel
theorem dX1_takePass_1 : decode cX1_takePass 1 = .ok (.getfield 26, 3) := by decide +kernel
theorem dX1_takePass_4 : decode cX1_takePass 4 = .ok (.iload_n 1, 1) := by decide +kernel
theorem dX1_takePass_5 : decode cX1_takePass 5 = .ok (.invokevirtual 105, 3) := by decide +kernel
theorem dX1_takePass_8 : decode cX1_takePass 8 = .ok (.ifCond .ne 5, 3) := by decide +kernel
theorem dX1_takePass_11 : decode cX1_takePass 11 = .ok (.iconst (-1), 1) := by decide +kernel
theorem dX1_takePass_12 : decode cX1_takePass 12 = .ok (.ireturn, 1) := by decide +kernel
theorem dX1_takePass_13 : decode cX1_takePass 13 = .ok (.bipush (-5), 2) := by decide +kernel
theorem dX1_takePass_15 : decode cX1_takePass 15 = .ok (.istore_n 2, 1) := by decide +kernel
theorem dX1_takePass_16 : decode cX1_takePass 16 = .ok (.aload_n 0, 1) := by decide +kernel
theorem dX1_takePass_17 : decode cX1_takePass 17 = .ok (.getfield 40, 3) := by decide +kernel
theorem dX1_takePass_20 : decode cX1_takePass 20 = .ok (.getfield 108, 3) := by decide +kernel
theorem dX1_takePass_23 : decode cX1_takePass 23 = .ok (.ifCond .ne 9, 3) := by decide +kernel
theorem dX1_takePass_26 : decode cX1_takePass 26 = .ok (.aload_n 0, 1) := by decide +kernel
theorem dX1_takePass_27 : decode cX1_takePass 27 = .ok (.iload_n 1, 1) := by decide +kernel
theorem dX1_takePass_28 : decode cX1_takePass 28 = .ok (.invokevirtual 124, 3) := by decide +kernel
theorem dX1_takePass_31 : decode cX1_takePass 31 = .ok (.istore_n 2, 1) := by decide +kernel
theorem dX1_takePass_32 : decode cX1_takePass 32 = .ok (.aload_n 0, 1) := by decide +kernel
theorem dX1_takePass_33 : decode cX1_takePass 33 = .ok (.getfield 40, 3) := by decide +kernel
theorem dX1_takePass_36 : decode cX1_takePass 36 = .ok (.getfield 108, 3) := by decide +kernel
theorem dX1_takePass_39 : decode cX1_takePass 39 = .ok (.iconst 2, 1) := by decide +kernel
theorem dX1_takePass_40 : decode cX1_takePass 40 = .ok (.if_icmp .ne 8, 3) := by decide +kernel
theorem dX1_takePass_43 : decode cX1_takePass 43 = .ok (.aload_n 0, 1) := by decide +kernel
theorem dX1_takePass_44 : decode cX1_takePass 44 = .ok (.invokevirtual 127, 3) := by decide +kernel
theorem dX1_takePass_47 : decode cX1_takePass 47 = .ok (.istore_n 2, 1) := by decide +kernel
theorem dX1_takePass_48 : decode cX1_takePass 48 = .ok (.iload_n 2, 1) := by decide +kernel
theorem dX1_takePass_49 : decode cX1_takePass 49 = .ok (.bipush (-6), 2) := by decide +kernel
theorem dX1_takePass_51 : decode cX1_takePass 51 = .ok (.if_icmp .ne 10, 3) := by decide +kernel
theorem dX1_takePass_54 : decode cX1_takePass 54 = .ok (.aload_n 0, 1) := by decide +kernel
theorem dX1_takePass_55 : decode cX1_takePass 55 = .ok (.invokevirtual 121, 3) := by decide +kernel
theorem dX1_takePass_58 : decode cX1_takePass 58 = .ok (.goto 4, 3) := by decide +kernel
theorem dX1_takePass_61 : decode cX1_takePass 61 = .ok (.iload_n 2, 1) := by decide +kernel
theorem dX1_takePass_62 : decode cX1_takePass 62 = .ok (.ireturn, 1) := by decide +kernel
theorem dX1_moveAlone_0 : decode cX1_moveAlone 0 = .ok (.aload_n 0, 1) := by decide +kernel
theorem dX1_moveAlone_1 : decode cX1_moveAlone 1 = .ok (.getfield 40, 3) := by decide +kernel
theorem dX1_moveAlone_4 : decode cX1_moveAlone 4 = .ok (.invokevirtual 78, 3) := by decide +kernel
theorem dX1_moveAlone_7 : decode cX1_moveAlone 7 = .ok (.ifCond .ne 6, 3) := by decide +kernel
theorem dX1_moveAlone_10 : decode cX1_moveAlone 10 = .ok (.bipush (-5), 2) := by decide +kernel
theorem dX1_moveAlone_12 : decode cX1_moveAlone 12 = .ok (.ireturn, 1) := by decide +kernel
theorem dX1_moveAlone_13 : decode cX1_moveAlone 13 = .ok (.aload_n 0, 1) := by decide +kernel
theorem dX1_moveAlone_14 : decode cX1_moveAlone 14 = .ok (.getfield 40, 3) := by decide +kernel
theorem dX1_moveAlone_17 : decode cX1_moveAlone 17 = .ok (.getfield 108, 3) := by decide +kernel
theorem dX1_moveAlone_20 : decode cX1_moveAlone 20 = .ok (.iconst 2, 1) := by decide +kernel
theorem dX1_moveAlone_21 : decode cX1_moveAlone 21 = .ok (.if_icmp .ne 17, 3) := by decide +kernel
theorem dX1_moveAlone_24 : decode cX1_moveAlone 24 = .ok (.aload_n 0, 1) := by decide +kernel
theorem dX1_moveAlone_25 : decode cX1_moveAlone 25 = .ok (.invokevirtual 130, 3) := by decide +kernel
theorem dX1_moveAlone_28 : decode cX1_moveAlone 28 = .ok (.aload_n 0, 1) := by decide +kernel
theorem dX1_moveAlone_29 : decode cX1_moveAlone 29 = .ok (.invokevirtual 127, 3) := by decide +kernel
theorem dX1_moveAlone_32 : decode cX1_moveAlone 32 = .ok (.pop, 1) := by decide +kernel
theorem dX1_moveAlone_33 : decode cX1_moveAlone 33 = .ok (.aload_n 0, 1) := by decide +kernel
theorem dX1_moveAlone_34 : decode cX1_moveAlone 34 = .ok (.invokevirtual 121, 3) := by decide +kernel
theorem dX1_moveAlone_37 : decode cX1_moveAlone 37 = .ok (.ireturn, 1) := by decide +kernel
theorem dX1_moveAlone_38 : decode cX1_moveAlone 38 = .ok (.aload_n 0, 1) := by decide +kernel
theorem dX1_moveAlone_39 : decode cX1_moveAlone 39 = .ok (.getfield 40, 3) := by decide +kernel
theorem dX1_moveAlone_42 : decode cX1_moveAlone 42 = .ok (.getfield 108, 3) := by decide +kernel
theorem dX1_moveAlone_45 : decode cX1_moveAlone 45 = .ok (.ifCond .ne 13, 3) := by decide +kernel
theorem dX1_moveAlone_48 : decode cX1_moveAlone 48 = .ok (.aload_n 0, 1) := by decide +kernel
theorem dX1_moveAlone_49 : decode cX1_moveAlone 49 = .ok (.getfield 40, 3) := by decide +kernel
theorem dX1_moveAlone_52 : decode cX1_moveAlone 52 = .ok (.getfield 133, 3) := by decide +kernel
theorem dX1_moveAlone_55 : decode cX1_moveAlone 55 = .ok (.goto 7, 3) := by decide +kernel
theorem dX1_moveAlone_58 : decode cX1_moveAlone 58 = .ok (.aload_n 0, 1) := by decide +kernel
theorem dX1_moveAlone_59 : decode cX1_moveAlone 59 = .ok (.invokevirtual 136, 3) := by decide +kernel
theorem dX1_moveAlone_62 : decode cX1_moveAlone 62 = .ok (.istore_n 1, 1) := by decide +kernel
theorem dX1_moveAlone_63 : decode cX1_moveAlone 63 = .ok (.aload_n 0, 1) := by decide +kernel
theorem dX1_moveAlone_64 : decode cX1_moveAlone 64 = .ok (.iload_n 1, 1) := by decide +kernel
theorem dX1_moveAlone_65 : decode cX1_moveAlone 65 = .ok (.invokevirtual 139, 3) := by decide +kernel
theorem dX1_moveAlone_68 : decode cX1_moveAlone 68 = .ok (.istore_n 2, 1) := by decide +kernel
theorem dX1_moveAlone_69 : decode cX1_moveAlone 69 = .ok (.aload_n 0, 1) := by decide +kernel
theorem dX1_moveAlone_70 : decode cX1_moveAlone 70 = .ok (.getfield 40, 3) := by decide +kernel
theorem dX1_moveAlone_73 : decode cX1_moveAlone 73 = .ok (.getfield 108, 3) := by decide +kernel
theorem dX1_moveAlone_76 : decode cX1_moveAlone 76 = .ok (.iconst 1, 1) := by decide +kernel
theorem dX1_moveAlone_77 : decode cX1_moveAlone 77 = .ok (.if_icmp .ne 28, 3) := by decide +kernel
theorem dX1_moveAlone_80 : decode cX1_moveAlone 80 = .ok (.aload_n 0, 1) := by decide +kernel
theorem dX1_moveAlone_81 : decode cX1_moveAlone 81 = .ok (.iload_n 1, 1) := by decide +kernel
theorem dX1_moveAlone_82 : decode cX1_moveAlone 82 = .ok (.iload_n 2, 1) := by decide +kernel
theorem dX1_moveAlone_83 : decode cX1_moveAlone 83 = .ok (.aload_n 0, 1) := by decide +kernel
theorem dX1_moveAlone_84 : decode cX1_moveAlone 84 = .ok (.getfield 40, 3) := by decide +kernel
theorem dX1_moveAlone_87 : decode cX1_moveAlone 87 = .ok (.getfield 142, 3) := by decide +kernel
theorem dX1_moveAlone_90 : decode cX1_moveAlone 90 = .ok (.if_icmp .lt 7, 3) := by decide +kernel
theorem dX1_moveAlone_93 : decode cX1_moveAlone 93 = .ok (.iload_n 2, 1) := by decide +kernel
theorem dX1_moveAlone_94 : decode cX1_moveAlone 94 = .ok (.goto 4, 3) := by decide +kernel
theorem dX1_moveAlone_97 : decode cX1_moveAlone 97 = .ok (.iconst 0, 1) := by decide +kernel
theorem dX1_moveAlone_98 : decode cX1_moveAlone 98 = .ok (.invokevirtual 115, 3) := by decide +kernel
theorem dX1_moveAlone_101 : decode cX1_moveAlone 101 = .ok (.pop, 1) := by decide +kernel
theorem dX1_moveAlone_102 : decode cX1_moveAlone 102 = .ok (.goto 30, 3) := by decide +kernel
theorem dX1_moveAlone_105 : decode cX1_moveAlone 105 = .ok (.aload_n 0, 1) := by decide +kernel
theorem dX1_moveAlone_106 : decode cX1_moveAlone 106 = .ok (.invokevirtual 145, 3) := by decide +kernel
theorem dX1_moveAlone_109 : decode cX1_moveAlone 109 = .ok (.iload_n 2, 1) := by decide +kernel
theorem dX1_moveAlone_110 : decode cX1_moveAlone 110 = .ok (.if_icmp .gt 16, 3) := by decide +kernel
theorem dX1_moveAlone_113 : decode cX1_moveAlone 113 = .ok (.aload_n 0, 1) := by decide +kernel
theorem dX1_moveAlone_114 : decode cX1_moveAlone 114 = .ok (.iload_n 1, 1) := by decide +kernel
theorem dX1_moveAlone_115 : decode cX1_moveAlone 115 = .ok (.aload_n 0, 1) := by decide +kernel
theorem dX1_moveAlone_116 : decode cX1_moveAlone 116 = .ok (.invokevirtual 145, 3) := by decide +kernel
theorem dX1_moveAlone_119 : decode cX1_moveAlone 119 = .ok (.invokevirtual 111, 3) := by decide +kernel
theorem dX1_moveAlone_122 : decode cX1_moveAlone 122 = .ok (.pop, 1) := by decide +kernel
theorem dX1_moveAlone_123 : decode cX1_moveAlone 123 = .ok (.goto 9, 3) := by decide +kernel
theorem dX1_moveAlone_126 : decode cX1_moveAlone 126 = .ok (.aload_n 0, 1) := by decide +kernel
theorem dX1_moveAlone_127 : decode cX1_moveAlone 127 = .ok (.iload_n 1, 1) := by decide +kernel
theorem dX1_moveAlone_128 : decode cX1_moveAlone 128 = .ok (.invokevirtual 124, 3) := by decide +kernel
theorem dX1_moveAlone_131 : decode cX1_moveAlone 131 = .ok (.pop, 1) := by decide +kernel
theorem dX1_moveAlone_132 : decode cX1_moveAlone 132 = .ok (.aload_n 0, 1) := by decide +kernel
theorem dX1_moveAlone_133 : decode cX1_moveAlone 133 = .ok (.invokevirtual 121, 3) := by decide +kernel
theorem dX1_moveAlone_136 : decode cX1_moveAlone 136 = .ok (.ireturn, 1) := by decide +kernel
theorem dX1_settle_0 : decode cX1_settle 0 = .ok (.aload_n 0, 1) := by decide +kernel
theorem dX1_settle_1 : decode cX1_settle 1 = .ok (.getfield 40, 3) := by decide +kernel
theorem dX1_settle_4 : decode cX1_settle 4 = .ok (.getfield 148, 3) := by decide +kernel
theorem dX1_settle_7 : decode cX1_settle 7 = .ok (.istore_n 1, 1) := by decide +kernel
theorem dX1_settle_8 : decode cX1_settle 8 = .ok (.iload_n 1, 1) := by decide +kernel
theorem dX1_settle_9 : decode cX1_settle 9 = .ok (.bipush (-6), 2) := by decide +kernel
theorem dX1_settle_11 : decode cX1_settle 11 = .ok (.if_icmp .ne 6, 3) := by decide +kernel
theorem dX1_settle_14 : decode cX1_settle 14 = .ok (.bipush (-6), 2) := by decide +kernel
theorem dX1_settle_16 : decode cX1_settle 16 = .ok (.ireturn, 1) := by decide +kernel
theorem dX1_settle_17 : decode cX1_settle 17 = .ok (.aload_n 0, 1) := by decide +kernel
theorem dX1_settle_18 : decode cX1_settle 18 = .ok (.iload_n 1, 1) := by decide +kernel
theorem dX1_settle_19 : decode cX1_settle 19 = .ok (.aload_n 0, 1) := by decide +kernel
theorem dX1_settle_20 : decode cX1_settle 20 = .ok (.getfield 40, 3) := by decide +kernel
theorem dX1_settle_23 : decode cX1_settle 23 = .ok (.getfield 151, 3) := by decide +kernel
theorem dX1_settle_26 : decode cX1_settle 26 = .ok (.invokevirtual 154, 3) := by decide +kernel
theorem dX1_settle_29 : decode cX1_settle 29 = .ok (.aload_n 0, 1) := by decide +kernel
theorem dX1_settle_30 : decode cX1_settle 30 = .ok (.getfield 33, 3) := by decide +kernel
theorem dX1_settle_33 : decode cX1_settle 33 = .ok (.iload_n 1, 1) := by decide +kernel
theorem dX1_settle_34 : decode cX1_settle 34 = .ok (.aload_n 0, 1) := by decide +kernel
theorem dX1_settle_35 : decode cX1_settle 35 = .ok (.getfield 40, 3) := by decide +kernel
theorem dX1_settle_38 : decode cX1_settle 38 = .ok (.getfield 151, 3) := by decide +kernel
theorem dX1_settle_41 : decode cX1_settle 41 = .ok (.invokevirtual 157, 3) := by decide +kernel
theorem dX1_settle_44 : decode cX1_settle 44 = .ok (.aload_n 0, 1) := by decide +kernel
theorem dX1_settle_45 : decode cX1_settle 45 = .ok (.getfield 40, 3) := by decide +kernel
theorem dX1_settle_48 : decode cX1_settle 48 = .ok (.invokevirtual 55, 3) := by decide +kernel
theorem dX1_settle_51 : decode cX1_settle 51 = .ok (.iload_n 1, 1) := by decide +kernel
theorem dX1_settle_52 : decode cX1_settle 52 = .ok (.ireturn, 1) := by decide +kernel
theorem dX1_collect_0 : decode cX1_collect 0 = .ok (.iload_n 1, 1) := by decide +kernel
theorem dX1_collect_1 : decode cX1_collect 1 = .ok (.invokestatic 160, 3) := by decide +kernel
theorem dX1_collect_4 : decode cX1_collect 4 = .ok (.istore_n 3, 1) := by decide +kernel
theorem dX1_collect_5 : decode cX1_collect 5 = .ok (.iload_n 3, 1) := by decide +kernel
theorem dX1_collect_6 : decode cX1_collect 6 = .ok (.ifCond .ne 4, 3) := by decide +kernel
theorem dX1_collect_9 : decode cX1_collect 9 = .ok (.return_, 1) := by decide +kernel
theorem dX1_collect_10 : decode cX1_collect 10 = .ok (.iload_n 2, 1) := by decide +kernel
theorem dX1_collect_11 : decode cX1_collect 11 = .ok (.iload_n 3, 1) := by decide +kernel
theorem dX1_collect_12 : decode cX1_collect 12 = .ok (.idiv, 1) := by decide +kernel
theorem dX1_collect_13 : decode cX1_collect 13 = .ok (.istore 4, 2) := by decide +kernel
theorem dX1_collect_15 : decode cX1_collect 15 = .ok (.iload_n 2, 1) := by decide +kernel
theorem dX1_collect_16 : decode cX1_collect 16 = .ok (.iload_n 3, 1) := by decide +kernel
theorem dX1_collect_17 : decode cX1_collect 17 = .ok (.irem, 1) := by decide +kernel
theorem dX1_collect_18 : decode cX1_collect 18 = .ok (.istore 5, 2) := by decide +kernel
theorem dX1_collect_20 : decode cX1_collect 20 = .ok (.aload_n 0, 1) := by decide +kernel
theorem dX1_collect_21 : decode cX1_collect 21 = .ok (.invokevirtual 94, 3) := by decide +kernel
theorem dX1_collect_24 : decode cX1_collect 24 = .ok (.istore 6, 2) := by decide +kernel
theorem dX1_collect_26 : decode cX1_collect 26 = .ok (.iconst 0, 1) := by decide +kernel
theorem dX1_collect_27 : decode cX1_collect 27 = .ok (.istore 7, 2) := by decide +kernel
theorem dX1_collect_29 : decode cX1_collect 29 = .ok (.iload 7, 2) := by decide +kernel
theorem dX1_collect_31 : decode cX1_collect 31 = .ok (.aload_n 0, 1) := by decide +kernel
theorem dX1_collect_32 : decode cX1_collect 32 = .ok (.getfield 26, 3) := by decide +kernel
theorem dX1_collect_35 : decode cX1_collect 35 = .ok (.getfield 82, 3) := by decide +kernel
theorem dX1_collect_38 : decode cX1_collect 38 = .ok (.if_icmp .ge 60, 3) := by decide +kernel
theorem dX1_collect_41 : decode cX1_collect 41 = .ok (.aload_n 0, 1) := by decide +kernel
theorem dX1_collect_42 : decode cX1_collect 42 = .ok (.getfield 26, 3) := by decide +kernel
theorem dX1_collect_45 : decode cX1_collect 45 = .ok (.iload 6, 2) := by decide +kernel
theorem dX1_collect_47 : decode cX1_collect 47 = .ok (.iload 7, 2) := by decide +kernel
theorem dX1_collect_49 : decode cX1_collect 49 = .ok (.invokevirtual 165, 3) := by decide +kernel
theorem dX1_collect_52 : decode cX1_collect 52 = .ok (.istore 8, 2) := by decide +kernel
theorem dX1_collect_54 : decode cX1_collect 54 = .ok (.iload_n 1, 1) := by decide +kernel
theorem dX1_collect_55 : decode cX1_collect 55 = .ok (.iload 8, 2) := by decide +kernel
theorem dX1_collect_57 : decode cX1_collect 57 = .ok (.ishr, 1) := by decide +kernel
theorem dX1_collect_58 : decode cX1_collect 58 = .ok (.iconst 1, 1) := by decide +kernel
theorem dX1_collect_59 : decode cX1_collect 59 = .ok (.iand, 1) := by decide +kernel
theorem dX1_collect_60 : decode cX1_collect 60 = .ok (.ifCond .ne 6, 3) := by decide +kernel
theorem dX1_collect_63 : decode cX1_collect 63 = .ok (.goto 29, 3) := by decide +kernel
theorem dX1_collect_66 : decode cX1_collect 66 = .ok (.aload_n 0, 1) := by decide +kernel
theorem dX1_collect_67 : decode cX1_collect 67 = .ok (.getfield 26, 3) := by decide +kernel
theorem dX1_collect_70 : decode cX1_collect 70 = .ok (.iload 8, 2) := by decide +kernel
theorem dX1_collect_72 : decode cX1_collect 72 = .ok (.iload 5, 2) := by decide +kernel
theorem dX1_collect_74 : decode cX1_collect 74 = .ok (.ifCond .le 10, 3) := by decide +kernel
theorem dX1_collect_77 : decode cX1_collect 77 = .ok (.iload 4, 2) := by decide +kernel
theorem dX1_collect_79 : decode cX1_collect 79 = .ok (.iconst 1, 1) := by decide +kernel
theorem dX1_collect_80 : decode cX1_collect 80 = .ok (.iadd, 1) := by decide +kernel
theorem dX1_collect_81 : decode cX1_collect 81 = .ok (.goto 5, 3) := by decide +kernel
theorem dX1_collect_84 : decode cX1_collect 84 = .ok (.iload 4, 2) := by decide +kernel
theorem dX1_collect_86 : decode cX1_collect 86 = .ok (.invokevirtual 168, 3) := by decide +kernel
theorem dX1_collect_89 : decode cX1_collect 89 = .ok (.iinc 5 (-1), 3) := by decide +kernel
theorem dX1_collect_92 : decode cX1_collect 92 = .ok (.iinc 7 1, 3) := by decide +kernel
theorem dX1_collect_95 : decode cX1_collect 95 = .ok (.goto (-66), 3) := by decide +kernel
theorem dX1_collect_98 : decode cX1_collect 98 = .ok (.return_, 1) := by decide +kernel
theorem dX1_giveLast_0 : decode cX1_giveLast 0 = .ok (.aload_n 0, 1) := by decide +kernel
theorem dX1_giveLast_1 : decode cX1_giveLast 1 = .ok (.getfield 33, 3) := by decide +kernel
theorem dX1_giveLast_4 : decode cX1_giveLast 4 = .ok (.invokevirtual 171, 3) := by decide +kernel
theorem dX1_giveLast_7 : decode cX1_giveLast 7 = .ok (.ifCond .ne 6, 3) := by decide +kernel
theorem dX1_giveLast_10 : decode cX1_giveLast 10 = .ok (.bipush (-5), 2) := by decide +kernel
theorem dX1_giveLast_12 : decode cX1_giveLast 12 = .ok (.ireturn, 1) := by decide +kernel
theorem dX1_giveLast_13 : decode cX1_giveLast 13 = .ok (.aload_n 0, 1) := by decide +kernel
theorem dX1_giveLast_14 : decode cX1_giveLast 14 = .ok (.getfield 26, 3) := by decide +kernel
theorem dX1_giveLast_17 : decode cX1_giveLast 17 = .ok (.aload_n 0, 1) := by decide +kernel
theorem dX1_giveLast_18 : decode cX1_giveLast 18 = .ok (.invokevirtual 94, 3) := by decide +kernel
theorem dX1_giveLast_21 : decode cX1_giveLast 21 = .ok (.invokevirtual 174, 3) := by decide +kernel
theorem dX1_giveLast_24 : decode cX1_giveLast 24 = .ok (.istore_n 1, 1) := by decide +kernel
theorem dX1_giveLast_25 : decode cX1_giveLast 25 = .ok (.aload_n 0, 1) := by decide +kernel
theorem dX1_giveLast_26 : decode cX1_giveLast 26 = .ok (.getfield 33, 3) := by decide +kernel
theorem dX1_giveLast_29 : decode cX1_giveLast 29 = .ok (.iconst 1, 1) := by decide +kernel
theorem dX1_giveLast_30 : decode cX1_giveLast 30 = .ok (.iload_n 1, 1) := by decide +kernel
theorem dX1_giveLast_31 : decode cX1_giveLast 31 = .ok (.ishl, 1) := by decide +kernel
theorem dX1_giveLast_32 : decode cX1_giveLast 32 = .ok (.iconst 0, 1) := by decide +kernel
theorem dX1_giveLast_33 : decode cX1_giveLast 33 = .ok (.invokevirtual 157, 3) := by decide +kernel
theorem dX1_giveLast_36 : decode cX1_giveLast 36 = .ok (.iload_n 1, 1) := by decide +kernel
theorem dX1_giveLast_37 : decode cX1_giveLast 37 = .ok (.ireturn, 1) := by decide +kernel
theorem dX1_leastRaise_0 : decode cX1_leastRaise 0 = .ok (.aload_n 0, 1) := by decide +kernel
theorem dX1_leastRaise_1 : decode cX1_leastRaise 1 = .ok (.getfield 40, 3) := by decide +kernel
theorem dX1_leastRaise_4 : decode cX1_leastRaise 4 = .ok (.getfield 177, 3) := by decide +kernel
theorem dX1_leastRaise_7 : decode cX1_leastRaise 7 = .ok (.bipush (-6), 2) := by decide +kernel
theorem dX1_leastRaise_9 : decode cX1_leastRaise 9 = .ok (.if_icmp .ne 13, 3) := by decide +kernel
theorem dX1_leastRaise_12 : decode cX1_leastRaise 12 = .ok (.aload_n 0, 1) := by decide +kernel
theorem dX1_leastRaise_13 : decode cX1_leastRaise 13 = .ok (.getfield 40, 3) := by decide +kernel
theorem dX1_leastRaise_16 : decode cX1_leastRaise 16 = .ok (.getfield 142, 3) := by decide +kernel
theorem dX1_leastRaise_19 : decode cX1_leastRaise 19 = .ok (.goto 16, 3) := by decide +kernel
theorem dX1_leastRaise_22 : decode cX1_leastRaise 22 = .ok (.aload_n 0, 1) := by decide +kernel
theorem dX1_leastRaise_23 : decode cX1_leastRaise 23 = .ok (.getfield 40, 3) := by decide +kernel
theorem dX1_leastRaise_26 : decode cX1_leastRaise 26 = .ok (.getfield 151, 3) := by decide +kernel
theorem dX1_leastRaise_29 : decode cX1_leastRaise 29 = .ok (.aload_n 0, 1) := by decide +kernel
theorem dX1_leastRaise_30 : decode cX1_leastRaise 30 = .ok (.iconst 1, 1) := by decide +kernel
theorem dX1_leastRaise_31 : decode cX1_leastRaise 31 = .ok (.invokevirtual 44, 3) := by decide +kernel
theorem dX1_leastRaise_34 : decode cX1_leastRaise 34 = .ok (.iadd, 1) := by decide +kernel
theorem dX1_leastRaise_35 : decode cX1_leastRaise 35 = .ok (.ireturn, 1) := by decide +kernel
theorem dX1_raise_0 : decode cX1_raise 0 = .ok (.iload_n 1, 1) := by decide +kernel
theorem dX1_raise_1 : decode cX1_raise 1 = .ok (.aload_n 0, 1) := by decide +kernel
theorem dX1_raise_2 : decode cX1_raise 2 = .ok (.getfield 40, 3) := by decide +kernel
theorem dX1_raise_5 : decode cX1_raise 5 = .ok (.getfield 133, 3) := by decide +kernel
theorem dX1_raise_8 : decode cX1_raise 8 = .ok (.if_icmp .eq 6, 3) := by decide +kernel
theorem dX1_raise_11 : decode cX1_raise 11 = .ok (.bipush (-5), 2) := by decide +kernel
theorem dX1_raise_13 : decode cX1_raise 13 = .ok (.ireturn, 1) := by decide +kernel
theorem dX1_raise_14 : decode cX1_raise 14 = .ok (.iload_n 2, 1) := by decide +kernel
theorem dX1_raise_15 : decode cX1_raise 15 = .ok (.aload_n 0, 1) := by decide +kernel
theorem dX1_raise_16 : decode cX1_raise 16 = .ok (.invokevirtual 145, 3) := by decide +kernel
theorem dX1_raise_19 : decode cX1_raise 19 = .ok (.aload_n 0, 1) := by decide +kernel
theorem dX1_raise_20 : decode cX1_raise 20 = .ok (.getfield 26, 3) := by decide +kernel
theorem dX1_raise_23 : decode cX1_raise 23 = .ok (.iload_n 1, 1) := by decide +kernel
theorem dX1_raise_24 : decode cX1_raise 24 = .ok (.invokevirtual 180, 3) := by decide +kernel
theorem dX1_raise_27 : decode cX1_raise 27 = .ok (.invokestatic 183, 3) := by decide +kernel
theorem dX1_raise_30 : decode cX1_raise 30 = .ok (.ifCond .ne 6, 3) := by decide +kernel
theorem dX1_raise_33 : decode cX1_raise 33 = .ok (.bipush (-2), 2) := by decide +kernel
theorem dX1_raise_35 : decode cX1_raise 35 = .ok (.ireturn, 1) := by decide +kernel
theorem dX1_raise_36 : decode cX1_raise 36 = .ok (.aload_n 0, 1) := by decide +kernel
theorem dX1_raise_37 : decode cX1_raise 37 = .ok (.getfield 40, 3) := by decide +kernel
theorem dX1_raise_40 : decode cX1_raise 40 = .ok (.iload_n 1, 1) := by decide +kernel
theorem dX1_raise_41 : decode cX1_raise 41 = .ok (.iload_n 2, 1) := by decide +kernel
theorem dX1_raise_42 : decode cX1_raise 42 = .ok (.invokevirtual 187, 3) := by decide +kernel
theorem dX1_raise_45 : decode cX1_raise 45 = .ok (.aload_n 0, 1) := by decide +kernel
theorem dX1_raise_46 : decode cX1_raise 46 = .ok (.getfield 40, 3) := by decide +kernel
theorem dX1_raise_49 : decode cX1_raise 49 = .ok (.iload_n 2, 1) := by decide +kernel
theorem dX1_raise_50 : decode cX1_raise 50 = .ok (.putfield 151, 3) := by decide +kernel
theorem dX1_raise_53 : decode cX1_raise 53 = .ok (.aload_n 0, 1) := by decide +kernel
theorem dX1_raise_54 : decode cX1_raise 54 = .ok (.getfield 40, 3) := by decide +kernel
theorem dX1_raise_57 : decode cX1_raise 57 = .ok (.iload_n 1, 1) := by decide +kernel
theorem dX1_raise_58 : decode cX1_raise 58 = .ok (.putfield 177, 3) := by decide +kernel
theorem dX1_raise_61 : decode cX1_raise 61 = .ok (.aload_n 0, 1) := by decide +kernel
theorem dX1_raise_62 : decode cX1_raise 62 = .ok (.getfield 26, 3) := by decide +kernel
theorem dX1_raise_65 : decode cX1_raise 65 = .ok (.iload_n 1, 1) := by decide +kernel
theorem dX1_raise_66 : decode cX1_raise 66 = .ok (.iload_n 2, 1) := by decide +kernel
theorem dX1_raise_67 : decode cX1_raise 67 = .ok (.invokevirtual 190, 3) := by decide +kernel
theorem dX1_raise_70 : decode cX1_raise 70 = .ok (.aload_n 0, 1) := by decide +kernel
theorem dX1_raise_71 : decode cX1_raise 71 = .ok (.iload_n 1, 1) := by decide +kernel
theorem dX1_raise_72 : decode cX1_raise 72 = .ok (.invokevirtual 193, 3) := by decide +kernel
theorem dX1_raise_75 : decode cX1_raise 75 = .ok (.bipush (-6), 2) := by decide +kernel
theorem dX1_raise_77 : decode cX1_raise 77 = .ok (.ireturn, 1) := by decide +kernel
theorem dX1_stepOut_0 : decode cX1_stepOut 0 = .ok (.iload_n 1, 1) := by decide +kernel
theorem dX1_stepOut_1 : decode cX1_stepOut 1 = .ok (.aload_n 0, 1) := by decide +kernel
theorem dX1_stepOut_2 : decode cX1_stepOut 2 = .ok (.getfield 40, 3) := by decide +kernel
theorem dX1_stepOut_5 : decode cX1_stepOut 5 = .ok (.getfield 133, 3) := by decide +kernel
theorem dX1_stepOut_8 : decode cX1_stepOut 8 = .ok (.if_icmp .eq 6, 3) := by decide +kernel
theorem dX1_stepOut_11 : decode cX1_stepOut 11 = .ok (.bipush (-5), 2) := by decide +kernel
theorem dX1_stepOut_13 : decode cX1_stepOut 13 = .ok (.ireturn, 1) := by decide +kernel
theorem dX1_stepOut_14 : decode cX1_stepOut 14 = .ok (.aload_n 0, 1) := by decide +kernel
theorem dX1_stepOut_15 : decode cX1_stepOut 15 = .ok (.getfield 40, 3) := by decide +kernel
theorem dX1_stepOut_18 : decode cX1_stepOut 18 = .ok (.iload_n 1, 1) := by decide +kernel
theorem dX1_stepOut_19 : decode cX1_stepOut 19 = .ok (.invokevirtual 197, 3) := by decide +kernel
theorem dX1_stepOut_22 : decode cX1_stepOut 22 = .ok (.aload_n 0, 1) := by decide +kernel
theorem dX1_stepOut_23 : decode cX1_stepOut 23 = .ok (.iload_n 1, 1) := by decide +kernel
theorem dX1_stepOut_24 : decode cX1_stepOut 24 = .ok (.invokevirtual 193, 3) := by decide +kernel
theorem dX1_stepOut_27 : decode cX1_stepOut 27 = .ok (.bipush (-6), 2) := by decide +kernel
theorem dX1_stepOut_29 : decode cX1_stepOut 29 = .ok (.ireturn, 1) := by decide +kernel
theorem dX1_turnBehind_0 : decode cX1_turnBehind 0 = .ok (.aload_n 0, 1) := by decide +kernel
theorem dX1_turnBehind_1 : decode cX1_turnBehind 1 = .ok (.getfield 40, 3) := by decide +kernel
theorem dX1_turnBehind_4 : decode cX1_turnBehind 4 = .ok (.aload_n 0, 1) := by decide +kernel
theorem dX1_turnBehind_5 : decode cX1_turnBehind 5 = .ok (.getfield 40, 3) := by decide +kernel
theorem dX1_turnBehind_8 : decode cX1_turnBehind 8 = .ok (.getfield 200, 3) := by decide +kernel
theorem dX1_turnBehind_11 : decode cX1_turnBehind 11 = .ok (.aload_n 0, 1) := by decide +kernel
theorem dX1_turnBehind_12 : decode cX1_turnBehind 12 = .ok (.iconst 2, 1) := by decide +kernel
theorem dX1_turnBehind_13 : decode cX1_turnBehind 13 = .ok (.invokevirtual 44, 3) := by decide +kernel
theorem dX1_turnBehind_16 : decode cX1_turnBehind 16 = .ok (.if_icmp .ge 11, 3) := by decide +kernel
theorem dX1_turnBehind_19 : decode cX1_turnBehind 19 = .ok (.aload_n 0, 1) := by decide +kernel
theorem dX1_turnBehind_20 : decode cX1_turnBehind 20 = .ok (.iload_n 1, 1) := by decide +kernel
theorem dX1_turnBehind_21 : decode cX1_turnBehind 21 = .ok (.invokevirtual 203, 3) := by decide +kernel
theorem dX1_turnBehind_24 : decode cX1_turnBehind 24 = .ok (.goto 5, 3) := by decide +kernel
theorem dX1_turnBehind_27 : decode cX1_turnBehind 27 = .ok (.bipush (-6), 2) := by decide +kernel
theorem dX1_turnBehind_29 : decode cX1_turnBehind 29 = .ok (.putfield 133, 3) := by decide +kernel
theorem dX1_turnBehind_32 : decode cX1_turnBehind 32 = .ok (.aload_n 0, 1) := by decide +kernel
theorem dX1_turnBehind_33 : decode cX1_turnBehind 33 = .ok (.getfield 40, 3) := by decide +kernel
theorem dX1_turnBehind_36 : decode cX1_turnBehind 36 = .ok (.getfield 133, 3) := by decide +kernel
theorem dX1_turnBehind_39 : decode cX1_turnBehind 39 = .ok (.bipush (-6), 2) := by decide +kernel
theorem dX1_turnBehind_41 : decode cX1_turnBehind 41 = .ok (.if_icmp .ne 35, 3) := by decide +kernel
theorem dX1_turnBehind_44 : decode cX1_turnBehind 44 = .ok (.aload_n 0, 1) := by decide +kernel
theorem dX1_turnBehind_45 : decode cX1_turnBehind 45 = .ok (.getfield 40, 3) := by decide +kernel
theorem dX1_turnBehind_48 : decode cX1_turnBehind 48 = .ok (.aload_n 0, 1) := by decide +kernel
theorem dX1_turnBehind_49 : decode cX1_turnBehind 49 = .ok (.getfield 40, 3) := by decide +kernel
theorem dX1_turnBehind_52 : decode cX1_turnBehind 52 = .ok (.getfield 177, 3) := by decide +kernel
theorem dX1_turnBehind_55 : decode cX1_turnBehind 55 = .ok (.bipush (-6), 2) := by decide +kernel
theorem dX1_turnBehind_57 : decode cX1_turnBehind 57 = .ok (.if_icmp .ne 7, 3) := by decide +kernel
theorem dX1_turnBehind_60 : decode cX1_turnBehind 60 = .ok (.iconst 0, 1) := by decide +kernel
theorem dX1_turnBehind_61 : decode cX1_turnBehind 61 = .ok (.goto 12, 3) := by decide +kernel
theorem dX1_turnBehind_64 : decode cX1_turnBehind 64 = .ok (.iconst 1, 1) := by decide +kernel
theorem dX1_turnBehind_65 : decode cX1_turnBehind 65 = .ok (.aload_n 0, 1) := by decide +kernel
theorem dX1_turnBehind_66 : decode cX1_turnBehind 66 = .ok (.getfield 40, 3) := by decide +kernel
theorem dX1_turnBehind_69 : decode cX1_turnBehind 69 = .ok (.getfield 177, 3) := by decide +kernel
theorem dX1_turnBehind_72 : decode cX1_turnBehind 72 = .ok (.ishl, 1) := by decide +kernel
theorem dX1_turnBehind_73 : decode cX1_turnBehind 73 = .ok (.putfield 148, 3) := by decide +kernel
theorem dX1_turnBehind_76 : decode cX1_turnBehind 76 = .ok (.return_, 1) := by decide +kernel
theorem dX1_nextToAct_0 : decode cX1_nextToAct 0 = .ok (.iconst 1, 1) := by decide +kernel
theorem dX1_nextToAct_1 : decode cX1_nextToAct 1 = .ok (.istore_n 2, 1) := by decide +kernel
theorem dX1_nextToAct_2 : decode cX1_nextToAct 2 = .ok (.iload_n 2, 1) := by decide +kernel
theorem dX1_nextToAct_3 : decode cX1_nextToAct 3 = .ok (.aload_n 0, 1) := by decide +kernel
theorem dX1_nextToAct_4 : decode cX1_nextToAct 4 = .ok (.getfield 26, 3) := by decide +kernel
theorem dX1_nextToAct_7 : decode cX1_nextToAct 7 = .ok (.getfield 82, 3) := by decide +kernel
theorem dX1_nextToAct_10 : decode cX1_nextToAct 10 = .ok (.if_icmp .ge 43, 3) := by decide +kernel
theorem dX1_nextToAct_13 : decode cX1_nextToAct 13 = .ok (.aload_n 0, 1) := by decide +kernel
theorem dX1_nextToAct_14 : decode cX1_nextToAct 14 = .ok (.getfield 26, 3) := by decide +kernel
theorem dX1_nextToAct_17 : decode cX1_nextToAct 17 = .ok (.iload_n 1, 1) := by decide +kernel
theorem dX1_nextToAct_18 : decode cX1_nextToAct 18 = .ok (.iload_n 2, 1) := by decide +kernel
theorem dX1_nextToAct_19 : decode cX1_nextToAct 19 = .ok (.invokevirtual 165, 3) := by decide +kernel
theorem dX1_nextToAct_22 : decode cX1_nextToAct 22 = .ok (.istore_n 3, 1) := by decide +kernel
theorem dX1_nextToAct_23 : decode cX1_nextToAct 23 = .ok (.iload_n 3, 1) := by decide +kernel
theorem dX1_nextToAct_24 : decode cX1_nextToAct 24 = .ok (.aload_n 0, 1) := by decide +kernel
theorem dX1_nextToAct_25 : decode cX1_nextToAct 25 = .ok (.getfield 40, 3) := by decide +kernel
theorem dX1_nextToAct_28 : decode cX1_nextToAct 28 = .ok (.getfield 177, 3) := by decide +kernel
theorem dX1_nextToAct_31 : decode cX1_nextToAct 31 = .ok (.if_icmp .eq 16, 3) := by decide +kernel
theorem dX1_nextToAct_34 : decode cX1_nextToAct 34 = .ok (.aload_n 0, 1) := by decide +kernel
theorem dX1_nextToAct_35 : decode cX1_nextToAct 35 = .ok (.getfield 40, 3) := by decide +kernel
theorem dX1_nextToAct_38 : decode cX1_nextToAct 38 = .ok (.iload_n 3, 1) := by decide +kernel
theorem dX1_nextToAct_39 : decode cX1_nextToAct 39 = .ok (.invokevirtual 206, 3) := by decide +kernel
theorem dX1_nextToAct_42 : decode cX1_nextToAct 42 = .ok (.ifCond .ne 5, 3) := by decide +kernel
theorem dX1_nextToAct_45 : decode cX1_nextToAct 45 = .ok (.iload_n 3, 1) := by decide +kernel
theorem dX1_nextToAct_46 : decode cX1_nextToAct 46 = .ok (.ireturn, 1) := by decide +kernel
theorem dX1_nextToAct_47 : decode cX1_nextToAct 47 = .ok (.iinc 2 1, 3) := by decide +kernel
theorem dX1_nextToAct_50 : decode cX1_nextToAct 50 = .ok (.goto (-48), 3) := by decide +kernel
theorem dX1_nextToAct_53 : decode cX1_nextToAct 53 = .ok (.bipush (-6), 2) := by decide +kernel
theorem dX1_nextToAct_55 : decode cX1_nextToAct 55 = .ok (.ireturn, 1) := by decide +kernel
theorem dX1_firstWithoutBid_0 : decode cX1_firstWithoutBid 0 = .ok (.aload_n 0, 1) := by decide +kernel
theorem dX1_firstWithoutBid_1 : decode cX1_firstWithoutBid 1 = .ok (.invokevirtual 94, 3) := by decide +kernel
theorem dX1_firstWithoutBid_4 : decode cX1_firstWithoutBid 4 = .ok (.istore_n 1, 1) := by decide +kernel
theorem dX1_firstWithoutBid_5 : decode cX1_firstWithoutBid 5 = .ok (.iconst 0, 1) := by decide +kernel
theorem dX1_firstWithoutBid_6 : decode cX1_firstWithoutBid 6 = .ok (.istore_n 2, 1) := by decide +kernel
theorem dX1_firstWithoutBid_7 : decode cX1_firstWithoutBid 7 = .ok (.iload_n 2, 1) := by decide +kernel
theorem dX1_firstWithoutBid_8 : decode cX1_firstWithoutBid 8 = .ok (.aload_n 0, 1) := by decide +kernel
theorem dX1_firstWithoutBid_9 : decode cX1_firstWithoutBid 9 = .ok (.getfield 26, 3) := by decide +kernel
theorem dX1_firstWithoutBid_12 : decode cX1_firstWithoutBid 12 = .ok (.getfield 82, 3) := by decide +kernel
theorem dX1_firstWithoutBid_15 : decode cX1_firstWithoutBid 15 = .ok (.if_icmp .ge 34, 3) := by decide +kernel
theorem dX1_firstWithoutBid_18 : decode cX1_firstWithoutBid 18 = .ok (.aload_n 0, 1) := by decide +kernel
theorem dX1_firstWithoutBid_19 : decode cX1_firstWithoutBid 19 = .ok (.getfield 26, 3) := by decide +kernel
theorem dX1_firstWithoutBid_22 : decode cX1_firstWithoutBid 22 = .ok (.iload_n 1, 1) := by decide +kernel
theorem dX1_firstWithoutBid_23 : decode cX1_firstWithoutBid 23 = .ok (.iload_n 2, 1) := by decide +kernel
theorem dX1_firstWithoutBid_24 : decode cX1_firstWithoutBid 24 = .ok (.invokevirtual 165, 3) := by decide +kernel
theorem dX1_firstWithoutBid_27 : decode cX1_firstWithoutBid 27 = .ok (.istore_n 3, 1) := by decide +kernel
theorem dX1_firstWithoutBid_28 : decode cX1_firstWithoutBid 28 = .ok (.aload_n 0, 1) := by decide +kernel
theorem dX1_firstWithoutBid_29 : decode cX1_firstWithoutBid 29 = .ok (.getfield 40, 3) := by decide +kernel
theorem dX1_firstWithoutBid_32 : decode cX1_firstWithoutBid 32 = .ok (.iload_n 3, 1) := by decide +kernel
theorem dX1_firstWithoutBid_33 : decode cX1_firstWithoutBid 33 = .ok (.invokevirtual 209, 3) := by decide +kernel
theorem dX1_firstWithoutBid_36 : decode cX1_firstWithoutBid 36 = .ok (.bipush (-6), 2) := by decide +kernel
theorem dX1_firstWithoutBid_38 : decode cX1_firstWithoutBid 38 = .ok (.if_icmp .ne 5, 3) := by decide +kernel
theorem dX1_firstWithoutBid_41 : decode cX1_firstWithoutBid 41 = .ok (.iload_n 3, 1) := by decide +kernel
theorem dX1_firstWithoutBid_42 : decode cX1_firstWithoutBid 42 = .ok (.ireturn, 1) := by decide +kernel
theorem dX1_firstWithoutBid_43 : decode cX1_firstWithoutBid 43 = .ok (.iinc 2 1, 3) := by decide +kernel
theorem dX1_firstWithoutBid_46 : decode cX1_firstWithoutBid 46 = .ok (.goto (-39), 3) := by decide +kernel
theorem dX1_firstWithoutBid_49 : decode cX1_firstWithoutBid 49 = .ok (.bipush (-6), 2) := by decide +kernel
theorem dX1_firstWithoutBid_51 : decode cX1_firstWithoutBid 51 = .ok (.ireturn, 1) := by decide +kernel
theorem dX1_handIn_0 : decode cX1_handIn 0 = .ok (.aload_n 0, 1) := by decide +kernel
theorem dX1_handIn_1 : decode cX1_handIn 1 = .ok (.getfield 40, 3) := by decide +kernel
theorem dX1_handIn_4 : decode cX1_handIn 4 = .ok (.iload_n 1, 1) := by decide +kernel
theorem dX1_handIn_5 : decode cX1_handIn 5 = .ok (.invokevirtual 209, 3) := by decide +kernel
theorem dX1_handIn_8 : decode cX1_handIn 8 = .ok (.bipush (-6), 2) := by decide +kernel
theorem dX1_handIn_10 : decode cX1_handIn 10 = .ok (.if_icmp .eq 6, 3) := by decide +kernel
theorem dX1_handIn_13 : decode cX1_handIn 13 = .ok (.bipush (-5), 2) := by decide +kernel
theorem dX1_handIn_15 : decode cX1_handIn 15 = .ok (.ireturn, 1) := by decide +kernel
theorem dX1_handIn_16 : decode cX1_handIn 16 = .ok (.iload_n 2, 1) := by decide +kernel
theorem dX1_handIn_17 : decode cX1_handIn 17 = .ok (.iconst 0, 1) := by decide +kernel
theorem dX1_handIn_18 : decode cX1_handIn 18 = .ok (.aload_n 0, 1) := by decide +kernel
theorem dX1_handIn_19 : decode cX1_handIn 19 = .ok (.getfield 26, 3) := by decide +kernel
theorem dX1_handIn_22 : decode cX1_handIn 22 = .ok (.iload_n 1, 1) := by decide +kernel
theorem dX1_handIn_23 : decode cX1_handIn 23 = .ok (.invokevirtual 180, 3) := by decide +kernel
theorem dX1_handIn_26 : decode cX1_handIn 26 = .ok (.invokestatic 183, 3) := by decide +kernel
theorem dX1_handIn_29 : decode cX1_handIn 29 = .ok (.ifCond .ne 6, 3) := by decide +kernel
theorem dX1_handIn_32 : decode cX1_handIn 32 = .ok (.bipush (-2), 2) := by decide +kernel
theorem dX1_handIn_34 : decode cX1_handIn 34 = .ok (.ireturn, 1) := by decide +kernel
theorem dX1_handIn_35 : decode cX1_handIn 35 = .ok (.aload_n 0, 1) := by decide +kernel
theorem dX1_handIn_36 : decode cX1_handIn 36 = .ok (.getfield 40, 3) := by decide +kernel
theorem dX1_handIn_39 : decode cX1_handIn 39 = .ok (.iload_n 1, 1) := by decide +kernel
theorem dX1_handIn_40 : decode cX1_handIn 40 = .ok (.iload_n 2, 1) := by decide +kernel
theorem dX1_handIn_41 : decode cX1_handIn 41 = .ok (.invokevirtual 187, 3) := by decide +kernel
theorem dX1_handIn_44 : decode cX1_handIn 44 = .ok (.aload_n 0, 1) := by decide +kernel
theorem dX1_handIn_45 : decode cX1_handIn 45 = .ok (.getfield 40, 3) := by decide +kernel
theorem dX1_handIn_48 : decode cX1_handIn 48 = .ok (.getfield 200, 3) := by decide +kernel
theorem dX1_handIn_51 : decode cX1_handIn 51 = .ok (.aload_n 0, 1) := by decide +kernel
theorem dX1_handIn_52 : decode cX1_handIn 52 = .ok (.getfield 26, 3) := by decide +kernel
theorem dX1_handIn_55 : decode cX1_handIn 55 = .ok (.getfield 82, 3) := by decide +kernel
theorem dX1_handIn_58 : decode cX1_handIn 58 = .ok (.if_icmp .ne 7, 3) := by decide +kernel
theorem dX1_handIn_61 : decode cX1_handIn 61 = .ok (.aload_n 0, 1) := by decide +kernel
theorem dX1_handIn_62 : decode cX1_handIn 62 = .ok (.invokevirtual 212, 3) := by decide +kernel
theorem dX1_handIn_65 : decode cX1_handIn 65 = .ok (.bipush (-6), 2) := by decide +kernel
theorem dX1_handIn_67 : decode cX1_handIn 67 = .ok (.ireturn, 1) := by decide +kernel
theorem dX1_openBids_0 : decode cX1_openBids 0 = .ok (.iconst 0, 1) := by decide +kernel
theorem dX1_openBids_1 : decode cX1_openBids 1 = .ok (.istore_n 1, 1) := by decide +kernel
theorem dX1_openBids_2 : decode cX1_openBids 2 = .ok (.iconst 0, 1) := by decide +kernel
theorem dX1_openBids_3 : decode cX1_openBids 3 = .ok (.istore_n 2, 1) := by decide +kernel
theorem dX1_openBids_4 : decode cX1_openBids 4 = .ok (.iconst 0, 1) := by decide +kernel
theorem dX1_openBids_5 : decode cX1_openBids 5 = .ok (.istore_n 3, 1) := by decide +kernel
theorem dX1_openBids_6 : decode cX1_openBids 6 = .ok (.iload_n 3, 1) := by decide +kernel
theorem dX1_openBids_7 : decode cX1_openBids 7 = .ok (.aload_n 0, 1) := by decide +kernel
theorem dX1_openBids_8 : decode cX1_openBids 8 = .ok (.getfield 26, 3) := by decide +kernel
theorem dX1_openBids_11 : decode cX1_openBids 11 = .ok (.getfield 82, 3) := by decide +kernel
theorem dX1_openBids_14 : decode cX1_openBids 14 = .ok (.if_icmp .ge 52, 3) := by decide +kernel
theorem dX1_openBids_17 : decode cX1_openBids 17 = .ok (.aload_n 0, 1) := by decide +kernel
theorem dX1_openBids_18 : decode cX1_openBids 18 = .ok (.getfield 40, 3) := by decide +kernel
theorem dX1_openBids_21 : decode cX1_openBids 21 = .ok (.iload_n 3, 1) := by decide +kernel
theorem dX1_openBids_22 : decode cX1_openBids 22 = .ok (.invokevirtual 209, 3) := by decide +kernel
theorem dX1_openBids_25 : decode cX1_openBids 25 = .ok (.istore 4, 2) := by decide +kernel
theorem dX1_openBids_27 : decode cX1_openBids 27 = .ok (.aload_n 0, 1) := by decide +kernel
theorem dX1_openBids_28 : decode cX1_openBids 28 = .ok (.getfield 26, 3) := by decide +kernel
theorem dX1_openBids_31 : decode cX1_openBids 31 = .ok (.iload_n 3, 1) := by decide +kernel
theorem dX1_openBids_32 : decode cX1_openBids 32 = .ok (.iload 4, 2) := by decide +kernel
theorem dX1_openBids_34 : decode cX1_openBids 34 = .ok (.invokevirtual 190, 3) := by decide +kernel
theorem dX1_openBids_37 : decode cX1_openBids 37 = .ok (.iload 4, 2) := by decide +kernel
theorem dX1_openBids_39 : decode cX1_openBids 39 = .ok (.iload_n 1, 1) := by decide +kernel
theorem dX1_openBids_40 : decode cX1_openBids 40 = .ok (.if_icmp .le 8, 3) := by decide +kernel
theorem dX1_openBids_43 : decode cX1_openBids 43 = .ok (.iload 4, 2) := by decide +kernel
theorem dX1_openBids_45 : decode cX1_openBids 45 = .ok (.istore_n 1, 1) := by decide +kernel
theorem dX1_openBids_46 : decode cX1_openBids 46 = .ok (.iconst 0, 1) := by decide +kernel
theorem dX1_openBids_47 : decode cX1_openBids 47 = .ok (.istore_n 2, 1) := by decide +kernel
theorem dX1_openBids_48 : decode cX1_openBids 48 = .ok (.iload 4, 2) := by decide +kernel
theorem dX1_openBids_50 : decode cX1_openBids 50 = .ok (.iload_n 1, 1) := by decide +kernel
theorem dX1_openBids_51 : decode cX1_openBids 51 = .ok (.if_icmp .ne 9, 3) := by decide +kernel
theorem dX1_openBids_54 : decode cX1_openBids 54 = .ok (.iload_n 2, 1) := by decide +kernel
theorem dX1_openBids_55 : decode cX1_openBids 55 = .ok (.iconst 1, 1) := by decide +kernel
theorem dX1_openBids_56 : decode cX1_openBids 56 = .ok (.iload_n 3, 1) := by decide +kernel
theorem dX1_openBids_57 : decode cX1_openBids 57 = .ok (.ishl, 1) := by decide +kernel
theorem dX1_openBids_58 : decode cX1_openBids 58 = .ok (.ior, 1) := by decide +kernel
theorem dX1_openBids_59 : decode cX1_openBids 59 = .ok (.istore_n 2, 1) := by decide +kernel
theorem dX1_openBids_60 : decode cX1_openBids 60 = .ok (.iinc 3 1, 3) := by decide +kernel
theorem dX1_openBids_63 : decode cX1_openBids 63 = .ok (.goto (-57), 3) := by decide +kernel
theorem dX1_openBids_66 : decode cX1_openBids 66 = .ok (.aload_n 0, 1) := by decide +kernel
theorem dX1_openBids_67 : decode cX1_openBids 67 = .ok (.getfield 40, 3) := by decide +kernel
theorem dX1_openBids_70 : decode cX1_openBids 70 = .ok (.iload_n 1, 1) := by decide +kernel
theorem dX1_openBids_71 : decode cX1_openBids 71 = .ok (.putfield 151, 3) := by decide +kernel
theorem dX1_openBids_74 : decode cX1_openBids 74 = .ok (.aload_n 0, 1) := by decide +kernel
theorem dX1_openBids_75 : decode cX1_openBids 75 = .ok (.getfield 40, 3) := by decide +kernel
theorem dX1_openBids_78 : decode cX1_openBids 78 = .ok (.iload_n 1, 1) := by decide +kernel
theorem dX1_openBids_79 : decode cX1_openBids 79 = .ok (.aload_n 0, 1) := by decide +kernel
theorem dX1_openBids_80 : decode cX1_openBids 80 = .ok (.getfield 40, 3) := by decide +kernel
theorem dX1_openBids_83 : decode cX1_openBids 83 = .ok (.getfield 142, 3) := by decide +kernel
theorem dX1_openBids_86 : decode cX1_openBids 86 = .ok (.if_icmp .lt 7, 3) := by decide +kernel
theorem dX1_openBids_89 : decode cX1_openBids 89 = .ok (.iload_n 2, 1) := by decide +kernel
theorem dX1_openBids_90 : decode cX1_openBids 90 = .ok (.goto 4, 3) := by decide +kernel
theorem dX1_openBids_93 : decode cX1_openBids 93 = .ok (.iconst 0, 1) := by decide +kernel
theorem dX1_openBids_94 : decode cX1_openBids 94 = .ok (.putfield 148, 3) := by decide +kernel
theorem dX1_openBids_97 : decode cX1_openBids 97 = .ok (.return_, 1) := by decide +kernel
theorem dX1_claim_0 : decode cX1_claim 0 = .ok (.aload_n 0, 1) := by decide +kernel
theorem dX1_claim_1 : decode cX1_claim 1 = .ok (.getfield 40, 3) := by decide +kernel
theorem dX1_claim_4 : decode cX1_claim 4 = .ok (.iload_n 1, 1) := by decide +kernel
theorem dX1_claim_5 : decode cX1_claim 5 = .ok (.invokevirtual 209, 3) := by decide +kernel
theorem dX1_claim_8 : decode cX1_claim 8 = .ok (.bipush (-6), 2) := by decide +kernel
theorem dX1_claim_10 : decode cX1_claim 10 = .ok (.if_icmp .eq 6, 3) := by decide +kernel
theorem dX1_claim_13 : decode cX1_claim 13 = .ok (.bipush (-5), 2) := by decide +kernel
theorem dX1_claim_15 : decode cX1_claim 15 = .ok (.ireturn, 1) := by decide +kernel
theorem dX1_claim_16 : decode cX1_claim 16 = .ok (.iload_n 2, 1) := by decide +kernel
theorem dX1_claim_17 : decode cX1_claim 17 = .ok (.aload_n 0, 1) := by decide +kernel
theorem dX1_claim_18 : decode cX1_claim 18 = .ok (.getfield 40, 3) := by decide +kernel
theorem dX1_claim_21 : decode cX1_claim 21 = .ok (.getfield 151, 3) := by decide +kernel
theorem dX1_claim_24 : decode cX1_claim 24 = .ok (.if_icmp .ne 15, 3) := by decide +kernel
theorem dX1_claim_27 : decode cX1_claim 27 = .ok (.iload_n 2, 1) := by decide +kernel
theorem dX1_claim_28 : decode cX1_claim 28 = .ok (.aload_n 0, 1) := by decide +kernel
theorem dX1_claim_29 : decode cX1_claim 29 = .ok (.getfield 26, 3) := by decide +kernel
theorem dX1_claim_32 : decode cX1_claim 32 = .ok (.iload_n 1, 1) := by decide +kernel
theorem dX1_claim_33 : decode cX1_claim 33 = .ok (.invokevirtual 180, 3) := by decide +kernel
theorem dX1_claim_36 : decode cX1_claim 36 = .ok (.if_icmp .le 6, 3) := by decide +kernel
theorem dX1_claim_39 : decode cX1_claim 39 = .ok (.bipush (-2), 2) := by decide +kernel
theorem dX1_claim_41 : decode cX1_claim 41 = .ok (.ireturn, 1) := by decide +kernel
theorem dX1_claim_42 : decode cX1_claim 42 = .ok (.aload_n 0, 1) := by decide +kernel
theorem dX1_claim_43 : decode cX1_claim 43 = .ok (.getfield 40, 3) := by decide +kernel
theorem dX1_claim_46 : decode cX1_claim 46 = .ok (.iload_n 1, 1) := by decide +kernel
theorem dX1_claim_47 : decode cX1_claim 47 = .ok (.iload_n 2, 1) := by decide +kernel
theorem dX1_claim_48 : decode cX1_claim 48 = .ok (.invokevirtual 187, 3) := by decide +kernel
theorem dX1_claim_51 : decode cX1_claim 51 = .ok (.aload_n 0, 1) := by decide +kernel
theorem dX1_claim_52 : decode cX1_claim 52 = .ok (.getfield 26, 3) := by decide +kernel
theorem dX1_claim_55 : decode cX1_claim 55 = .ok (.iload_n 1, 1) := by decide +kernel
theorem dX1_claim_56 : decode cX1_claim 56 = .ok (.iload_n 2, 1) := by decide +kernel
theorem dX1_claim_57 : decode cX1_claim 57 = .ok (.invokevirtual 190, 3) := by decide +kernel
theorem dX1_claim_60 : decode cX1_claim 60 = .ok (.bipush (-6), 2) := by decide +kernel
theorem dX1_claim_62 : decode cX1_claim 62 = .ok (.ireturn, 1) := by decide +kernel
theorem dX1_claimAlone_0 : decode cX1_claimAlone 0 = .ok (.iconst 0, 1) := by decide +kernel
theorem dX1_claimAlone_1 : decode cX1_claimAlone 1 = .ok (.istore_n 1, 1) := by decide +kernel
theorem dX1_claimAlone_2 : decode cX1_claimAlone 2 = .ok (.iload_n 1, 1) := by decide +kernel
theorem dX1_claimAlone_3 : decode cX1_claimAlone 3 = .ok (.aload_n 0, 1) := by decide +kernel
theorem dX1_claimAlone_4 : decode cX1_claimAlone 4 = .ok (.getfield 26, 3) := by decide +kernel
theorem dX1_claimAlone_7 : decode cX1_claimAlone 7 = .ok (.getfield 82, 3) := by decide +kernel
theorem dX1_claimAlone_10 : decode cX1_claimAlone 10 = .ok (.if_icmp .ge 50, 3) := by decide +kernel
theorem dX1_claimAlone_13 : decode cX1_claimAlone 13 = .ok (.aload_n 0, 1) := by decide +kernel
theorem dX1_claimAlone_14 : decode cX1_claimAlone 14 = .ok (.getfield 40, 3) := by decide +kernel
theorem dX1_claimAlone_17 : decode cX1_claimAlone 17 = .ok (.iload_n 1, 1) := by decide +kernel
theorem dX1_claimAlone_18 : decode cX1_claimAlone 18 = .ok (.invokevirtual 209, 3) := by decide +kernel
theorem dX1_claimAlone_21 : decode cX1_claimAlone 21 = .ok (.bipush (-6), 2) := by decide +kernel
theorem dX1_claimAlone_23 : decode cX1_claimAlone 23 = .ok (.if_icmp .ne 31, 3) := by decide +kernel
theorem dX1_claimAlone_26 : decode cX1_claimAlone 26 = .ok (.aload_n 0, 1) := by decide +kernel
theorem dX1_claimAlone_27 : decode cX1_claimAlone 27 = .ok (.getfield 40, 3) := by decide +kernel
theorem dX1_claimAlone_30 : decode cX1_claimAlone 30 = .ok (.getfield 151, 3) := by decide +kernel
theorem dX1_claimAlone_33 : decode cX1_claimAlone 33 = .ok (.aload_n 0, 1) := by decide +kernel
theorem dX1_claimAlone_34 : decode cX1_claimAlone 34 = .ok (.iload_n 1, 1) := by decide +kernel
theorem dX1_claimAlone_35 : decode cX1_claimAlone 35 = .ok (.invokevirtual 139, 3) := by decide +kernel
theorem dX1_claimAlone_38 : decode cX1_claimAlone 38 = .ok (.if_icmp .gt 16, 3) := by decide +kernel
theorem dX1_claimAlone_41 : decode cX1_claimAlone 41 = .ok (.aload_n 0, 1) := by decide +kernel
theorem dX1_claimAlone_42 : decode cX1_claimAlone 42 = .ok (.iload_n 1, 1) := by decide +kernel
theorem dX1_claimAlone_43 : decode cX1_claimAlone 43 = .ok (.aload_n 0, 1) := by decide +kernel
theorem dX1_claimAlone_44 : decode cX1_claimAlone 44 = .ok (.getfield 40, 3) := by decide +kernel
theorem dX1_claimAlone_47 : decode cX1_claimAlone 47 = .ok (.getfield 151, 3) := by decide +kernel
theorem dX1_claimAlone_50 : decode cX1_claimAlone 50 = .ok (.invokevirtual 118, 3) := by decide +kernel
theorem dX1_claimAlone_53 : decode cX1_claimAlone 53 = .ok (.pop, 1) := by decide +kernel
theorem dX1_claimAlone_54 : decode cX1_claimAlone 54 = .ok (.iinc 1 1, 3) := by decide +kernel
theorem dX1_claimAlone_57 : decode cX1_claimAlone 57 = .ok (.goto (-55), 3) := by decide +kernel
theorem dX1_claimAlone_60 : decode cX1_claimAlone 60 = .ok (.return_, 1) := by decide +kernel
theorem dX1_letFall_0 : decode cX1_letFall 0 = .ok (.aload_n 0, 1) := by decide +kernel
theorem dX1_letFall_1 : decode cX1_letFall 1 = .ok (.invokevirtual 94, 3) := by decide +kernel
theorem dX1_letFall_4 : decode cX1_letFall 4 = .ok (.istore_n 1, 1) := by decide +kernel
theorem dX1_letFall_5 : decode cX1_letFall 5 = .ok (.iconst 0, 1) := by decide +kernel
theorem dX1_letFall_6 : decode cX1_letFall 6 = .ok (.istore_n 2, 1) := by decide +kernel
theorem dX1_letFall_7 : decode cX1_letFall 7 = .ok (.iload_n 2, 1) := by decide +kernel
theorem dX1_letFall_8 : decode cX1_letFall 8 = .ok (.aload_n 0, 1) := by decide +kernel
theorem dX1_letFall_9 : decode cX1_letFall 9 = .ok (.getfield 26, 3) := by decide +kernel
theorem dX1_letFall_12 : decode cX1_letFall 12 = .ok (.getfield 82, 3) := by decide +kernel
theorem dX1_letFall_15 : decode cX1_letFall 15 = .ok (.if_icmp .ge 48, 3) := by decide +kernel
theorem dX1_letFall_18 : decode cX1_letFall 18 = .ok (.aload_n 0, 1) := by decide +kernel
theorem dX1_letFall_19 : decode cX1_letFall 19 = .ok (.getfield 26, 3) := by decide +kernel
theorem dX1_letFall_22 : decode cX1_letFall 22 = .ok (.iload_n 1, 1) := by decide +kernel
theorem dX1_letFall_23 : decode cX1_letFall 23 = .ok (.iload_n 2, 1) := by decide +kernel
theorem dX1_letFall_24 : decode cX1_letFall 24 = .ok (.invokevirtual 165, 3) := by decide +kernel
theorem dX1_letFall_27 : decode cX1_letFall 27 = .ok (.istore_n 3, 1) := by decide +kernel
theorem dX1_letFall_28 : decode cX1_letFall 28 = .ok (.aload_n 0, 1) := by decide +kernel
theorem dX1_letFall_29 : decode cX1_letFall 29 = .ok (.getfield 40, 3) := by decide +kernel
theorem dX1_letFall_32 : decode cX1_letFall 32 = .ok (.iload_n 3, 1) := by decide +kernel
theorem dX1_letFall_33 : decode cX1_letFall 33 = .ok (.invokevirtual 209, 3) := by decide +kernel
theorem dX1_letFall_36 : decode cX1_letFall 36 = .ok (.bipush (-6), 2) := by decide +kernel
theorem dX1_letFall_38 : decode cX1_letFall 38 = .ok (.if_icmp .ne 6, 3) := by decide +kernel
theorem dX1_letFall_41 : decode cX1_letFall 41 = .ok (.goto 16, 3) := by decide +kernel
theorem dX1_letFall_44 : decode cX1_letFall 44 = .ok (.aload_n 0, 1) := by decide +kernel
theorem dX1_letFall_45 : decode cX1_letFall 45 = .ok (.getfield 40, 3) := by decide +kernel
theorem dX1_letFall_48 : decode cX1_letFall 48 = .ok (.iconst 1, 1) := by decide +kernel
theorem dX1_letFall_49 : decode cX1_letFall 49 = .ok (.iload_n 3, 1) := by decide +kernel
theorem dX1_letFall_50 : decode cX1_letFall 50 = .ok (.ishl, 1) := by decide +kernel
theorem dX1_letFall_51 : decode cX1_letFall 51 = .ok (.putfield 148, 3) := by decide +kernel
theorem dX1_letFall_54 : decode cX1_letFall 54 = .ok (.bipush (-6), 2) := by decide +kernel
theorem dX1_letFall_56 : decode cX1_letFall 56 = .ok (.ireturn, 1) := by decide +kernel
theorem dX1_letFall_57 : decode cX1_letFall 57 = .ok (.iinc 2 1, 3) := by decide +kernel
theorem dX1_letFall_60 : decode cX1_letFall 60 = .ok (.goto (-53), 3) := by decide +kernel
theorem dX1_letFall_63 : decode cX1_letFall 63 = .ok (.aload_n 0, 1) := by decide +kernel
theorem dX1_letFall_64 : decode cX1_letFall 64 = .ok (.getfield 40, 3) := by decide +kernel
theorem dX1_letFall_67 : decode cX1_letFall 67 = .ok (.dup, 1) := by decide +kernel
theorem dX1_letFall_68 : decode cX1_letFall 68 = .ok (.getfield 151, 3) := by decide +kernel
theorem dX1_letFall_71 : decode cX1_letFall 71 = .ok (.aload_n 0, 1) := by decide +kernel
theorem dX1_letFall_72 : decode cX1_letFall 72 = .ok (.iconst 1, 1) := by decide +kernel
theorem dX1_letFall_73 : decode cX1_letFall 73 = .ok (.invokevirtual 44, 3) := by decide +kernel
theorem dX1_letFall_76 : decode cX1_letFall 76 = .ok (.isub, 1) := by decide +kernel
theorem dX1_letFall_77 : decode cX1_letFall 77 = .ok (.putfield 151, 3) := by decide +kernel
theorem dX1_letFall_80 : decode cX1_letFall 80 = .ok (.aload_n 0, 1) := by decide +kernel
theorem dX1_letFall_81 : decode cX1_letFall 81 = .ok (.getfield 40, 3) := by decide +kernel
theorem dX1_letFall_84 : decode cX1_letFall 84 = .ok (.getfield 151, 3) := by decide +kernel
theorem dX1_letFall_87 : decode cX1_letFall 87 = .ok (.iconst 1, 1) := by decide +kernel
theorem dX1_letFall_88 : decode cX1_letFall 88 = .ok (.if_icmp .ge 11, 3) := by decide +kernel
theorem dX1_letFall_91 : decode cX1_letFall 91 = .ok (.aload_n 0, 1) := by decide +kernel
theorem dX1_letFall_92 : decode cX1_letFall 92 = .ok (.getfield 40, 3) := by decide +kernel
theorem dX1_letFall_95 : decode cX1_letFall 95 = .ok (.iconst 0, 1) := by decide +kernel
theorem dX1_letFall_96 : decode cX1_letFall 96 = .ok (.putfield 148, 3) := by decide +kernel
theorem dX1_letFall_99 : decode cX1_letFall 99 = .ok (.bipush (-6), 2) := by decide +kernel
theorem dX1_letFall_101 : decode cX1_letFall 101 = .ok (.ireturn, 1) := by decide +kernel
theorem dX1_limitOf_0 : decode cX1_limitOf 0 = .ok (.aload_n 0, 1) := by decide +kernel
theorem dX1_limitOf_1 : decode cX1_limitOf 1 = .ok (.getfield 33, 3) := by decide +kernel
theorem dX1_limitOf_4 : decode cX1_limitOf 4 = .ok (.invokevirtual 102, 3) := by decide +kernel
theorem dX1_limitOf_7 : decode cX1_limitOf 7 = .ok (.bipush (-6), 2) := by decide +kernel
theorem dX1_limitOf_9 : decode cX1_limitOf 9 = .ok (.if_icmp .ne 6, 3) := by decide +kernel
theorem dX1_limitOf_12 : decode cX1_limitOf 12 = .ok (.bipush (-6), 2) := by decide +kernel
theorem dX1_limitOf_14 : decode cX1_limitOf 14 = .ok (.ireturn, 1) := by decide +kernel
theorem dX1_limitOf_15 : decode cX1_limitOf 15 = .ok (.aload_n 0, 1) := by decide +kernel
theorem dX1_limitOf_16 : decode cX1_limitOf 16 = .ok (.getfield 33, 3) := by decide +kernel
theorem dX1_limitOf_19 : decode cX1_limitOf 19 = .ok (.iload_n 1, 1) := by decide +kernel
theorem dX1_limitOf_20 : decode cX1_limitOf 20 = .ok (.aload_n 0, 1) := by decide +kernel
theorem dX1_limitOf_21 : decode cX1_limitOf 21 = .ok (.iconst 3, 1) := by decide +kernel
theorem dX1_limitOf_22 : decode cX1_limitOf 22 = .ok (.invokevirtual 44, 3) := by decide +kernel
theorem dX1_limitOf_25 : decode cX1_limitOf 25 = .ok (.aload_n 0, 1) := by decide +kernel
theorem dX1_limitOf_26 : decode cX1_limitOf 26 = .ok (.iconst 4, 1) := by decide +kernel
theorem dX1_limitOf_27 : decode cX1_limitOf 27 = .ok (.invokevirtual 44, 3) := by decide +kernel
theorem dX1_limitOf_30 : decode cX1_limitOf 30 = .ok (.invokevirtual 215, 3) := by decide +kernel
theorem dX1_limitOf_33 : decode cX1_limitOf 33 = .ok (.istore_n 2, 1) := by decide +kernel
theorem dX1_limitOf_34 : decode cX1_limitOf 34 = .ok (.aload_n 0, 1) := by decide +kernel
theorem dX1_limitOf_35 : decode cX1_limitOf 35 = .ok (.getfield 26, 3) := by decide +kernel
theorem dX1_limitOf_38 : decode cX1_limitOf 38 = .ok (.iload_n 1, 1) := by decide +kernel
theorem dX1_limitOf_39 : decode cX1_limitOf 39 = .ok (.invokevirtual 180, 3) := by decide +kernel
theorem dX1_limitOf_42 : decode cX1_limitOf 42 = .ok (.iload_n 2, 1) := by decide +kernel
theorem dX1_limitOf_43 : decode cX1_limitOf 43 = .ok (.aload_n 0, 1) := by decide +kernel
theorem dX1_limitOf_44 : decode cX1_limitOf 44 = .ok (.getfield 26, 3) := by decide +kernel
theorem dX1_limitOf_47 : decode cX1_limitOf 47 = .ok (.iload_n 1, 1) := by decide +kernel
theorem dX1_limitOf_48 : decode cX1_limitOf 48 = .ok (.invokevirtual 219, 3) := by decide +kernel
theorem dX1_limitOf_51 : decode cX1_limitOf 51 = .ok (.imul, 1) := by decide +kernel
theorem dX1_limitOf_52 : decode cX1_limitOf 52 = .ok (.bipush 10, 2) := by decide +kernel
theorem dX1_limitOf_54 : decode cX1_limitOf 54 = .ok (.idiv, 1) := by decide +kernel
theorem dX1_limitOf_55 : decode cX1_limitOf 55 = .ok (.invokestatic 222, 3) := by decide +kernel
theorem dX1_limitOf_58 : decode cX1_limitOf 58 = .ok (.ireturn, 1) := by decide +kernel
theorem dX1_neededAgainst_0 : decode cX1_neededAgainst 0 = .ok (.iload_n 2, 1) := by decide +kernel
theorem dX1_neededAgainst_1 : decode cX1_neededAgainst 1 = .ok (.istore_n 3, 1) := by decide +kernel
theorem dX1_neededAgainst_2 : decode cX1_neededAgainst 2 = .ok (.iconst 0, 1) := by decide +kernel
theorem dX1_neededAgainst_3 : decode cX1_neededAgainst 3 = .ok (.istore 4, 2) := by decide +kernel
theorem dX1_neededAgainst_5 : decode cX1_neededAgainst 5 = .ok (.iload 4, 2) := by decide +kernel
theorem dX1_neededAgainst_7 : decode cX1_neededAgainst 7 = .ok (.aload_n 0, 1) := by decide +kernel
theorem dX1_neededAgainst_8 : decode cX1_neededAgainst 8 = .ok (.getfield 26, 3) := by decide +kernel
theorem dX1_neededAgainst_11 : decode cX1_neededAgainst 11 = .ok (.getfield 82, 3) := by decide +kernel
theorem dX1_neededAgainst_14 : decode cX1_neededAgainst 14 = .ok (.if_icmp .ge 26, 3) := by decide +kernel
theorem dX1_neededAgainst_17 : decode cX1_neededAgainst 17 = .ok (.iload 4, 2) := by decide +kernel
theorem dX1_neededAgainst_19 : decode cX1_neededAgainst 19 = .ok (.iload_n 1, 1) := by decide +kernel
theorem dX1_neededAgainst_20 : decode cX1_neededAgainst 20 = .ok (.if_icmp .eq 14, 3) := by decide +kernel
theorem dX1_neededAgainst_23 : decode cX1_neededAgainst 23 = .ok (.iload_n 3, 1) := by decide +kernel
theorem dX1_neededAgainst_24 : decode cX1_neededAgainst 24 = .ok (.aload_n 0, 1) := by decide +kernel
theorem dX1_neededAgainst_25 : decode cX1_neededAgainst 25 = .ok (.iload 4, 2) := by decide +kernel
theorem dX1_neededAgainst_27 : decode cX1_neededAgainst 27 = .ok (.invokevirtual 139, 3) := by decide +kernel
theorem dX1_neededAgainst_30 : decode cX1_neededAgainst 30 = .ok (.invokestatic 227, 3) := by decide +kernel
theorem dX1_neededAgainst_33 : decode cX1_neededAgainst 33 = .ok (.istore_n 3, 1) := by decide +kernel
theorem dX1_neededAgainst_34 : decode cX1_neededAgainst 34 = .ok (.iinc 4 1, 3) := by decide +kernel
theorem dX1_neededAgainst_37 : decode cX1_neededAgainst 37 = .ok (.goto (-32), 3) := by decide +kernel
theorem dX1_neededAgainst_40 : decode cX1_neededAgainst 40 = .ok (.iload_n 3, 1) := by decide +kernel
theorem dX1_neededAgainst_41 : decode cX1_neededAgainst 41 = .ok (.ireturn, 1) := by decide +kernel
theorem dX1_valueOf_0 : decode cX1_valueOf 0 = .ok (.aload_n 0, 1) := by decide +kernel
theorem dX1_valueOf_1 : decode cX1_valueOf 1 = .ok (.getfield 33, 3) := by decide +kernel
theorem dX1_valueOf_4 : decode cX1_valueOf 4 = .ok (.iload_n 1, 1) := by decide +kernel
theorem dX1_valueOf_5 : decode cX1_valueOf 5 = .ok (.aload_n 0, 1) := by decide +kernel
theorem dX1_valueOf_6 : decode cX1_valueOf 6 = .ok (.iconst 3, 1) := by decide +kernel
theorem dX1_valueOf_7 : decode cX1_valueOf 7 = .ok (.invokevirtual 44, 3) := by decide +kernel
theorem dX1_valueOf_10 : decode cX1_valueOf 10 = .ok (.aload_n 0, 1) := by decide +kernel
theorem dX1_valueOf_11 : decode cX1_valueOf 11 = .ok (.iconst 4, 1) := by decide +kernel
theorem dX1_valueOf_12 : decode cX1_valueOf 12 = .ok (.invokevirtual 44, 3) := by decide +kernel
theorem dX1_valueOf_15 : decode cX1_valueOf 15 = .ok (.invokevirtual 230, 3) := by decide +kernel
theorem dX1_valueOf_18 : decode cX1_valueOf 18 = .ok (.ireturn, 1) := by decide +kernel
theorem dX1_scoreOf_0 : decode cX1_scoreOf 0 = .ok (.aload_n 0, 1) := by decide +kernel
theorem dX1_scoreOf_1 : decode cX1_scoreOf 1 = .ok (.iconst 5, 1) := by decide +kernel
theorem dX1_scoreOf_2 : decode cX1_scoreOf 2 = .ok (.invokevirtual 44, 3) := by decide +kernel
theorem dX1_scoreOf_5 : decode cX1_scoreOf 5 = .ok (.istore_n 2, 1) := by decide +kernel
theorem dX1_scoreOf_6 : decode cX1_scoreOf 6 = .ok (.aload_n 0, 1) := by decide +kernel
theorem dX1_scoreOf_7 : decode cX1_scoreOf 7 = .ok (.iload_n 1, 1) := by decide +kernel
theorem dX1_scoreOf_8 : decode cX1_scoreOf 8 = .ok (.invokevirtual 233, 3) := by decide +kernel
theorem dX1_scoreOf_11 : decode cX1_scoreOf 11 = .ok (.iload_n 2, 1) := by decide +kernel
theorem dX1_scoreOf_12 : decode cX1_scoreOf 12 = .ok (.ifCond .le 16, 3) := by decide +kernel
theorem dX1_scoreOf_15 : decode cX1_scoreOf 15 = .ok (.aload_n 0, 1) := by decide +kernel
theorem dX1_scoreOf_16 : decode cX1_scoreOf 16 = .ok (.getfield 26, 3) := by decide +kernel
theorem dX1_scoreOf_19 : decode cX1_scoreOf 19 = .ok (.iload_n 1, 1) := by decide +kernel
theorem dX1_scoreOf_20 : decode cX1_scoreOf 20 = .ok (.invokevirtual 180, 3) := by decide +kernel
theorem dX1_scoreOf_23 : decode cX1_scoreOf 23 = .ok (.iload_n 2, 1) := by decide +kernel
theorem dX1_scoreOf_24 : decode cX1_scoreOf 24 = .ok (.idiv, 1) := by decide +kernel
theorem dX1_scoreOf_25 : decode cX1_scoreOf 25 = .ok (.goto 4, 3) := by decide +kernel
theorem dX1_scoreOf_28 : decode cX1_scoreOf 28 = .ok (.iconst 0, 1) := by decide +kernel
theorem dX1_scoreOf_29 : decode cX1_scoreOf 29 = .ok (.iadd, 1) := by decide +kernel
theorem dX1_scoreOf_30 : decode cX1_scoreOf 30 = .ok (.ireturn, 1) := by decide +kernel
theorem dX1_placeOf_0 : decode cX1_placeOf 0 = .ok (.aload_n 0, 1) := by decide +kernel
theorem dX1_placeOf_1 : decode cX1_placeOf 1 = .ok (.iload_n 1, 1) := by decide +kernel
theorem dX1_placeOf_2 : decode cX1_placeOf 2 = .ok (.invokevirtual 236, 3) := by decide +kernel
theorem dX1_placeOf_5 : decode cX1_placeOf 5 = .ok (.istore_n 2, 1) := by decide +kernel
theorem dX1_placeOf_6 : decode cX1_placeOf 6 = .ok (.iconst 1, 1) := by decide +kernel
theorem dX1_placeOf_7 : decode cX1_placeOf 7 = .ok (.istore_n 3, 1) := by decide +kernel
theorem dX1_placeOf_8 : decode cX1_placeOf 8 = .ok (.iconst 0, 1) := by decide +kernel
theorem dX1_placeOf_9 : decode cX1_placeOf 9 = .ok (.istore 4, 2) := by decide +kernel
theorem dX1_placeOf_11 : decode cX1_placeOf 11 = .ok (.iload 4, 2) := by decide +kernel
theorem dX1_placeOf_13 : decode cX1_placeOf 13 = .ok (.aload_n 0, 1) := by decide +kernel
theorem dX1_placeOf_14 : decode cX1_placeOf 14 = .ok (.getfield 26, 3) := by decide +kernel
theorem dX1_placeOf_17 : decode cX1_placeOf 17 = .ok (.getfield 82, 3) := by decide +kernel
theorem dX1_placeOf_20 : decode cX1_placeOf 20 = .ok (.if_icmp .ge 38, 3) := by decide +kernel
theorem dX1_placeOf_23 : decode cX1_placeOf 23 = .ok (.aload_n 0, 1) := by decide +kernel
theorem dX1_placeOf_24 : decode cX1_placeOf 24 = .ok (.iload 4, 2) := by decide +kernel
theorem dX1_placeOf_26 : decode cX1_placeOf 26 = .ok (.invokevirtual 236, 3) := by decide +kernel
theorem dX1_placeOf_29 : decode cX1_placeOf 29 = .ok (.istore 5, 2) := by decide +kernel
theorem dX1_placeOf_31 : decode cX1_placeOf 31 = .ok (.iload 5, 2) := by decide +kernel
theorem dX1_placeOf_33 : decode cX1_placeOf 33 = .ok (.iload_n 2, 1) := by decide +kernel
theorem dX1_placeOf_34 : decode cX1_placeOf 34 = .ok (.if_icmp .gt 15, 3) := by decide +kernel
theorem dX1_placeOf_37 : decode cX1_placeOf 37 = .ok (.iload 5, 2) := by decide +kernel
theorem dX1_placeOf_39 : decode cX1_placeOf 39 = .ok (.iload_n 2, 1) := by decide +kernel
theorem dX1_placeOf_40 : decode cX1_placeOf 40 = .ok (.if_icmp .ne 12, 3) := by decide +kernel
theorem dX1_placeOf_43 : decode cX1_placeOf 43 = .ok (.iload 4, 2) := by decide +kernel
theorem dX1_placeOf_45 : decode cX1_placeOf 45 = .ok (.iload_n 1, 1) := by decide +kernel
theorem dX1_placeOf_46 : decode cX1_placeOf 46 = .ok (.if_icmp .ge 6, 3) := by decide +kernel
theorem dX1_placeOf_49 : decode cX1_placeOf 49 = .ok (.iinc 3 1, 3) := by decide +kernel
theorem dX1_placeOf_52 : decode cX1_placeOf 52 = .ok (.iinc 4 1, 3) := by decide +kernel
theorem dX1_placeOf_55 : decode cX1_placeOf 55 = .ok (.goto (-44), 3) := by decide +kernel
theorem dX1_placeOf_58 : decode cX1_placeOf 58 = .ok (.iload_n 3, 1) := by decide +kernel
theorem dX1_placeOf_59 : decode cX1_placeOf 59 = .ok (.ireturn, 1) := by decide +kernel
theorem dX2_init_0 : decode cX2_init 0 = .ok (.aload_n 0, 1) := by decide +kernel
theorem dX2_init_1 : decode cX2_init 1 = .ok (.invokespecial 3, 3) := by decide +kernel
theorem dX2_init_4 : decode cX2_init 4 = .ok (.aload_n 0, 1) := by decide +kernel
theorem dX2_init_5 : decode cX2_init 5 = .ok (.bipush 12, 2) := by decide +kernel
theorem dX2_init_7 : decode cX2_init 7 = .ok (.newarray .int, 2) := by decide +kernel
theorem dX2_init_9 : decode cX2_init 9 = .ok (.putfield 9, 3) := by decide +kernel
theorem dX2_init_12 : decode cX2_init 12 = .ok (.aload_n 0, 1) := by decide +kernel
theorem dX2_init_13 : decode cX2_init 13 = .ok (.bipush 12, 2) := by decide +kernel
theorem dX2_init_15 : decode cX2_init 15 = .ok (.newarray .int, 2) := by decide +kernel
theorem dX2_init_17 : decode cX2_init 17 = .ok (.putfield 15, 3) := by decide +kernel
theorem dX2_init_20 : decode cX2_init 20 = .ok (.aload_n 0, 1) := by decide +kernel
theorem dX2_init_21 : decode cX2_init 21 = .ok (.bipush 12, 2) := by decide +kernel
theorem dX2_init_23 : decode cX2_init 23 = .ok (.newarray .int, 2) := by decide +kernel
theorem dX2_init_25 : decode cX2_init 25 = .ok (.putfield 18, 3) := by decide +kernel
theorem dX2_init_28 : decode cX2_init 28 = .ok (.aload_n 0, 1) := by decide +kernel
theorem dX2_init_29 : decode cX2_init 29 = .ok (.bipush 12, 2) := by decide +kernel
theorem dX2_init_31 : decode cX2_init 31 = .ok (.newarray .int, 2) := by decide +kernel
theorem dX2_init_33 : decode cX2_init 33 = .ok (.putfield 21, 3) := by decide +kernel
theorem dX2_init_36 : decode cX2_init 36 = .ok (.return_, 1) := by decide +kernel
theorem dX2_clear_0 : decode cX2_clear 0 = .ok (.aload_n 0, 1) := by decide +kernel
theorem dX2_clear_1 : decode cX2_clear 1 = .ok (.iconst 0, 1) := by decide +kernel
theorem dX2_clear_2 : decode cX2_clear 2 = .ok (.putfield 24, 3) := by decide +kernel
theorem dX2_clear_5 : decode cX2_clear 5 = .ok (.aload_n 0, 1) := by decide +kernel
theorem dX2_clear_6 : decode cX2_clear 6 = .ok (.iconst 0, 1) := by decide +kernel
theorem dX2_clear_7 : decode cX2_clear 7 = .ok (.putfield 28, 3) := by decide +kernel
theorem dX2_clear_10 : decode cX2_clear 10 = .ok (.return_, 1) := by decide +kernel
theorem dX2_takeOver_0 : decode cX2_takeOver 0 = .ok (.aload_n 0, 1) := by decide +kernel
theorem dX2_takeOver_1 : decode cX2_takeOver 1 = .ok (.aload_n 1, 1) := by decide +kernel
theorem dX2_takeOver_2 : decode cX2_takeOver 2 = .ok (.getfield 24, 3) := by decide +kernel
theorem dX2_takeOver_5 : decode cX2_takeOver 5 = .ok (.putfield 24, 3) := by decide +kernel
theorem dX2_takeOver_8 : decode cX2_takeOver 8 = .ok (.aload_n 0, 1) := by decide +kernel
theorem dX2_takeOver_9 : decode cX2_takeOver 9 = .ok (.aload_n 1, 1) := by decide +kernel
theorem dX2_takeOver_10 : decode cX2_takeOver 10 = .ok (.getfield 28, 3) := by decide +kernel
theorem dX2_takeOver_13 : decode cX2_takeOver 13 = .ok (.putfield 28, 3) := by decide +kernel
theorem dX2_takeOver_16 : decode cX2_takeOver 16 = .ok (.aload_n 1, 1) := by decide +kernel
theorem dX2_takeOver_17 : decode cX2_takeOver 17 = .ok (.getfield 9, 3) := by decide +kernel
theorem dX2_takeOver_20 : decode cX2_takeOver 20 = .ok (.aload_n 0, 1) := by decide +kernel
theorem dX2_takeOver_21 : decode cX2_takeOver 21 = .ok (.getfield 9, 3) := by decide +kernel
theorem dX2_takeOver_24 : decode cX2_takeOver 24 = .ok (.invokestatic 31, 3) := by decide +kernel
theorem dX2_takeOver_27 : decode cX2_takeOver 27 = .ok (.aload_n 1, 1) := by decide +kernel
theorem dX2_takeOver_28 : decode cX2_takeOver 28 = .ok (.getfield 15, 3) := by decide +kernel
theorem dX2_takeOver_31 : decode cX2_takeOver 31 = .ok (.aload_n 0, 1) := by decide +kernel
theorem dX2_takeOver_32 : decode cX2_takeOver 32 = .ok (.getfield 15, 3) := by decide +kernel
theorem dX2_takeOver_35 : decode cX2_takeOver 35 = .ok (.invokestatic 31, 3) := by decide +kernel
theorem dX2_takeOver_38 : decode cX2_takeOver 38 = .ok (.aload_n 1, 1) := by decide +kernel
theorem dX2_takeOver_39 : decode cX2_takeOver 39 = .ok (.getfield 18, 3) := by decide +kernel
theorem dX2_takeOver_42 : decode cX2_takeOver 42 = .ok (.aload_n 0, 1) := by decide +kernel
theorem dX2_takeOver_43 : decode cX2_takeOver 43 = .ok (.getfield 18, 3) := by decide +kernel
theorem dX2_takeOver_46 : decode cX2_takeOver 46 = .ok (.invokestatic 31, 3) := by decide +kernel
theorem dX2_takeOver_49 : decode cX2_takeOver 49 = .ok (.aload_n 1, 1) := by decide +kernel
theorem dX2_takeOver_50 : decode cX2_takeOver 50 = .ok (.getfield 21, 3) := by decide +kernel
theorem dX2_takeOver_53 : decode cX2_takeOver 53 = .ok (.aload_n 0, 1) := by decide +kernel
theorem dX2_takeOver_54 : decode cX2_takeOver 54 = .ok (.getfield 21, 3) := by decide +kernel
theorem dX2_takeOver_57 : decode cX2_takeOver 57 = .ok (.invokestatic 31, 3) := by decide +kernel
theorem dX2_takeOver_60 : decode cX2_takeOver 60 = .ok (.return_, 1) := by decide +kernel
theorem dX2_areFull_0 : decode cX2_areFull 0 = .ok (.aload_n 0, 1) := by decide +kernel
theorem dX2_areFull_1 : decode cX2_areFull 1 = .ok (.getfield 24, 3) := by decide +kernel
theorem dX2_areFull_4 : decode cX2_areFull 4 = .ok (.bipush 12, 2) := by decide +kernel
theorem dX2_areFull_6 : decode cX2_areFull 6 = .ok (.if_icmp .lt 7, 3) := by decide +kernel
theorem dX2_areFull_9 : decode cX2_areFull 9 = .ok (.iconst 1, 1) := by decide +kernel
theorem dX2_areFull_10 : decode cX2_areFull 10 = .ok (.goto 4, 3) := by decide +kernel
theorem dX2_areFull_13 : decode cX2_areFull 13 = .ok (.iconst 0, 1) := by decide +kernel
theorem dX2_areFull_14 : decode cX2_areFull 14 = .ok (.ireturn, 1) := by decide +kernel
theorem dX2_hasLot_0 : decode cX2_hasLot 0 = .ok (.iload_n 1, 1) := by decide +kernel
theorem dX2_hasLot_1 : decode cX2_hasLot 1 = .ok (.ifCond .lt 15, 3) := by decide +kernel
theorem dX2_hasLot_4 : decode cX2_hasLot 4 = .ok (.iload_n 1, 1) := by decide +kernel
theorem dX2_hasLot_5 : decode cX2_hasLot 5 = .ok (.aload_n 0, 1) := by decide +kernel
theorem dX2_hasLot_6 : decode cX2_hasLot 6 = .ok (.getfield 24, 3) := by decide +kernel
theorem dX2_hasLot_9 : decode cX2_hasLot 9 = .ok (.if_icmp .ge 7, 3) := by decide +kernel
theorem dX2_hasLot_12 : decode cX2_hasLot 12 = .ok (.iconst 1, 1) := by decide +kernel
theorem dX2_hasLot_13 : decode cX2_hasLot 13 = .ok (.goto 4, 3) := by decide +kernel
theorem dX2_hasLot_16 : decode cX2_hasLot 16 = .ok (.iconst 0, 1) := by decide +kernel
theorem dX2_hasLot_17 : decode cX2_hasLot 17 = .ok (.ireturn, 1) := by decide +kernel
theorem dX2_add_0 : decode cX2_add 0 = .ok (.aload_n 0, 1) := by decide +kernel
theorem dX2_add_1 : decode cX2_add 1 = .ok (.invokevirtual 35, 3) := by decide +kernel
theorem dX2_add_4 : decode cX2_add 4 = .ok (.ifCond .eq 6, 3) := by decide +kernel
theorem dX2_add_7 : decode cX2_add 7 = .ok (.bipush (-4), 2) := by decide +kernel
theorem dX2_add_9 : decode cX2_add 9 = .ok (.ireturn, 1) := by decide +kernel
theorem dX2_add_10 : decode cX2_add 10 = .ok (.aload_n 0, 1) := by decide +kernel
theorem dX2_add_11 : decode cX2_add 11 = .ok (.getfield 9, 3) := by decide +kernel
theorem dX2_add_14 : decode cX2_add 14 = .ok (.aload_n 0, 1) := by decide +kernel
theorem dX2_add_15 : decode cX2_add 15 = .ok (.getfield 24, 3) := by decide +kernel
theorem dX2_add_18 : decode cX2_add 18 = .ok (.iload_n 1, 1) := by decide +kernel
theorem dX2_add_19 : decode cX2_add 19 = .ok (.iastore, 1) := by decide +kernel
theorem dX2_add_20 : decode cX2_add 20 = .ok (.aload_n 0, 1) := by decide +kernel
theorem dX2_add_21 : decode cX2_add 21 = .ok (.getfield 15, 3) := by decide +kernel
theorem dX2_add_24 : decode cX2_add 24 = .ok (.aload_n 0, 1) := by decide +kernel
theorem dX2_add_25 : decode cX2_add 25 = .ok (.getfield 24, 3) := by decide +kernel
theorem dX2_add_28 : decode cX2_add 28 = .ok (.iload_n 2, 1) := by decide +kernel
theorem dX2_add_29 : decode cX2_add 29 = .ok (.iastore, 1) := by decide +kernel
theorem dX2_add_30 : decode cX2_add 30 = .ok (.aload_n 0, 1) := by decide +kernel
theorem dX2_add_31 : decode cX2_add 31 = .ok (.getfield 18, 3) := by decide +kernel
theorem dX2_add_34 : decode cX2_add 34 = .ok (.aload_n 0, 1) := by decide +kernel
theorem dX2_add_35 : decode cX2_add 35 = .ok (.getfield 24, 3) := by decide +kernel
theorem dX2_add_38 : decode cX2_add 38 = .ok (.iconst 0, 1) := by decide +kernel
theorem dX2_add_39 : decode cX2_add 39 = .ok (.iastore, 1) := by decide +kernel
theorem dX2_add_40 : decode cX2_add 40 = .ok (.aload_n 0, 1) := by decide +kernel
theorem dX2_add_41 : decode cX2_add 41 = .ok (.getfield 21, 3) := by decide +kernel
theorem dX2_add_44 : decode cX2_add 44 = .ok (.aload_n 0, 1) := by decide +kernel
theorem dX2_add_45 : decode cX2_add 45 = .ok (.getfield 24, 3) := by decide +kernel
theorem dX2_add_48 : decode cX2_add 48 = .ok (.iconst 0, 1) := by decide +kernel
theorem dX2_add_49 : decode cX2_add 49 = .ok (.iastore, 1) := by decide +kernel
theorem dX2_add_50 : decode cX2_add 50 = .ok (.aload_n 0, 1) := by decide +kernel
theorem dX2_add_51 : decode cX2_add 51 = .ok (.dup, 1) := by decide +kernel
theorem dX2_add_52 : decode cX2_add 52 = .ok (.getfield 24, 3) := by decide +kernel
theorem dX2_add_55 : decode cX2_add 55 = .ok (.iconst 1, 1) := by decide +kernel
theorem dX2_add_56 : decode cX2_add 56 = .ok (.iadd, 1) := by decide +kernel
theorem dX2_add_57 : decode cX2_add 57 = .ok (.putfield 24, 3) := by decide +kernel
theorem dX2_add_60 : decode cX2_add 60 = .ok (.aload_n 0, 1) := by decide +kernel
theorem dX2_add_61 : decode cX2_add 61 = .ok (.getfield 24, 3) := by decide +kernel
theorem dX2_add_64 : decode cX2_add 64 = .ok (.iconst 1, 1) := by decide +kernel
theorem dX2_add_65 : decode cX2_add 65 = .ok (.isub, 1) := by decide +kernel
theorem dX2_add_66 : decode cX2_add 66 = .ok (.ireturn, 1) := by decide +kernel
theorem dX2_next_0 : decode cX2_next 0 = .ok (.aload_n 0, 1) := by decide +kernel
theorem dX2_next_1 : decode cX2_next 1 = .ok (.getfield 28, 3) := by decide +kernel
theorem dX2_next_4 : decode cX2_next 4 = .ok (.aload_n 0, 1) := by decide +kernel
theorem dX2_next_5 : decode cX2_next 5 = .ok (.getfield 24, 3) := by decide +kernel
theorem dX2_next_8 : decode cX2_next 8 = .ok (.if_icmp .ge 10, 3) := by decide +kernel
theorem dX2_next_11 : decode cX2_next 11 = .ok (.aload_n 0, 1) := by decide +kernel
theorem dX2_next_12 : decode cX2_next 12 = .ok (.getfield 28, 3) := by decide +kernel
theorem dX2_next_15 : decode cX2_next 15 = .ok (.goto 5, 3) := by decide +kernel
theorem dX2_next_18 : decode cX2_next 18 = .ok (.bipush (-6), 2) := by decide +kernel
theorem dX2_next_20 : decode cX2_next 20 = .ok (.ireturn, 1) := by decide +kernel
theorem dX2_nextIsLast_0 : decode cX2_nextIsLast 0 = .ok (.aload_n 0, 1) := by decide +kernel
theorem dX2_nextIsLast_1 : decode cX2_nextIsLast 1 = .ok (.getfield 24, 3) := by decide +kernel
theorem dX2_nextIsLast_4 : decode cX2_nextIsLast 4 = .ok (.ifCond .le 20, 3) := by decide +kernel
theorem dX2_nextIsLast_7 : decode cX2_nextIsLast 7 = .ok (.aload_n 0, 1) := by decide +kernel
theorem dX2_nextIsLast_8 : decode cX2_nextIsLast 8 = .ok (.getfield 28, 3) := by decide +kernel
theorem dX2_nextIsLast_11 : decode cX2_nextIsLast 11 = .ok (.aload_n 0, 1) := by decide +kernel
theorem dX2_nextIsLast_12 : decode cX2_nextIsLast 12 = .ok (.getfield 24, 3) := by decide +kernel
theorem dX2_nextIsLast_15 : decode cX2_nextIsLast 15 = .ok (.iconst 1, 1) := by decide +kernel
theorem dX2_nextIsLast_16 : decode cX2_nextIsLast 16 = .ok (.isub, 1) := by decide +kernel
theorem dX2_nextIsLast_17 : decode cX2_nextIsLast 17 = .ok (.if_icmp .ne 7, 3) := by decide +kernel
theorem dX2_nextIsLast_20 : decode cX2_nextIsLast 20 = .ok (.iconst 1, 1) := by decide +kernel
theorem dX2_nextIsLast_21 : decode cX2_nextIsLast 21 = .ok (.goto 4, 3) := by decide +kernel
theorem dX2_nextIsLast_24 : decode cX2_nextIsLast 24 = .ok (.iconst 0, 1) := by decide +kernel
theorem dX2_nextIsLast_25 : decode cX2_nextIsLast 25 = .ok (.ireturn, 1) := by decide +kernel
theorem dX2_nextIsForSale_0 : decode cX2_nextIsForSale 0 = .ok (.aload_n 0, 1) := by decide +kernel
theorem dX2_nextIsForSale_1 : decode cX2_nextIsForSale 1 = .ok (.getfield 28, 3) := by decide +kernel
theorem dX2_nextIsForSale_4 : decode cX2_nextIsForSale 4 = .ok (.aload_n 0, 1) := by decide +kernel
theorem dX2_nextIsForSale_5 : decode cX2_nextIsForSale 5 = .ok (.getfield 24, 3) := by decide +kernel
theorem dX2_nextIsForSale_8 : decode cX2_nextIsForSale 8 = .ok (.iconst 1, 1) := by decide +kernel
theorem dX2_nextIsForSale_9 : decode cX2_nextIsForSale 9 = .ok (.isub, 1) := by decide +kernel
theorem dX2_nextIsForSale_10 : decode cX2_nextIsForSale 10 = .ok (.if_icmp .ge 7, 3) := by decide +kernel
theorem dX2_nextIsForSale_13 : decode cX2_nextIsForSale 13 = .ok (.iconst 1, 1) := by decide +kernel
theorem dX2_nextIsForSale_14 : decode cX2_nextIsForSale 14 = .ok (.goto 4, 3) := by decide +kernel
theorem dX2_nextIsForSale_17 : decode cX2_nextIsForSale 17 = .ok (.iconst 0, 1) := by decide +kernel
theorem dX2_nextIsForSale_18 : decode cX2_nextIsForSale 18 = .ok (.ireturn, 1) := by decide +kernel
theorem dX2_close_0 : decode cX2_close 0 = .ok (.aload_n 0, 1) := by decide +kernel
theorem dX2_close_1 : decode cX2_close 1 = .ok (.getfield 28, 3) := by decide +kernel
theorem dX2_close_4 : decode cX2_close 4 = .ok (.ifCond .lt 14, 3) := by decide +kernel
theorem dX2_close_7 : decode cX2_close 7 = .ok (.aload_n 0, 1) := by decide +kernel
theorem dX2_close_8 : decode cX2_close 8 = .ok (.getfield 28, 3) := by decide +kernel
theorem dX2_close_11 : decode cX2_close 11 = .ok (.aload_n 0, 1) := by decide +kernel
theorem dX2_close_12 : decode cX2_close 12 = .ok (.getfield 24, 3) := by decide +kernel
theorem dX2_close_15 : decode cX2_close 15 = .ok (.if_icmp .lt 4, 3) := by decide +kernel
theorem dX2_close_18 : decode cX2_close 18 = .ok (.return_, 1) := by decide +kernel
theorem dX2_close_19 : decode cX2_close 19 = .ok (.aload_n 0, 1) := by decide +kernel
theorem dX2_close_20 : decode cX2_close 20 = .ok (.getfield 18, 3) := by decide +kernel
theorem dX2_close_23 : decode cX2_close 23 = .ok (.aload_n 0, 1) := by decide +kernel
theorem dX2_close_24 : decode cX2_close 24 = .ok (.getfield 28, 3) := by decide +kernel
theorem dX2_close_27 : decode cX2_close 27 = .ok (.iload_n 1, 1) := by decide +kernel
theorem dX2_close_28 : decode cX2_close 28 = .ok (.iastore, 1) := by decide +kernel
theorem dX2_close_29 : decode cX2_close 29 = .ok (.aload_n 0, 1) := by decide +kernel
theorem dX2_close_30 : decode cX2_close 30 = .ok (.getfield 21, 3) := by decide +kernel
theorem dX2_close_33 : decode cX2_close 33 = .ok (.aload_n 0, 1) := by decide +kernel
theorem dX2_close_34 : decode cX2_close 34 = .ok (.getfield 28, 3) := by decide +kernel
theorem dX2_close_37 : decode cX2_close 37 = .ok (.iload_n 2, 1) := by decide +kernel
theorem dX2_close_38 : decode cX2_close 38 = .ok (.iastore, 1) := by decide +kernel
theorem dX2_close_39 : decode cX2_close 39 = .ok (.aload_n 0, 1) := by decide +kernel
theorem dX2_close_40 : decode cX2_close 40 = .ok (.dup, 1) := by decide +kernel
theorem dX2_close_41 : decode cX2_close 41 = .ok (.getfield 28, 3) := by decide +kernel
theorem dX2_close_44 : decode cX2_close 44 = .ok (.iconst 1, 1) := by decide +kernel
theorem dX2_close_45 : decode cX2_close 45 = .ok (.iadd, 1) := by decide +kernel
theorem dX2_close_46 : decode cX2_close 46 = .ok (.putfield 28, 3) := by decide +kernel
theorem dX2_close_49 : decode cX2_close 49 = .ok (.return_, 1) := by decide +kernel
theorem dX2_colourOf_0 : decode cX2_colourOf 0 = .ok (.aload_n 0, 1) := by decide +kernel
theorem dX2_colourOf_1 : decode cX2_colourOf 1 = .ok (.iload_n 1, 1) := by decide +kernel
theorem dX2_colourOf_2 : decode cX2_colourOf 2 = .ok (.invokevirtual 39, 3) := by decide +kernel
theorem dX2_colourOf_5 : decode cX2_colourOf 5 = .ok (.ifCond .eq 12, 3) := by decide +kernel
theorem dX2_colourOf_8 : decode cX2_colourOf 8 = .ok (.aload_n 0, 1) := by decide +kernel
theorem dX2_colourOf_9 : decode cX2_colourOf 9 = .ok (.getfield 9, 3) := by decide +kernel
theorem dX2_colourOf_12 : decode cX2_colourOf 12 = .ok (.iload_n 1, 1) := by decide +kernel
theorem dX2_colourOf_13 : decode cX2_colourOf 13 = .ok (.iaload, 1) := by decide +kernel
theorem dX2_colourOf_14 : decode cX2_colourOf 14 = .ok (.goto 5, 3) := by decide +kernel
theorem dX2_colourOf_17 : decode cX2_colourOf 17 = .ok (.bipush (-6), 2) := by decide +kernel
theorem dX2_colourOf_19 : decode cX2_colourOf 19 = .ok (.ireturn, 1) := by decide +kernel
theorem dX2_worthOf_0 : decode cX2_worthOf 0 = .ok (.aload_n 0, 1) := by decide +kernel
theorem dX2_worthOf_1 : decode cX2_worthOf 1 = .ok (.iload_n 1, 1) := by decide +kernel
theorem dX2_worthOf_2 : decode cX2_worthOf 2 = .ok (.invokevirtual 39, 3) := by decide +kernel
theorem dX2_worthOf_5 : decode cX2_worthOf 5 = .ok (.ifCond .eq 12, 3) := by decide +kernel
theorem dX2_worthOf_8 : decode cX2_worthOf 8 = .ok (.aload_n 0, 1) := by decide +kernel
theorem dX2_worthOf_9 : decode cX2_worthOf 9 = .ok (.getfield 15, 3) := by decide +kernel
theorem dX2_worthOf_12 : decode cX2_worthOf 12 = .ok (.iload_n 1, 1) := by decide +kernel
theorem dX2_worthOf_13 : decode cX2_worthOf 13 = .ok (.iaload, 1) := by decide +kernel
theorem dX2_worthOf_14 : decode cX2_worthOf 14 = .ok (.goto 4, 3) := by decide +kernel
theorem dX2_worthOf_17 : decode cX2_worthOf 17 = .ok (.iconst 0, 1) := by decide +kernel
theorem dX2_worthOf_18 : decode cX2_worthOf 18 = .ok (.ireturn, 1) := by decide +kernel
theorem dX2_ownersOf_0 : decode cX2_ownersOf 0 = .ok (.aload_n 0, 1) := by decide +kernel
theorem dX2_ownersOf_1 : decode cX2_ownersOf 1 = .ok (.iload_n 1, 1) := by decide +kernel
theorem dX2_ownersOf_2 : decode cX2_ownersOf 2 = .ok (.invokevirtual 39, 3) := by decide +kernel
theorem dX2_ownersOf_5 : decode cX2_ownersOf 5 = .ok (.ifCond .eq 12, 3) := by decide +kernel
theorem dX2_ownersOf_8 : decode cX2_ownersOf 8 = .ok (.aload_n 0, 1) := by decide +kernel
theorem dX2_ownersOf_9 : decode cX2_ownersOf 9 = .ok (.getfield 18, 3) := by decide +kernel
theorem dX2_ownersOf_12 : decode cX2_ownersOf 12 = .ok (.iload_n 1, 1) := by decide +kernel
theorem dX2_ownersOf_13 : decode cX2_ownersOf 13 = .ok (.iaload, 1) := by decide +kernel
theorem dX2_ownersOf_14 : decode cX2_ownersOf 14 = .ok (.goto 4, 3) := by decide +kernel
theorem dX2_ownersOf_17 : decode cX2_ownersOf 17 = .ok (.iconst 0, 1) := by decide +kernel
theorem dX2_ownersOf_18 : decode cX2_ownersOf 18 = .ok (.ireturn, 1) := by decide +kernel
theorem dX2_priceOf_0 : decode cX2_priceOf 0 = .ok (.aload_n 0, 1) := by decide +kernel
theorem dX2_priceOf_1 : decode cX2_priceOf 1 = .ok (.iload_n 1, 1) := by decide +kernel
theorem dX2_priceOf_2 : decode cX2_priceOf 2 = .ok (.invokevirtual 39, 3) := by decide +kernel
theorem dX2_priceOf_5 : decode cX2_priceOf 5 = .ok (.ifCond .eq 21, 3) := by decide +kernel
theorem dX2_priceOf_8 : decode cX2_priceOf 8 = .ok (.aload_n 0, 1) := by decide +kernel
theorem dX2_priceOf_9 : decode cX2_priceOf 9 = .ok (.getfield 18, 3) := by decide +kernel
theorem dX2_priceOf_12 : decode cX2_priceOf 12 = .ok (.iload_n 1, 1) := by decide +kernel
theorem dX2_priceOf_13 : decode cX2_priceOf 13 = .ok (.iaload, 1) := by decide +kernel
theorem dX2_priceOf_14 : decode cX2_priceOf 14 = .ok (.ifCond .eq 12, 3) := by decide +kernel
theorem dX2_priceOf_17 : decode cX2_priceOf 17 = .ok (.aload_n 0, 1) := by decide +kernel
theorem dX2_priceOf_18 : decode cX2_priceOf 18 = .ok (.getfield 21, 3) := by decide +kernel
theorem dX2_priceOf_21 : decode cX2_priceOf 21 = .ok (.iload_n 1, 1) := by decide +kernel
theorem dX2_priceOf_22 : decode cX2_priceOf 22 = .ok (.iaload, 1) := by decide +kernel
theorem dX2_priceOf_23 : decode cX2_priceOf 23 = .ok (.goto 5, 3) := by decide +kernel
theorem dX2_priceOf_26 : decode cX2_priceOf 26 = .ok (.bipush (-6), 2) := by decide +kernel
theorem dX2_priceOf_28 : decode cX2_priceOf 28 = .ok (.ireturn, 1) := by decide +kernel
theorem dX2_stateOf_0 : decode cX2_stateOf 0 = .ok (.iload_n 1, 1) := by decide +kernel
theorem dX2_stateOf_1 : decode cX2_stateOf 1 = .ok (.aload_n 0, 1) := by decide +kernel
theorem dX2_stateOf_2 : decode cX2_stateOf 2 = .ok (.getfield 28, 3) := by decide +kernel
theorem dX2_stateOf_5 : decode cX2_stateOf 5 = .ok (.if_icmp .lt 5, 3) := by decide +kernel
theorem dX2_stateOf_8 : decode cX2_stateOf 8 = .ok (.iconst 0, 1) := by decide +kernel
theorem dX2_stateOf_9 : decode cX2_stateOf 9 = .ok (.ireturn, 1) := by decide +kernel
theorem dX2_stateOf_10 : decode cX2_stateOf 10 = .ok (.aload_n 0, 1) := by decide +kernel
theorem dX2_stateOf_11 : decode cX2_stateOf 11 = .ok (.iload_n 1, 1) := by decide +kernel
theorem dX2_stateOf_12 : decode cX2_stateOf 12 = .ok (.invokevirtual 43, 3) := by decide +kernel
theorem dX2_stateOf_15 : decode cX2_stateOf 15 = .ok (.ifCond .eq 7, 3) := by decide +kernel
theorem dX2_stateOf_18 : decode cX2_stateOf 18 = .ok (.iconst 1, 1) := by decide +kernel
theorem dX2_stateOf_19 : decode cX2_stateOf 19 = .ok (.goto 4, 3) := by decide +kernel
theorem dX2_stateOf_22 : decode cX2_stateOf 22 = .ok (.iconst 2, 1) := by decide +kernel
theorem dX2_stateOf_23 : decode cX2_stateOf 23 = .ok (.ireturn, 1) := by decide +kernel
theorem dX2_owns_0 : decode cX2_owns 0 = .ok (.iload_n 2, 1) := by decide +kernel
theorem dX2_owns_1 : decode cX2_owns 1 = .ok (.ifCond .lt 29, 3) := by decide +kernel
theorem dX2_owns_4 : decode cX2_owns 4 = .ok (.iload_n 2, 1) := by decide +kernel
theorem dX2_owns_5 : decode cX2_owns 5 = .ok (.aload_n 0, 1) := by decide +kernel
theorem dX2_owns_6 : decode cX2_owns 6 = .ok (.getfield 24, 3) := by decide +kernel
theorem dX2_owns_9 : decode cX2_owns 9 = .ok (.if_icmp .ge 21, 3) := by decide +kernel
theorem dX2_owns_12 : decode cX2_owns 12 = .ok (.aload_n 0, 1) := by decide +kernel
theorem dX2_owns_13 : decode cX2_owns 13 = .ok (.getfield 18, 3) := by decide +kernel
theorem dX2_owns_16 : decode cX2_owns 16 = .ok (.iload_n 2, 1) := by decide +kernel
theorem dX2_owns_17 : decode cX2_owns 17 = .ok (.iaload, 1) := by decide +kernel
theorem dX2_owns_18 : decode cX2_owns 18 = .ok (.iload_n 1, 1) := by decide +kernel
theorem dX2_owns_19 : decode cX2_owns 19 = .ok (.ishr, 1) := by decide +kernel
theorem dX2_owns_20 : decode cX2_owns 20 = .ok (.iconst 1, 1) := by decide +kernel
theorem dX2_owns_21 : decode cX2_owns 21 = .ok (.iand, 1) := by decide +kernel
theorem dX2_owns_22 : decode cX2_owns 22 = .ok (.iconst 1, 1) := by decide +kernel
theorem dX2_owns_23 : decode cX2_owns 23 = .ok (.if_icmp .ne 7, 3) := by decide +kernel
theorem dX2_owns_26 : decode cX2_owns 26 = .ok (.iconst 1, 1) := by decide +kernel
theorem dX2_owns_27 : decode cX2_owns 27 = .ok (.goto 4, 3) := by decide +kernel
theorem dX2_owns_30 : decode cX2_owns 30 = .ok (.iconst 0, 1) := by decide +kernel
theorem dX2_owns_31 : decode cX2_owns 31 = .ok (.ireturn, 1) := by decide +kernel
theorem dX2_ownedBy_0 : decode cX2_ownedBy 0 = .ok (.iconst 0, 1) := by decide +kernel
theorem dX2_ownedBy_1 : decode cX2_ownedBy 1 = .ok (.istore_n 2, 1) := by decide +kernel
theorem dX2_ownedBy_2 : decode cX2_ownedBy 2 = .ok (.iconst 0, 1) := by decide +kernel
theorem dX2_ownedBy_3 : decode cX2_ownedBy 3 = .ok (.istore_n 3, 1) := by decide +kernel
theorem dX2_ownedBy_4 : decode cX2_ownedBy 4 = .ok (.iload_n 3, 1) := by decide +kernel
theorem dX2_ownedBy_5 : decode cX2_ownedBy 5 = .ok (.aload_n 0, 1) := by decide +kernel
theorem dX2_ownedBy_6 : decode cX2_ownedBy 6 = .ok (.getfield 28, 3) := by decide +kernel
theorem dX2_ownedBy_9 : decode cX2_ownedBy 9 = .ok (.if_icmp .ge 24, 3) := by decide +kernel
theorem dX2_ownedBy_12 : decode cX2_ownedBy 12 = .ok (.aload_n 0, 1) := by decide +kernel
theorem dX2_ownedBy_13 : decode cX2_ownedBy 13 = .ok (.iload_n 1, 1) := by decide +kernel
theorem dX2_ownedBy_14 : decode cX2_ownedBy 14 = .ok (.iload_n 3, 1) := by decide +kernel
theorem dX2_ownedBy_15 : decode cX2_ownedBy 15 = .ok (.invokevirtual 47, 3) := by decide +kernel
theorem dX2_ownedBy_18 : decode cX2_ownedBy 18 = .ok (.ifCond .eq 9, 3) := by decide +kernel
theorem dX2_ownedBy_21 : decode cX2_ownedBy 21 = .ok (.iload_n 2, 1) := by decide +kernel
theorem dX2_ownedBy_22 : decode cX2_ownedBy 22 = .ok (.iconst 1, 1) := by decide +kernel
theorem dX2_ownedBy_23 : decode cX2_ownedBy 23 = .ok (.iload_n 3, 1) := by decide +kernel
theorem dX2_ownedBy_24 : decode cX2_ownedBy 24 = .ok (.ishl, 1) := by decide +kernel
theorem dX2_ownedBy_25 : decode cX2_ownedBy 25 = .ok (.ior, 1) := by decide +kernel
theorem dX2_ownedBy_26 : decode cX2_ownedBy 26 = .ok (.istore_n 2, 1) := by decide +kernel
theorem dX2_ownedBy_27 : decode cX2_ownedBy 27 = .ok (.iinc 3 1, 3) := by decide +kernel
theorem dX2_ownedBy_30 : decode cX2_ownedBy 30 = .ok (.goto (-26), 3) := by decide +kernel
theorem dX2_ownedBy_33 : decode cX2_ownedBy 33 = .ok (.iload_n 2, 1) := by decide +kernel
theorem dX2_ownedBy_34 : decode cX2_ownedBy 34 = .ok (.ireturn, 1) := by decide +kernel
theorem dX2_valueFor_0 : decode cX2_valueFor 0 = .ok (.iconst 0, 1) := by decide +kernel
theorem dX2_valueFor_1 : decode cX2_valueFor 1 = .ok (.istore 4, 2) := by decide +kernel
theorem dX2_valueFor_3 : decode cX2_valueFor 3 = .ok (.iconst 0, 1) := by decide +kernel
theorem dX2_valueFor_4 : decode cX2_valueFor 4 = .ok (.istore 5, 2) := by decide +kernel
theorem dX2_valueFor_6 : decode cX2_valueFor 6 = .ok (.iconst 0, 1) := by decide +kernel
theorem dX2_valueFor_7 : decode cX2_valueFor 7 = .ok (.istore 6, 2) := by decide +kernel
theorem dX2_valueFor_9 : decode cX2_valueFor 9 = .ok (.iload 6, 2) := by decide +kernel
theorem dX2_valueFor_11 : decode cX2_valueFor 11 = .ok (.aload_n 0, 1) := by decide +kernel
theorem dX2_valueFor_12 : decode cX2_valueFor 12 = .ok (.getfield 28, 3) := by decide +kernel
theorem dX2_valueFor_15 : decode cX2_valueFor 15 = .ok (.if_icmp .ge 30, 3) := by decide +kernel
theorem dX2_valueFor_18 : decode cX2_valueFor 18 = .ok (.aload_n 0, 1) := by decide +kernel
theorem dX2_valueFor_19 : decode cX2_valueFor 19 = .ok (.iload_n 1, 1) := by decide +kernel
theorem dX2_valueFor_20 : decode cX2_valueFor 20 = .ok (.iload 6, 2) := by decide +kernel
theorem dX2_valueFor_22 : decode cX2_valueFor 22 = .ok (.invokevirtual 47, 3) := by decide +kernel
theorem dX2_valueFor_25 : decode cX2_valueFor 25 = .ok (.ifCond .eq 14, 3) := by decide +kernel
theorem dX2_valueFor_28 : decode cX2_valueFor 28 = .ok (.iload 4, 2) := by decide +kernel
theorem dX2_valueFor_30 : decode cX2_valueFor 30 = .ok (.aload_n 0, 1) := by decide +kernel
theorem dX2_valueFor_31 : decode cX2_valueFor 31 = .ok (.iload 6, 2) := by decide +kernel
theorem dX2_valueFor_33 : decode cX2_valueFor 33 = .ok (.invokevirtual 51, 3) := by decide +kernel
theorem dX2_valueFor_36 : decode cX2_valueFor 36 = .ok (.iadd, 1) := by decide +kernel
theorem dX2_valueFor_37 : decode cX2_valueFor 37 = .ok (.istore 4, 2) := by decide +kernel
theorem dX2_valueFor_39 : decode cX2_valueFor 39 = .ok (.iinc 6 1, 3) := by decide +kernel
theorem dX2_valueFor_42 : decode cX2_valueFor 42 = .ok (.goto (-33), 3) := by decide +kernel
theorem dX2_valueFor_45 : decode cX2_valueFor 45 = .ok (.iconst 0, 1) := by decide +kernel
theorem dX2_valueFor_46 : decode cX2_valueFor 46 = .ok (.istore 6, 2) := by decide +kernel
theorem dX2_valueFor_48 : decode cX2_valueFor 48 = .ok (.iload 6, 2) := by decide +kernel
theorem dX2_valueFor_50 : decode cX2_valueFor 50 = .ok (.bipush 6, 2) := by decide +kernel
theorem dX2_valueFor_52 : decode cX2_valueFor 52 = .ok (.if_icmp .ge 42, 3) := by decide +kernel
theorem dX2_valueFor_55 : decode cX2_valueFor 55 = .ok (.aload_n 0, 1) := by decide +kernel
theorem dX2_valueFor_56 : decode cX2_valueFor 56 = .ok (.iload_n 1, 1) := by decide +kernel
theorem dX2_valueFor_57 : decode cX2_valueFor 57 = .ok (.iload 6, 2) := by decide +kernel
theorem dX2_valueFor_59 : decode cX2_valueFor 59 = .ok (.invokevirtual 54, 3) := by decide +kernel
theorem dX2_valueFor_62 : decode cX2_valueFor 62 = .ok (.istore 7, 2) := by decide +kernel
theorem dX2_valueFor_64 : decode cX2_valueFor 64 = .ok (.iload 4, 2) := by decide +kernel
theorem dX2_valueFor_66 : decode cX2_valueFor 66 = .ok (.iload_n 2, 1) := by decide +kernel
theorem dX2_valueFor_67 : decode cX2_valueFor 67 = .ok (.iload 7, 2) := by decide +kernel
theorem dX2_valueFor_69 : decode cX2_valueFor 69 = .ok (.imul, 1) := by decide +kernel
theorem dX2_valueFor_70 : decode cX2_valueFor 70 = .ok (.iload 7, 2) := by decide +kernel
theorem dX2_valueFor_72 : decode cX2_valueFor 72 = .ok (.iconst 1, 1) := by decide +kernel
theorem dX2_valueFor_73 : decode cX2_valueFor 73 = .ok (.isub, 1) := by decide +kernel
theorem dX2_valueFor_74 : decode cX2_valueFor 74 = .ok (.imul, 1) := by decide +kernel
theorem dX2_valueFor_75 : decode cX2_valueFor 75 = .ok (.iconst 2, 1) := by decide +kernel
theorem dX2_valueFor_76 : decode cX2_valueFor 76 = .ok (.idiv, 1) := by decide +kernel
theorem dX2_valueFor_77 : decode cX2_valueFor 77 = .ok (.iadd, 1) := by decide +kernel
theorem dX2_valueFor_78 : decode cX2_valueFor 78 = .ok (.istore 4, 2) := by decide +kernel
theorem dX2_valueFor_80 : decode cX2_valueFor 80 = .ok (.iload 7, 2) := by decide +kernel
theorem dX2_valueFor_82 : decode cX2_valueFor 82 = .ok (.ifCond .le 6, 3) := by decide +kernel
theorem dX2_valueFor_85 : decode cX2_valueFor 85 = .ok (.iinc 5 1, 3) := by decide +kernel
theorem dX2_valueFor_88 : decode cX2_valueFor 88 = .ok (.iinc 6 1, 3) := by decide +kernel
theorem dX2_valueFor_91 : decode cX2_valueFor 91 = .ok (.goto (-43), 3) := by decide +kernel
theorem dX2_valueFor_94 : decode cX2_valueFor 94 = .ok (.iload 5, 2) := by decide +kernel
theorem dX2_valueFor_96 : decode cX2_valueFor 96 = .ok (.iconst 4, 1) := by decide +kernel
theorem dX2_valueFor_97 : decode cX2_valueFor 97 = .ok (.if_icmp .lt 10, 3) := by decide +kernel
theorem dX2_valueFor_100 : decode cX2_valueFor 100 = .ok (.iload 4, 2) := by decide +kernel
theorem dX2_valueFor_102 : decode cX2_valueFor 102 = .ok (.iload_n 3, 1) := by decide +kernel
theorem dX2_valueFor_103 : decode cX2_valueFor 103 = .ok (.iadd, 1) := by decide +kernel
theorem dX2_valueFor_104 : decode cX2_valueFor 104 = .ok (.goto 5, 3) := by decide +kernel
theorem dX2_valueFor_107 : decode cX2_valueFor 107 = .ok (.iload 4, 2) := by decide +kernel
theorem dX2_valueFor_109 : decode cX2_valueFor 109 = .ok (.ireturn, 1) := by decide +kernel
theorem dX2_shareOf_0 : decode cX2_shareOf 0 = .ok (.aload_n 0, 1) := by decide +kernel
theorem dX2_shareOf_1 : decode cX2_shareOf 1 = .ok (.iload_n 1, 1) := by decide +kernel
theorem dX2_shareOf_2 : decode cX2_shareOf 2 = .ok (.invokevirtual 39, 3) := by decide +kernel
theorem dX2_shareOf_5 : decode cX2_shareOf 5 = .ok (.ifCond .eq 15, 3) := by decide +kernel
theorem dX2_shareOf_8 : decode cX2_shareOf 8 = .ok (.aload_n 0, 1) := by decide +kernel
theorem dX2_shareOf_9 : decode cX2_shareOf 9 = .ok (.getfield 18, 3) := by decide +kernel
theorem dX2_shareOf_12 : decode cX2_shareOf 12 = .ok (.iload_n 1, 1) := by decide +kernel
theorem dX2_shareOf_13 : decode cX2_shareOf 13 = .ok (.iaload, 1) := by decide +kernel
theorem dX2_shareOf_14 : decode cX2_shareOf 14 = .ok (.invokestatic 58, 3) := by decide +kernel
theorem dX2_shareOf_17 : decode cX2_shareOf 17 = .ok (.goto 4, 3) := by decide +kernel
theorem dX2_shareOf_20 : decode cX2_shareOf 20 = .ok (.iconst 0, 1) := by decide +kernel
theorem dX2_shareOf_21 : decode cX2_shareOf 21 = .ok (.istore_n 2, 1) := by decide +kernel
theorem dX2_shareOf_22 : decode cX2_shareOf 22 = .ok (.iload_n 2, 1) := by decide +kernel
theorem dX2_shareOf_23 : decode cX2_shareOf 23 = .ok (.ifCond .le 14, 3) := by decide +kernel
theorem dX2_shareOf_26 : decode cX2_shareOf 26 = .ok (.aload_n 0, 1) := by decide +kernel
theorem dX2_shareOf_27 : decode cX2_shareOf 27 = .ok (.getfield 15, 3) := by decide +kernel
theorem dX2_shareOf_30 : decode cX2_shareOf 30 = .ok (.iload_n 1, 1) := by decide +kernel
theorem dX2_shareOf_31 : decode cX2_shareOf 31 = .ok (.iaload, 1) := by decide +kernel
theorem dX2_shareOf_32 : decode cX2_shareOf 32 = .ok (.iload_n 2, 1) := by decide +kernel
theorem dX2_shareOf_33 : decode cX2_shareOf 33 = .ok (.idiv, 1) := by decide +kernel
theorem dX2_shareOf_34 : decode cX2_shareOf 34 = .ok (.goto 4, 3) := by decide +kernel
theorem dX2_shareOf_37 : decode cX2_shareOf 37 = .ok (.iconst 0, 1) := by decide +kernel
theorem dX2_shareOf_38 : decode cX2_shareOf 38 = .ok (.ireturn, 1) := by decide +kernel
theorem dX2_ownedOfColour_0 : decode cX2_ownedOfColour 0 = .ok (.iconst 0, 1) := by decide +kernel
theorem dX2_ownedOfColour_1 : decode cX2_ownedOfColour 1 = .ok (.istore_n 3, 1) := by decide +kernel
theorem dX2_ownedOfColour_2 : decode cX2_ownedOfColour 2 = .ok (.iconst 0, 1) := by decide +kernel
theorem dX2_ownedOfColour_3 : decode cX2_ownedOfColour 3 = .ok (.istore 4, 2) := by decide +kernel
theorem dX2_ownedOfColour_5 : decode cX2_ownedOfColour 5 = .ok (.iload 4, 2) := by decide +kernel
theorem dX2_ownedOfColour_7 : decode cX2_ownedOfColour 7 = .ok (.aload_n 0, 1) := by decide +kernel
theorem dX2_ownedOfColour_8 : decode cX2_ownedOfColour 8 = .ok (.getfield 28, 3) := by decide +kernel
theorem dX2_ownedOfColour_11 : decode cX2_ownedOfColour 11 = .ok (.if_icmp .ge 33, 3) := by decide +kernel
theorem dX2_ownedOfColour_14 : decode cX2_ownedOfColour 14 = .ok (.aload_n 0, 1) := by decide +kernel
theorem dX2_ownedOfColour_15 : decode cX2_ownedOfColour 15 = .ok (.iload_n 1, 1) := by decide +kernel
theorem dX2_ownedOfColour_16 : decode cX2_ownedOfColour 16 = .ok (.iload 4, 2) := by decide +kernel
theorem dX2_ownedOfColour_18 : decode cX2_ownedOfColour 18 = .ok (.invokevirtual 47, 3) := by decide +kernel
theorem dX2_ownedOfColour_21 : decode cX2_ownedOfColour 21 = .ok (.ifCond .eq 17, 3) := by decide +kernel
theorem dX2_ownedOfColour_24 : decode cX2_ownedOfColour 24 = .ok (.aload_n 0, 1) := by decide +kernel
theorem dX2_ownedOfColour_25 : decode cX2_ownedOfColour 25 = .ok (.getfield 9, 3) := by decide +kernel
theorem dX2_ownedOfColour_28 : decode cX2_ownedOfColour 28 = .ok (.iload 4, 2) := by decide +kernel
theorem dX2_ownedOfColour_30 : decode cX2_ownedOfColour 30 = .ok (.iaload, 1) := by decide +kernel
theorem dX2_ownedOfColour_31 : decode cX2_ownedOfColour 31 = .ok (.iload_n 2, 1) := by decide +kernel
theorem dX2_ownedOfColour_32 : decode cX2_ownedOfColour 32 = .ok (.if_icmp .ne 6, 3) := by decide +kernel
theorem dX2_ownedOfColour_35 : decode cX2_ownedOfColour 35 = .ok (.iinc 3 1, 3) := by decide +kernel
theorem dX2_ownedOfColour_38 : decode cX2_ownedOfColour 38 = .ok (.iinc 4 1, 3) := by decide +kernel
theorem dX2_ownedOfColour_41 : decode cX2_ownedOfColour 41 = .ok (.goto (-36), 3) := by decide +kernel
theorem dX2_ownedOfColour_44 : decode cX2_ownedOfColour 44 = .ok (.iload_n 3, 1) := by decide +kernel
theorem dX2_ownedOfColour_45 : decode cX2_ownedOfColour 45 = .ok (.ireturn, 1) := by decide +kernel
theorem dX2_gainFor_0 : decode cX2_gainFor 0 = .ok (.aload_n 0, 1) := by decide +kernel
theorem dX2_gainFor_1 : decode cX2_gainFor 1 = .ok (.aload_n 0, 1) := by decide +kernel
theorem dX2_gainFor_2 : decode cX2_gainFor 2 = .ok (.getfield 28, 3) := by decide +kernel
theorem dX2_gainFor_5 : decode cX2_gainFor 5 = .ok (.invokevirtual 39, 3) := by decide +kernel
theorem dX2_gainFor_8 : decode cX2_gainFor 8 = .ok (.ifCond .ne 5, 3) := by decide +kernel
theorem dX2_gainFor_11 : decode cX2_gainFor 11 = .ok (.iconst 0, 1) := by decide +kernel
theorem dX2_gainFor_12 : decode cX2_gainFor 12 = .ok (.ireturn, 1) := by decide +kernel
theorem dX2_gainFor_13 : decode cX2_gainFor 13 = .ok (.iconst 0, 1) := by decide +kernel
theorem dX2_gainFor_14 : decode cX2_gainFor 14 = .ok (.istore 4, 2) := by decide +kernel
theorem dX2_gainFor_16 : decode cX2_gainFor 16 = .ok (.iconst 0, 1) := by decide +kernel
theorem dX2_gainFor_17 : decode cX2_gainFor 17 = .ok (.istore 5, 2) := by decide +kernel
theorem dX2_gainFor_19 : decode cX2_gainFor 19 = .ok (.iconst 0, 1) := by decide +kernel
theorem dX2_gainFor_20 : decode cX2_gainFor 20 = .ok (.istore 6, 2) := by decide +kernel
theorem dX2_gainFor_22 : decode cX2_gainFor 22 = .ok (.iload 6, 2) := by decide +kernel
theorem dX2_gainFor_24 : decode cX2_gainFor 24 = .ok (.aload_n 0, 1) := by decide +kernel
theorem dX2_gainFor_25 : decode cX2_gainFor 25 = .ok (.getfield 28, 3) := by decide +kernel
theorem dX2_gainFor_28 : decode cX2_gainFor 28 = .ok (.if_icmp .ge 62, 3) := by decide +kernel
theorem dX2_gainFor_31 : decode cX2_gainFor 31 = .ok (.aload_n 0, 1) := by decide +kernel
theorem dX2_gainFor_32 : decode cX2_gainFor 32 = .ok (.getfield 18, 3) := by decide +kernel
theorem dX2_gainFor_35 : decode cX2_gainFor 35 = .ok (.iload 6, 2) := by decide +kernel
theorem dX2_gainFor_37 : decode cX2_gainFor 37 = .ok (.iaload, 1) := by decide +kernel
theorem dX2_gainFor_38 : decode cX2_gainFor 38 = .ok (.iload_n 1, 1) := by decide +kernel
theorem dX2_gainFor_39 : decode cX2_gainFor 39 = .ok (.ishr, 1) := by decide +kernel
theorem dX2_gainFor_40 : decode cX2_gainFor 40 = .ok (.iconst 1, 1) := by decide +kernel
theorem dX2_gainFor_41 : decode cX2_gainFor 41 = .ok (.iand, 1) := by decide +kernel
theorem dX2_gainFor_42 : decode cX2_gainFor 42 = .ok (.ifCond .ne 6, 3) := by decide +kernel
theorem dX2_gainFor_45 : decode cX2_gainFor 45 = .ok (.goto 39, 3) := by decide +kernel
theorem dX2_gainFor_48 : decode cX2_gainFor 48 = .ok (.aload_n 0, 1) := by decide +kernel
theorem dX2_gainFor_49 : decode cX2_gainFor 49 = .ok (.getfield 9, 3) := by decide +kernel
theorem dX2_gainFor_52 : decode cX2_gainFor 52 = .ok (.iload 6, 2) := by decide +kernel
theorem dX2_gainFor_54 : decode cX2_gainFor 54 = .ok (.iaload, 1) := by decide +kernel
theorem dX2_gainFor_55 : decode cX2_gainFor 55 = .ok (.aload_n 0, 1) := by decide +kernel
theorem dX2_gainFor_56 : decode cX2_gainFor 56 = .ok (.getfield 9, 3) := by decide +kernel
theorem dX2_gainFor_59 : decode cX2_gainFor 59 = .ok (.aload_n 0, 1) := by decide +kernel
theorem dX2_gainFor_60 : decode cX2_gainFor 60 = .ok (.getfield 28, 3) := by decide +kernel
theorem dX2_gainFor_63 : decode cX2_gainFor 63 = .ok (.iaload, 1) := by decide +kernel
theorem dX2_gainFor_64 : decode cX2_gainFor 64 = .ok (.if_icmp .ne 6, 3) := by decide +kernel
theorem dX2_gainFor_67 : decode cX2_gainFor 67 = .ok (.iinc 4 1, 3) := by decide +kernel
theorem dX2_gainFor_70 : decode cX2_gainFor 70 = .ok (.iload 5, 2) := by decide +kernel
theorem dX2_gainFor_72 : decode cX2_gainFor 72 = .ok (.iconst 1, 1) := by decide +kernel
theorem dX2_gainFor_73 : decode cX2_gainFor 73 = .ok (.aload_n 0, 1) := by decide +kernel
theorem dX2_gainFor_74 : decode cX2_gainFor 74 = .ok (.getfield 9, 3) := by decide +kernel
theorem dX2_gainFor_77 : decode cX2_gainFor 77 = .ok (.iload 6, 2) := by decide +kernel
theorem dX2_gainFor_79 : decode cX2_gainFor 79 = .ok (.iaload, 1) := by decide +kernel
theorem dX2_gainFor_80 : decode cX2_gainFor 80 = .ok (.ishl, 1) := by decide +kernel
theorem dX2_gainFor_81 : decode cX2_gainFor 81 = .ok (.ior, 1) := by decide +kernel
theorem dX2_gainFor_82 : decode cX2_gainFor 82 = .ok (.istore 5, 2) := by decide +kernel
theorem dX2_gainFor_84 : decode cX2_gainFor 84 = .ok (.iinc 6 1, 3) := by decide +kernel
theorem dX2_gainFor_87 : decode cX2_gainFor 87 = .ok (.goto (-65), 3) := by decide +kernel
theorem dX2_gainFor_90 : decode cX2_gainFor 90 = .ok (.iload 4, 2) := by decide +kernel
theorem dX2_gainFor_92 : decode cX2_gainFor 92 = .ok (.ifCond .ne 16, 3) := by decide +kernel
theorem dX2_gainFor_95 : decode cX2_gainFor 95 = .ok (.iload 5, 2) := by decide +kernel
theorem dX2_gainFor_97 : decode cX2_gainFor 97 = .ok (.invokestatic 58, 3) := by decide +kernel
theorem dX2_gainFor_100 : decode cX2_gainFor 100 = .ok (.iconst 3, 1) := by decide +kernel
theorem dX2_gainFor_101 : decode cX2_gainFor 101 = .ok (.if_icmp .ne 7, 3) := by decide +kernel
theorem dX2_gainFor_104 : decode cX2_gainFor 104 = .ok (.iconst 1, 1) := by decide +kernel
theorem dX2_gainFor_105 : decode cX2_gainFor 105 = .ok (.goto 4, 3) := by decide +kernel
theorem dX2_gainFor_108 : decode cX2_gainFor 108 = .ok (.iconst 0, 1) := by decide +kernel
theorem dX2_gainFor_109 : decode cX2_gainFor 109 = .ok (.istore 6, 2) := by decide +kernel
theorem dX2_gainFor_111 : decode cX2_gainFor 111 = .ok (.aload_n 0, 1) := by decide +kernel
theorem dX2_gainFor_112 : decode cX2_gainFor 112 = .ok (.getfield 15, 3) := by decide +kernel
theorem dX2_gainFor_115 : decode cX2_gainFor 115 = .ok (.aload_n 0, 1) := by decide +kernel
theorem dX2_gainFor_116 : decode cX2_gainFor 116 = .ok (.getfield 28, 3) := by decide +kernel
theorem dX2_gainFor_119 : decode cX2_gainFor 119 = .ok (.iaload, 1) := by decide +kernel
theorem dX2_gainFor_120 : decode cX2_gainFor 120 = .ok (.iload_n 2, 1) := by decide +kernel
theorem dX2_gainFor_121 : decode cX2_gainFor 121 = .ok (.iload 4, 2) := by decide +kernel
theorem dX2_gainFor_123 : decode cX2_gainFor 123 = .ok (.imul, 1) := by decide +kernel
theorem dX2_gainFor_124 : decode cX2_gainFor 124 = .ok (.iadd, 1) := by decide +kernel
theorem dX2_gainFor_125 : decode cX2_gainFor 125 = .ok (.iload 6, 2) := by decide +kernel
theorem dX2_gainFor_127 : decode cX2_gainFor 127 = .ok (.ifCond .eq 7, 3) := by decide +kernel
theorem dX2_gainFor_130 : decode cX2_gainFor 130 = .ok (.iload_n 3, 1) := by decide +kernel
theorem dX2_gainFor_131 : decode cX2_gainFor 131 = .ok (.goto 4, 3) := by decide +kernel
theorem dX2_gainFor_134 : decode cX2_gainFor 134 = .ok (.iconst 0, 1) := by decide +kernel
theorem dX2_gainFor_135 : decode cX2_gainFor 135 = .ok (.iadd, 1) := by decide +kernel
theorem dX2_gainFor_136 : decode cX2_gainFor 136 = .ok (.ireturn, 1) := by decide +kernel
theorem dX3_init_0 : decode cX3_init 0 = .ok (.aload_n 0, 1) := by decide +kernel
theorem dX3_init_1 : decode cX3_init 1 = .ok (.invokespecial 3, 3) := by decide +kernel
theorem dX3_init_4 : decode cX3_init 4 = .ok (.aload_n 0, 1) := by decide +kernel
theorem dX3_init_5 : decode cX3_init 5 = .ok (.bipush 60, 2) := by decide +kernel
theorem dX3_init_7 : decode cX3_init 7 = .ok (.newarray .char, 2) := by decide +kernel
theorem dX3_init_9 : decode cX3_init 9 = .ok (.putfield 9, 3) := by decide +kernel
theorem dX3_init_12 : decode cX3_init 12 = .ok (.return_, 1) := by decide +kernel
theorem dX3_append_0 : decode cX3_append 0 = .ok (.aload_n 0, 1) := by decide +kernel
theorem dX3_append_1 : decode cX3_append 1 = .ok (.getfield 15, 3) := by decide +kernel
theorem dX3_append_4 : decode cX3_append 4 = .ok (.bipush 60, 2) := by decide +kernel
theorem dX3_append_6 : decode cX3_append 6 = .ok (.if_icmp .lt 4, 3) := by decide +kernel
theorem dX3_append_9 : decode cX3_append 9 = .ok (.return_, 1) := by decide +kernel
theorem dX3_append_10 : decode cX3_append 10 = .ok (.aload_n 0, 1) := by decide +kernel
theorem dX3_append_11 : decode cX3_append 11 = .ok (.getfield 9, 3) := by decide +kernel
theorem dX3_append_14 : decode cX3_append 14 = .ok (.aload_n 0, 1) := by decide +kernel
theorem dX3_append_15 : decode cX3_append 15 = .ok (.getfield 15, 3) := by decide +kernel
theorem dX3_append_18 : decode cX3_append 18 = .ok (.iload_n 1, 1) := by decide +kernel
theorem dX3_append_19 : decode cX3_append 19 = .ok (.castore, 1) := by decide +kernel
theorem dX3_append_20 : decode cX3_append 20 = .ok (.aload_n 0, 1) := by decide +kernel
theorem dX3_append_21 : decode cX3_append 21 = .ok (.dup, 1) := by decide +kernel
theorem dX3_append_22 : decode cX3_append 22 = .ok (.getfield 15, 3) := by decide +kernel
theorem dX3_append_25 : decode cX3_append 25 = .ok (.iconst 1, 1) := by decide +kernel
theorem dX3_append_26 : decode cX3_append 26 = .ok (.iadd, 1) := by decide +kernel
theorem dX3_append_27 : decode cX3_append 27 = .ok (.putfield 15, 3) := by decide +kernel
theorem dX3_append_30 : decode cX3_append 30 = .ok (.return_, 1) := by decide +kernel
theorem dX3_empty_0 : decode cX3_empty 0 = .ok (.aload_n 0, 1) := by decide +kernel
theorem dX3_empty_1 : decode cX3_empty 1 = .ok (.iconst 0, 1) := by decide +kernel
theorem dX3_empty_2 : decode cX3_empty 2 = .ok (.putfield 15, 3) := by decide +kernel
theorem dX3_empty_5 : decode cX3_empty 5 = .ok (.return_, 1) := by decide +kernel
theorem dX3_toStart_0 : decode cX3_toStart 0 = .ok (.aload_n 0, 1) := by decide +kernel
theorem dX3_toStart_1 : decode cX3_toStart 1 = .ok (.iconst 0, 1) := by decide +kernel
theorem dX3_toStart_2 : decode cX3_toStart 2 = .ok (.putfield 19, 3) := by decide +kernel
theorem dX3_toStart_5 : decode cX3_toStart 5 = .ok (.return_, 1) := by decide +kernel
theorem dX3_firstFault_0 : decode cX3_firstFault 0 = .ok (.aload_n 0, 1) := by decide +kernel
theorem dX3_firstFault_1 : decode cX3_firstFault 1 = .ok (.invokevirtual 22, 3) := by decide +kernel
theorem dX3_firstFault_4 : decode cX3_firstFault 4 = .ok (.aload_n 0, 1) := by decide +kernel
theorem dX3_firstFault_5 : decode cX3_firstFault 5 = .ok (.invokevirtual 25, 3) := by decide +kernel
theorem dX3_firstFault_8 : decode cX3_firstFault 8 = .ok (.istore_n 1, 1) := by decide +kernel
theorem dX3_firstFault_9 : decode cX3_firstFault 9 = .ok (.iconst 1, 1) := by decide +kernel
theorem dX3_firstFault_10 : decode cX3_firstFault 10 = .ok (.istore_n 2, 1) := by decide +kernel
theorem dX3_firstFault_11 : decode cX3_firstFault 11 = .ok (.iload_n 2, 1) := by decide +kernel
theorem dX3_firstFault_12 : decode cX3_firstFault 12 = .ok (.bipush 60, 2) := by decide +kernel
theorem dX3_firstFault_14 : decode cX3_firstFault 14 = .ok (.if_icmp .ge 46, 3) := by decide +kernel
theorem dX3_firstFault_17 : decode cX3_firstFault 17 = .ok (.iload_n 1, 1) := by decide +kernel
theorem dX3_firstFault_18 : decode cX3_firstFault 18 = .ok (.ifCond .eq 42, 3) := by decide +kernel
theorem dX3_firstFault_21 : decode cX3_firstFault 21 = .ok (.aload_n 0, 1) := by decide +kernel
theorem dX3_firstFault_22 : decode cX3_firstFault 22 = .ok (.getfield 19, 3) := by decide +kernel
theorem dX3_firstFault_25 : decode cX3_firstFault 25 = .ok (.aload_n 0, 1) := by decide +kernel
theorem dX3_firstFault_26 : decode cX3_firstFault 26 = .ok (.getfield 15, 3) := by decide +kernel
theorem dX3_firstFault_29 : decode cX3_firstFault 29 = .ok (.if_icmp .ge 31, 3) := by decide +kernel
theorem dX3_firstFault_32 : decode cX3_firstFault 32 = .ok (.aload_n 0, 1) := by decide +kernel
theorem dX3_firstFault_33 : decode cX3_firstFault 33 = .ok (.bipush 44, 2) := by decide +kernel
theorem dX3_firstFault_35 : decode cX3_firstFault 35 = .ok (.invokevirtual 29, 3) := by decide +kernel
theorem dX3_firstFault_38 : decode cX3_firstFault 38 = .ok (.ifCond .eq 14, 3) := by decide +kernel
theorem dX3_firstFault_41 : decode cX3_firstFault 41 = .ok (.aload_n 0, 1) := by decide +kernel
theorem dX3_firstFault_42 : decode cX3_firstFault 42 = .ok (.invokevirtual 25, 3) := by decide +kernel
theorem dX3_firstFault_45 : decode cX3_firstFault 45 = .ok (.ifCond .eq 7, 3) := by decide +kernel
theorem dX3_firstFault_48 : decode cX3_firstFault 48 = .ok (.iconst 1, 1) := by decide +kernel
theorem dX3_firstFault_49 : decode cX3_firstFault 49 = .ok (.goto 4, 3) := by decide +kernel
theorem dX3_firstFault_52 : decode cX3_firstFault 52 = .ok (.iconst 0, 1) := by decide +kernel
theorem dX3_firstFault_53 : decode cX3_firstFault 53 = .ok (.istore_n 1, 1) := by decide +kernel
theorem dX3_firstFault_54 : decode cX3_firstFault 54 = .ok (.iinc 2 1, 3) := by decide +kernel
theorem dX3_firstFault_57 : decode cX3_firstFault 57 = .ok (.goto (-46), 3) := by decide +kernel
theorem dX3_firstFault_60 : decode cX3_firstFault 60 = .ok (.iload_n 1, 1) := by decide +kernel
theorem dX3_firstFault_61 : decode cX3_firstFault 61 = .ok (.ifCond .eq 8, 3) := by decide +kernel
theorem dX3_firstFault_64 : decode cX3_firstFault 64 = .ok (.bipush (-6), 2) := by decide +kernel
theorem dX3_firstFault_66 : decode cX3_firstFault 66 = .ok (.goto 7, 3) := by decide +kernel
theorem dX3_firstFault_69 : decode cX3_firstFault 69 = .ok (.aload_n 0, 1) := by decide +kernel
theorem dX3_firstFault_70 : decode cX3_firstFault 70 = .ok (.getfield 19, 3) := by decide +kernel
theorem dX3_firstFault_73 : decode cX3_firstFault 73 = .ok (.ireturn, 1) := by decide +kernel
theorem dX3_readAct_0 : decode cX3_readAct 0 = .ok (.aload_n 0, 1) := by decide +kernel
theorem dX3_readAct_1 : decode cX3_readAct 1 = .ok (.aload_n 0, 1) := by decide +kernel
theorem dX3_readAct_2 : decode cX3_readAct 2 = .ok (.aload_n 0, 1) := by decide +kernel
theorem dX3_readAct_3 : decode cX3_readAct 3 = .ok (.getfield 19, 3) := by decide +kernel
theorem dX3_readAct_6 : decode cX3_readAct 6 = .ok (.invokevirtual 33, 3) := by decide +kernel
theorem dX3_readAct_9 : decode cX3_readAct 9 = .ok (.putfield 37, 3) := by decide +kernel
theorem dX3_readAct_12 : decode cX3_readAct 12 = .ok (.aload_n 0, 1) := by decide +kernel
theorem dX3_readAct_13 : decode cX3_readAct 13 = .ok (.getfield 37, 3) := by decide +kernel
theorem dX3_readAct_16 : decode cX3_readAct 16 = .ok (.lookupswitch 133 #[(98, 69), (102, 121), (109, 121), (112, 86), (115, 52)], 52) := by decide +kernel
theorem dX3_readAct_68 : decode cX3_readAct 68 = .ok (.aload_n 0, 1) := by decide +kernel
theorem dX3_readAct_69 : decode cX3_readAct 69 = .ok (.dup, 1) := by decide +kernel
theorem dX3_readAct_70 : decode cX3_readAct 70 = .ok (.getfield 19, 3) := by decide +kernel
theorem dX3_readAct_73 : decode cX3_readAct 73 = .ok (.iconst 1, 1) := by decide +kernel
theorem dX3_readAct_74 : decode cX3_readAct 74 = .ok (.iadd, 1) := by decide +kernel
theorem dX3_readAct_75 : decode cX3_readAct 75 = .ok (.putfield 19, 3) := by decide +kernel
theorem dX3_readAct_78 : decode cX3_readAct 78 = .ok (.aload_n 0, 1) := by decide +kernel
theorem dX3_readAct_79 : decode cX3_readAct 79 = .ok (.iconst 2, 1) := by decide +kernel
theorem dX3_readAct_80 : decode cX3_readAct 80 = .ok (.iconst 1, 1) := by decide +kernel
theorem dX3_readAct_81 : decode cX3_readAct 81 = .ok (.invokevirtual 40, 3) := by decide +kernel
theorem dX3_readAct_84 : decode cX3_readAct 84 = .ok (.ireturn, 1) := by decide +kernel
theorem dX3_readAct_85 : decode cX3_readAct 85 = .ok (.aload_n 0, 1) := by decide +kernel
theorem dX3_readAct_86 : decode cX3_readAct 86 = .ok (.dup, 1) := by decide +kernel
theorem dX3_readAct_87 : decode cX3_readAct 87 = .ok (.getfield 19, 3) := by decide +kernel
theorem dX3_readAct_90 : decode cX3_readAct 90 = .ok (.iconst 1, 1) := by decide +kernel
theorem dX3_readAct_91 : decode cX3_readAct 91 = .ok (.iadd, 1) := by decide +kernel
theorem dX3_readAct_92 : decode cX3_readAct 92 = .ok (.putfield 19, 3) := by decide +kernel
theorem dX3_readAct_95 : decode cX3_readAct 95 = .ok (.aload_n 0, 1) := by decide +kernel
theorem dX3_readAct_96 : decode cX3_readAct 96 = .ok (.iconst 5, 1) := by decide +kernel
theorem dX3_readAct_97 : decode cX3_readAct 97 = .ok (.iconst 0, 1) := by decide +kernel
theorem dX3_readAct_98 : decode cX3_readAct 98 = .ok (.invokevirtual 40, 3) := by decide +kernel
theorem dX3_readAct_101 : decode cX3_readAct 101 = .ok (.ireturn, 1) := by decide +kernel
theorem dX3_readAct_102 : decode cX3_readAct 102 = .ok (.aload_n 0, 1) := by decide +kernel
theorem dX3_readAct_103 : decode cX3_readAct 103 = .ok (.dup, 1) := by decide +kernel
theorem dX3_readAct_104 : decode cX3_readAct 104 = .ok (.getfield 19, 3) := by decide +kernel
theorem dX3_readAct_107 : decode cX3_readAct 107 = .ok (.iconst 1, 1) := by decide +kernel
theorem dX3_readAct_108 : decode cX3_readAct 108 = .ok (.iadd, 1) := by decide +kernel
theorem dX3_readAct_109 : decode cX3_readAct 109 = .ok (.putfield 19, 3) := by decide +kernel
theorem dX3_readAct_112 : decode cX3_readAct 112 = .ok (.aload_n 0, 1) := by decide +kernel
theorem dX3_readAct_113 : decode cX3_readAct 113 = .ok (.aload_n 0, 1) := by decide +kernel
theorem dX3_readAct_114 : decode cX3_readAct 114 = .ok (.iconst 0, 1) := by decide +kernel
theorem dX3_readAct_115 : decode cX3_readAct 115 = .ok (.iconst 5, 1) := by decide +kernel
theorem dX3_readAct_116 : decode cX3_readAct 116 = .ok (.invokevirtual 44, 3) := by decide +kernel
theorem dX3_readAct_119 : decode cX3_readAct 119 = .ok (.putfield 48, 3) := by decide +kernel
theorem dX3_readAct_122 : decode cX3_readAct 122 = .ok (.aload_n 0, 1) := by decide +kernel
theorem dX3_readAct_123 : decode cX3_readAct 123 = .ok (.getfield 48, 3) := by decide +kernel
theorem dX3_readAct_126 : decode cX3_readAct 126 = .ok (.bipush (-6), 2) := by decide +kernel
theorem dX3_readAct_128 : decode cX3_readAct 128 = .ok (.if_icmp .eq 7, 3) := by decide +kernel
theorem dX3_readAct_131 : decode cX3_readAct 131 = .ok (.iconst 1, 1) := by decide +kernel
theorem dX3_readAct_132 : decode cX3_readAct 132 = .ok (.goto 4, 3) := by decide +kernel
theorem dX3_readAct_135 : decode cX3_readAct 135 = .ok (.iconst 0, 1) := by decide +kernel
theorem dX3_readAct_136 : decode cX3_readAct 136 = .ok (.ireturn, 1) := by decide +kernel
theorem dX3_readAct_137 : decode cX3_readAct 137 = .ok (.aload_n 0, 1) := by decide +kernel
theorem dX3_readAct_138 : decode cX3_readAct 138 = .ok (.dup, 1) := by decide +kernel
theorem dX3_readAct_139 : decode cX3_readAct 139 = .ok (.getfield 19, 3) := by decide +kernel
theorem dX3_readAct_142 : decode cX3_readAct 142 = .ok (.iconst 1, 1) := by decide +kernel
theorem dX3_readAct_143 : decode cX3_readAct 143 = .ok (.iadd, 1) := by decide +kernel
theorem dX3_readAct_144 : decode cX3_readAct 144 = .ok (.putfield 19, 3) := by decide +kernel
theorem dX3_readAct_147 : decode cX3_readAct 147 = .ok (.iconst 1, 1) := by decide +kernel
theorem dX3_readAct_148 : decode cX3_readAct 148 = .ok (.ireturn, 1) := by decide +kernel
theorem dX3_readAct_149 : decode cX3_readAct 149 = .ok (.iconst 0, 1) := by decide +kernel
theorem dX3_readAct_150 : decode cX3_readAct 150 = .ok (.ireturn, 1) := by decide +kernel
theorem dX3_readPair_0 : decode cX3_readPair 0 = .ok (.aload_n 0, 1) := by decide +kernel
theorem dX3_readPair_1 : decode cX3_readPair 1 = .ok (.aload_n 0, 1) := by decide +kernel
theorem dX3_readPair_2 : decode cX3_readPair 2 = .ok (.iconst 0, 1) := by decide +kernel
theorem dX3_readPair_3 : decode cX3_readPair 3 = .ok (.iload_n 1, 1) := by decide +kernel
theorem dX3_readPair_4 : decode cX3_readPair 4 = .ok (.invokevirtual 44, 3) := by decide +kernel
theorem dX3_readPair_7 : decode cX3_readPair 7 = .ok (.putfield 48, 3) := by decide +kernel
theorem dX3_readPair_10 : decode cX3_readPair 10 = .ok (.aload_n 0, 1) := by decide +kernel
theorem dX3_readPair_11 : decode cX3_readPair 11 = .ok (.getfield 48, 3) := by decide +kernel
theorem dX3_readPair_14 : decode cX3_readPair 14 = .ok (.bipush (-6), 2) := by decide +kernel
theorem dX3_readPair_16 : decode cX3_readPair 16 = .ok (.if_icmp .eq 12, 3) := by decide +kernel
theorem dX3_readPair_19 : decode cX3_readPair 19 = .ok (.aload_n 0, 1) := by decide +kernel
theorem dX3_readPair_20 : decode cX3_readPair 20 = .ok (.bipush 58, 2) := by decide +kernel
theorem dX3_readPair_22 : decode cX3_readPair 22 = .ok (.invokevirtual 29, 3) := by decide +kernel
theorem dX3_readPair_25 : decode cX3_readPair 25 = .ok (.ifCond .ne 5, 3) := by decide +kernel
theorem dX3_readPair_28 : decode cX3_readPair 28 = .ok (.iconst 0, 1) := by decide +kernel
theorem dX3_readPair_29 : decode cX3_readPair 29 = .ok (.ireturn, 1) := by decide +kernel
theorem dX3_readPair_30 : decode cX3_readPair 30 = .ok (.aload_n 0, 1) := by decide +kernel
theorem dX3_readPair_31 : decode cX3_readPair 31 = .ok (.aload_n 0, 1) := by decide +kernel
theorem dX3_readPair_32 : decode cX3_readPair 32 = .ok (.iload_n 2, 1) := by decide +kernel
theorem dX3_readPair_33 : decode cX3_readPair 33 = .ok (.sipush 300, 3) := by decide +kernel
theorem dX3_readPair_36 : decode cX3_readPair 36 = .ok (.invokevirtual 44, 3) := by decide +kernel
theorem dX3_readPair_39 : decode cX3_readPair 39 = .ok (.putfield 51, 3) := by decide +kernel
theorem dX3_readPair_42 : decode cX3_readPair 42 = .ok (.aload_n 0, 1) := by decide +kernel
theorem dX3_readPair_43 : decode cX3_readPair 43 = .ok (.getfield 51, 3) := by decide +kernel
theorem dX3_readPair_46 : decode cX3_readPair 46 = .ok (.bipush (-6), 2) := by decide +kernel
theorem dX3_readPair_48 : decode cX3_readPair 48 = .ok (.if_icmp .eq 7, 3) := by decide +kernel
theorem dX3_readPair_51 : decode cX3_readPair 51 = .ok (.iconst 1, 1) := by decide +kernel
theorem dX3_readPair_52 : decode cX3_readPair 52 = .ok (.goto 4, 3) := by decide +kernel
theorem dX3_readPair_55 : decode cX3_readPair 55 = .ok (.iconst 0, 1) := by decide +kernel
theorem dX3_readPair_56 : decode cX3_readPair 56 = .ok (.ireturn, 1) := by decide +kernel
theorem dX3_readSign_0 : decode cX3_readSign 0 = .ok (.aload_n 0, 1) := by decide +kernel
theorem dX3_readSign_1 : decode cX3_readSign 1 = .ok (.aload_n 0, 1) := by decide +kernel
theorem dX3_readSign_2 : decode cX3_readSign 2 = .ok (.getfield 19, 3) := by decide +kernel
theorem dX3_readSign_5 : decode cX3_readSign 5 = .ok (.invokevirtual 33, 3) := by decide +kernel
theorem dX3_readSign_8 : decode cX3_readSign 8 = .ok (.iload_n 1, 1) := by decide +kernel
theorem dX3_readSign_9 : decode cX3_readSign 9 = .ok (.if_icmp .eq 5, 3) := by decide +kernel
theorem dX3_readSign_12 : decode cX3_readSign 12 = .ok (.iconst 0, 1) := by decide +kernel
theorem dX3_readSign_13 : decode cX3_readSign 13 = .ok (.ireturn, 1) := by decide +kernel
theorem dX3_readSign_14 : decode cX3_readSign 14 = .ok (.aload_n 0, 1) := by decide +kernel
theorem dX3_readSign_15 : decode cX3_readSign 15 = .ok (.dup, 1) := by decide +kernel
theorem dX3_readSign_16 : decode cX3_readSign 16 = .ok (.getfield 19, 3) := by decide +kernel
theorem dX3_readSign_19 : decode cX3_readSign 19 = .ok (.iconst 1, 1) := by decide +kernel
theorem dX3_readSign_20 : decode cX3_readSign 20 = .ok (.iadd, 1) := by decide +kernel
theorem dX3_readSign_21 : decode cX3_readSign 21 = .ok (.putfield 19, 3) := by decide +kernel
theorem dX3_readSign_24 : decode cX3_readSign 24 = .ok (.iconst 1, 1) := by decide +kernel
theorem dX3_readSign_25 : decode cX3_readSign 25 = .ok (.ireturn, 1) := by decide +kernel
theorem dX3_readNumber_0 : decode cX3_readNumber 0 = .ok (.aload_n 0, 1) := by decide +kernel
theorem dX3_readNumber_1 : decode cX3_readNumber 1 = .ok (.aload_n 0, 1) := by decide +kernel
theorem dX3_readNumber_2 : decode cX3_readNumber 2 = .ok (.getfield 19, 3) := by decide +kernel
theorem dX3_readNumber_5 : decode cX3_readNumber 5 = .ok (.invokevirtual 54, 3) := by decide +kernel
theorem dX3_readNumber_8 : decode cX3_readNumber 8 = .ok (.istore_n 3, 1) := by decide +kernel
theorem dX3_readNumber_9 : decode cX3_readNumber 9 = .ok (.iload_n 3, 1) := by decide +kernel
theorem dX3_readNumber_10 : decode cX3_readNumber 10 = .ok (.iload_n 1, 1) := by decide +kernel
theorem dX3_readNumber_11 : decode cX3_readNumber 11 = .ok (.if_icmp .lt 8, 3) := by decide +kernel
theorem dX3_readNumber_14 : decode cX3_readNumber 14 = .ok (.iload_n 3, 1) := by decide +kernel
theorem dX3_readNumber_15 : decode cX3_readNumber 15 = .ok (.iload_n 2, 1) := by decide +kernel
theorem dX3_readNumber_16 : decode cX3_readNumber 16 = .ok (.if_icmp .le 6, 3) := by decide +kernel
theorem dX3_readNumber_19 : decode cX3_readNumber 19 = .ok (.bipush (-6), 2) := by decide +kernel
theorem dX3_readNumber_21 : decode cX3_readNumber 21 = .ok (.ireturn, 1) := by decide +kernel
theorem dX3_readNumber_22 : decode cX3_readNumber 22 = .ok (.aload_n 0, 1) := by decide +kernel
theorem dX3_readNumber_23 : decode cX3_readNumber 23 = .ok (.dup, 1) := by decide +kernel
theorem dX3_readNumber_24 : decode cX3_readNumber 24 = .ok (.getfield 19, 3) := by decide +kernel
theorem dX3_readNumber_27 : decode cX3_readNumber 27 = .ok (.iconst 1, 1) := by decide +kernel
theorem dX3_readNumber_28 : decode cX3_readNumber 28 = .ok (.iadd, 1) := by decide +kernel
theorem dX3_readNumber_29 : decode cX3_readNumber 29 = .ok (.putfield 19, 3) := by decide +kernel
theorem dX3_readNumber_32 : decode cX3_readNumber 32 = .ok (.iconst 1, 1) := by decide +kernel
theorem dX3_readNumber_33 : decode cX3_readNumber 33 = .ok (.istore 4, 2) := by decide +kernel
theorem dX3_readNumber_35 : decode cX3_readNumber 35 = .ok (.iload 4, 2) := by decide +kernel
theorem dX3_readNumber_37 : decode cX3_readNumber 37 = .ok (.iconst 3, 1) := by decide +kernel
theorem dX3_readNumber_38 : decode cX3_readNumber 38 = .ok (.if_icmp .ge 62, 3) := by decide +kernel
theorem dX3_readNumber_41 : decode cX3_readNumber 41 = .ok (.iload_n 3, 1) := by decide +kernel
theorem dX3_readNumber_42 : decode cX3_readNumber 42 = .ok (.ifCond .le 58, 3) := by decide +kernel
