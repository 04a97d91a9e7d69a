theorem dX7_lay_4 : decode cX7_lay 4 = .ok (.bipush 16, 2) := by decide +kernel
theorem dX7_lay_6 : decode cX7_lay 6 = .ok (.bipush 7, 2) := by decide +kernel
theorem dX7_lay_8 : decode cX7_lay 8 = .ok (.iload_n 1, 1) := by decide +kernel
theorem dX7_lay_9 : decode cX7_lay 9 = .ok (.imul, 1) := by decide +kernel
theorem dX7_lay_10 : decode cX7_lay 10 = .ok (.iadd, 1) := by decide +kernel
theorem dX7_lay_11 : decode cX7_lay 11 = .ok (.iload_n 2, 1) := by decide +kernel
theorem dX7_lay_12 : decode cX7_lay 12 = .ok (.iadd, 1) := by decide +kernel
theorem dX7_lay_13 : decode cX7_lay 13 = .ok (.iload_n 3, 1) := by decide +kernel
theorem dX7_lay_14 : decode cX7_lay 14 = .ok (.iastore, 1) := by decide +kernel
theorem dX7_lay_15 : decode cX7_lay 15 = .ok (.return_, 1) := by decide +kernel
theorem dX7_ofLot_0 : decode cX7_ofLot 0 = .ok (.aload_n 0, 1) := by decide +kernel
theorem dX7_ofLot_1 : decode cX7_ofLot 1 = .ok (.getfield 7, 3) := by decide +kernel
theorem dX7_ofLot_4 : decode cX7_ofLot 4 = .ok (.bipush 58, 2) := by decide +kernel
theorem dX7_ofLot_6 : decode cX7_ofLot 6 = .ok (.iconst 5, 1) := by decide +kernel
theorem dX7_ofLot_7 : decode cX7_ofLot 7 = .ok (.iload_n 1, 1) := by decide +kernel
theorem dX7_ofLot_8 : decode cX7_ofLot 8 = .ok (.imul, 1) := by decide +kernel
theorem dX7_ofLot_9 : decode cX7_ofLot 9 = .ok (.iadd, 1) := by decide +kernel
theorem dX7_ofLot_10 : decode cX7_ofLot 10 = .ok (.iload_n 2, 1) := by decide +kernel
theorem dX7_ofLot_11 : decode cX7_ofLot 11 = .ok (.iadd, 1) := by decide +kernel
theorem dX7_ofLot_12 : decode cX7_ofLot 12 = .ok (.iaload, 1) := by decide +kernel
theorem dX7_ofLot_13 : decode cX7_ofLot 13 = .ok (.ireturn, 1) := by decide +kernel
theorem dX7_layLot_0 : decode cX7_layLot 0 = .ok (.aload_n 0, 1) := by decide +kernel
theorem dX7_layLot_1 : decode cX7_layLot 1 = .ok (.getfield 7, 3) := by decide +kernel
theorem dX7_layLot_4 : decode cX7_layLot 4 = .ok (.bipush 58, 2) := by decide +kernel
theorem dX7_layLot_6 : decode cX7_layLot 6 = .ok (.iconst 5, 1) := by decide +kernel
theorem dX7_layLot_7 : decode cX7_layLot 7 = .ok (.iload_n 1, 1) := by decide +kernel
theorem dX7_layLot_8 : decode cX7_layLot 8 = .ok (.imul, 1) := by decide +kernel
theorem dX7_layLot_9 : decode cX7_layLot 9 = .ok (.iadd, 1) := by decide +kernel
theorem dX7_layLot_10 : decode cX7_layLot 10 = .ok (.iload_n 2, 1) := by decide +kernel
theorem dX7_layLot_11 : decode cX7_layLot 11 = .ok (.iadd, 1) := by decide +kernel
theorem dX7_layLot_12 : decode cX7_layLot 12 = .ok (.iload_n 3, 1) := by decide +kernel
theorem dX7_layLot_13 : decode cX7_layLot 13 = .ok (.iastore, 1) := by decide +kernel
theorem dX7_layLot_14 : decode cX7_layLot 14 = .ok (.return_, 1) := by decide +kernel
theorem dX7_isPlayer_0 : decode cX7_isPlayer 0 = .ok (.iload_n 1, 1) := by decide +kernel
theorem dX7_isPlayer_1 : decode cX7_isPlayer 1 = .ok (.iconst 0, 1) := by decide +kernel
theorem dX7_isPlayer_2 : decode cX7_isPlayer 2 = .ok (.aload_n 0, 1) := by decide +kernel
theorem dX7_isPlayer_3 : decode cX7_isPlayer 3 = .ok (.getfield 7, 3) := by decide +kernel
theorem dX7_isPlayer_6 : decode cX7_isPlayer 6 = .ok (.iconst 0, 1) := by decide +kernel
theorem dX7_isPlayer_7 : decode cX7_isPlayer 7 = .ok (.iaload, 1) := by decide +kernel
theorem dX7_isPlayer_8 : decode cX7_isPlayer 8 = .ok (.iconst 1, 1) := by decide +kernel
theorem dX7_isPlayer_9 : decode cX7_isPlayer 9 = .ok (.isub, 1) := by decide +kernel
theorem dX7_isPlayer_10 : decode cX7_isPlayer 10 = .ok (.invokestatic 43, 3) := by decide +kernel
theorem dX7_isPlayer_13 : decode cX7_isPlayer 13 = .ok (.ireturn, 1) := by decide +kernel
theorem dX7_goes_0 : decode cX7_goes 0 = .ok (.aload_n 0, 1) := by decide +kernel
theorem dX7_goes_1 : decode cX7_goes 1 = .ok (.getfield 7, 3) := by decide +kernel
theorem dX7_goes_4 : decode cX7_goes 4 = .ok (.iconst 3, 1) := by decide +kernel
theorem dX7_goes_5 : decode cX7_goes 5 = .ok (.iaload, 1) := by decide +kernel
theorem dX7_goes_6 : decode cX7_goes 6 = .ok (.iconst 1, 1) := by decide +kernel
theorem dX7_goes_7 : decode cX7_goes 7 = .ok (.if_icmp .ne 7, 3) := by decide +kernel
theorem dX7_goes_10 : decode cX7_goes 10 = .ok (.iconst 1, 1) := by decide +kernel
theorem dX7_goes_11 : decode cX7_goes 11 = .ok (.goto 4, 3) := by decide +kernel
theorem dX7_goes_14 : decode cX7_goes 14 = .ok (.iconst 0, 1) := by decide +kernel
theorem dX7_goes_15 : decode cX7_goes 15 = .ok (.ireturn, 1) := by decide +kernel
theorem dX7_clearAuction_0 : decode cX7_clearAuction 0 = .ok (.aload_n 0, 1) := by decide +kernel
theorem dX7_clearAuction_1 : decode cX7_clearAuction 1 = .ok (.getfield 7, 3) := by decide +kernel
theorem dX7_clearAuction_4 : decode cX7_clearAuction 4 = .ok (.iconst 3, 1) := by decide +kernel
theorem dX7_clearAuction_5 : decode cX7_clearAuction 5 = .ok (.iconst 0, 1) := by decide +kernel
theorem dX7_clearAuction_6 : decode cX7_clearAuction 6 = .ok (.iastore, 1) := by decide +kernel
theorem dX7_clearAuction_7 : decode cX7_clearAuction 7 = .ok (.aload_n 0, 1) := by decide +kernel
theorem dX7_clearAuction_8 : decode cX7_clearAuction 8 = .ok (.getfield 7, 3) := by decide +kernel
theorem dX7_clearAuction_11 : decode cX7_clearAuction 11 = .ok (.iconst 4, 1) := by decide +kernel
theorem dX7_clearAuction_12 : decode cX7_clearAuction 12 = .ok (.bipush (-6), 2) := by decide +kernel
theorem dX7_clearAuction_14 : decode cX7_clearAuction 14 = .ok (.iastore, 1) := by decide +kernel
theorem dX7_clearAuction_15 : decode cX7_clearAuction 15 = .ok (.aload_n 0, 1) := by decide +kernel
theorem dX7_clearAuction_16 : decode cX7_clearAuction 16 = .ok (.getfield 7, 3) := by decide +kernel
theorem dX7_clearAuction_19 : decode cX7_clearAuction 19 = .ok (.iconst 5, 1) := by decide +kernel
theorem dX7_clearAuction_20 : decode cX7_clearAuction 20 = .ok (.bipush (-6), 2) := by decide +kernel
theorem dX7_clearAuction_22 : decode cX7_clearAuction 22 = .ok (.iastore, 1) := by decide +kernel
theorem dX7_clearAuction_23 : decode cX7_clearAuction 23 = .ok (.aload_n 0, 1) := by decide +kernel
theorem dX7_clearAuction_24 : decode cX7_clearAuction 24 = .ok (.getfield 7, 3) := by decide +kernel
theorem dX7_clearAuction_27 : decode cX7_clearAuction 27 = .ok (.bipush 6, 2) := by decide +kernel
theorem dX7_clearAuction_29 : decode cX7_clearAuction 29 = .ok (.bipush (-6), 2) := by decide +kernel
theorem dX7_clearAuction_31 : decode cX7_clearAuction 31 = .ok (.iastore, 1) := by decide +kernel
theorem dX7_clearAuction_32 : decode cX7_clearAuction 32 = .ok (.aload_n 0, 1) := by decide +kernel
theorem dX7_clearAuction_33 : decode cX7_clearAuction 33 = .ok (.getfield 7, 3) := by decide +kernel
theorem dX7_clearAuction_36 : decode cX7_clearAuction 36 = .ok (.bipush 7, 2) := by decide +kernel
theorem dX7_clearAuction_38 : decode cX7_clearAuction 38 = .ok (.bipush (-6), 2) := by decide +kernel
theorem dX7_clearAuction_40 : decode cX7_clearAuction 40 = .ok (.iastore, 1) := by decide +kernel
theorem dX7_clearAuction_41 : decode cX7_clearAuction 41 = .ok (.aload_n 0, 1) := by decide +kernel
theorem dX7_clearAuction_42 : decode cX7_clearAuction 42 = .ok (.getfield 7, 3) := by decide +kernel
theorem dX7_clearAuction_45 : decode cX7_clearAuction 45 = .ok (.bipush 8, 2) := by decide +kernel
theorem dX7_clearAuction_47 : decode cX7_clearAuction 47 = .ok (.bipush (-6), 2) := by decide +kernel
theorem dX7_clearAuction_49 : decode cX7_clearAuction 49 = .ok (.iastore, 1) := by decide +kernel
theorem dX7_clearAuction_50 : decode cX7_clearAuction 50 = .ok (.aload_n 0, 1) := by decide +kernel
theorem dX7_clearAuction_51 : decode cX7_clearAuction 51 = .ok (.getfield 7, 3) := by decide +kernel
theorem dX7_clearAuction_54 : decode cX7_clearAuction 54 = .ok (.bipush 9, 2) := by decide +kernel
theorem dX7_clearAuction_56 : decode cX7_clearAuction 56 = .ok (.iconst 0, 1) := by decide +kernel
theorem dX7_clearAuction_57 : decode cX7_clearAuction 57 = .ok (.iastore, 1) := by decide +kernel
theorem dX7_clearAuction_58 : decode cX7_clearAuction 58 = .ok (.iconst 0, 1) := by decide +kernel
theorem dX7_clearAuction_59 : decode cX7_clearAuction 59 = .ok (.istore_n 1, 1) := by decide +kernel
theorem dX7_clearAuction_60 : decode cX7_clearAuction 60 = .ok (.iload_n 1, 1) := by decide +kernel
theorem dX7_clearAuction_61 : decode cX7_clearAuction 61 = .ok (.bipush 6, 2) := by decide +kernel
theorem dX7_clearAuction_63 : decode cX7_clearAuction 63 = .ok (.if_icmp .ge 25, 3) := by decide +kernel
theorem dX7_clearAuction_66 : decode cX7_clearAuction 66 = .ok (.aload_n 0, 1) := by decide +kernel
theorem dX7_clearAuction_67 : decode cX7_clearAuction 67 = .ok (.iload_n 1, 1) := by decide +kernel
theorem dX7_clearAuction_68 : decode cX7_clearAuction 68 = .ok (.iconst 5, 1) := by decide +kernel
theorem dX7_clearAuction_69 : decode cX7_clearAuction 69 = .ok (.bipush (-6), 2) := by decide +kernel
theorem dX7_clearAuction_71 : decode cX7_clearAuction 71 = .ok (.invokevirtual 47, 3) := by decide +kernel
theorem dX7_clearAuction_74 : decode cX7_clearAuction 74 = .ok (.aload_n 0, 1) := by decide +kernel
theorem dX7_clearAuction_75 : decode cX7_clearAuction 75 = .ok (.iload_n 1, 1) := by decide +kernel
theorem dX7_clearAuction_76 : decode cX7_clearAuction 76 = .ok (.bipush 6, 2) := by decide +kernel
theorem dX7_clearAuction_78 : decode cX7_clearAuction 78 = .ok (.iconst 0, 1) := by decide +kernel
theorem dX7_clearAuction_79 : decode cX7_clearAuction 79 = .ok (.invokevirtual 47, 3) := by decide +kernel
theorem dX7_clearAuction_82 : decode cX7_clearAuction 82 = .ok (.iinc 1 1, 3) := by decide +kernel
theorem dX7_clearAuction_85 : decode cX7_clearAuction 85 = .ok (.goto (-25), 3) := by decide +kernel
theorem dX7_clearAuction_88 : decode cX7_clearAuction 88 = .ok (.return_, 1) := by decide +kernel
theorem dX7_beginGame_0 : decode cX7_beginGame 0 = .ok (.aload_n 0, 1) := by decide +kernel
theorem dX7_beginGame_1 : decode cX7_beginGame 1 = .ok (.getfield 7, 3) := by decide +kernel
theorem dX7_beginGame_4 : decode cX7_beginGame 4 = .ok (.iconst 0, 1) := by decide +kernel
theorem dX7_beginGame_5 : decode cX7_beginGame 5 = .ok (.iload_n 1, 1) := by decide +kernel
theorem dX7_beginGame_6 : decode cX7_beginGame 6 = .ok (.iastore, 1) := by decide +kernel
theorem dX7_beginGame_7 : decode cX7_beginGame 7 = .ok (.aload_n 0, 1) := by decide +kernel
theorem dX7_beginGame_8 : decode cX7_beginGame 8 = .ok (.getfield 7, 3) := by decide +kernel
theorem dX7_beginGame_11 : decode cX7_beginGame 11 = .ok (.iconst 1, 1) := by decide +kernel
theorem dX7_beginGame_12 : decode cX7_beginGame 12 = .ok (.iconst 0, 1) := by decide +kernel
theorem dX7_beginGame_13 : decode cX7_beginGame 13 = .ok (.iastore, 1) := by decide +kernel
theorem dX7_beginGame_14 : decode cX7_beginGame 14 = .ok (.aload_n 0, 1) := by decide +kernel
theorem dX7_beginGame_15 : decode cX7_beginGame 15 = .ok (.getfield 7, 3) := by decide +kernel
theorem dX7_beginGame_18 : decode cX7_beginGame 18 = .ok (.iconst 2, 1) := by decide +kernel
theorem dX7_beginGame_19 : decode cX7_beginGame 19 = .ok (.iconst 0, 1) := by decide +kernel
theorem dX7_beginGame_20 : decode cX7_beginGame 20 = .ok (.iastore, 1) := by decide +kernel
theorem dX7_beginGame_21 : decode cX7_beginGame 21 = .ok (.iconst 0, 1) := by decide +kernel
theorem dX7_beginGame_22 : decode cX7_beginGame 22 = .ok (.istore_n 2, 1) := by decide +kernel
theorem dX7_beginGame_23 : decode cX7_beginGame 23 = .ok (.iload_n 2, 1) := by decide +kernel
theorem dX7_beginGame_24 : decode cX7_beginGame 24 = .ok (.bipush 6, 2) := by decide +kernel
theorem dX7_beginGame_26 : decode cX7_beginGame 26 = .ok (.if_icmp .ge 51, 3) := by decide +kernel
theorem dX7_beginGame_29 : decode cX7_beginGame 29 = .ok (.aload_n 0, 1) := by decide +kernel
theorem dX7_beginGame_30 : decode cX7_beginGame 30 = .ok (.iload_n 2, 1) := by decide +kernel
theorem dX7_beginGame_31 : decode cX7_beginGame 31 = .ok (.iconst 0, 1) := by decide +kernel
theorem dX7_beginGame_32 : decode cX7_beginGame 32 = .ok (.aload_n 0, 1) := by decide +kernel
theorem dX7_beginGame_33 : decode cX7_beginGame 33 = .ok (.iconst 0, 1) := by decide +kernel
theorem dX7_beginGame_34 : decode cX7_beginGame 34 = .ok (.invokevirtual 51, 3) := by decide +kernel
theorem dX7_beginGame_37 : decode cX7_beginGame 37 = .ok (.invokevirtual 47, 3) := by decide +kernel
theorem dX7_beginGame_40 : decode cX7_beginGame 40 = .ok (.aload_n 0, 1) := by decide +kernel
theorem dX7_beginGame_41 : decode cX7_beginGame 41 = .ok (.iload_n 2, 1) := by decide +kernel
theorem dX7_beginGame_42 : decode cX7_beginGame 42 = .ok (.iconst 1, 1) := by decide +kernel
theorem dX7_beginGame_43 : decode cX7_beginGame 43 = .ok (.bipush 10, 2) := by decide +kernel
theorem dX7_beginGame_45 : decode cX7_beginGame 45 = .ok (.invokevirtual 47, 3) := by decide +kernel
theorem dX7_beginGame_48 : decode cX7_beginGame 48 = .ok (.aload_n 0, 1) := by decide +kernel
theorem dX7_beginGame_49 : decode cX7_beginGame 49 = .ok (.iload_n 2, 1) := by decide +kernel
theorem dX7_beginGame_50 : decode cX7_beginGame 50 = .ok (.iconst 2, 1) := by decide +kernel
theorem dX7_beginGame_51 : decode cX7_beginGame 51 = .ok (.iconst 0, 1) := by decide +kernel
theorem dX7_beginGame_52 : decode cX7_beginGame 52 = .ok (.invokevirtual 47, 3) := by decide +kernel
theorem dX7_beginGame_55 : decode cX7_beginGame 55 = .ok (.aload_n 0, 1) := by decide +kernel
theorem dX7_beginGame_56 : decode cX7_beginGame 56 = .ok (.iload_n 2, 1) := by decide +kernel
theorem dX7_beginGame_57 : decode cX7_beginGame 57 = .ok (.iconst 3, 1) := by decide +kernel
theorem dX7_beginGame_58 : decode cX7_beginGame 58 = .ok (.iconst 0, 1) := by decide +kernel
theorem dX7_beginGame_59 : decode cX7_beginGame 59 = .ok (.invokevirtual 47, 3) := by decide +kernel
theorem dX7_beginGame_62 : decode cX7_beginGame 62 = .ok (.aload_n 0, 1) := by decide +kernel
theorem dX7_beginGame_63 : decode cX7_beginGame 63 = .ok (.iload_n 2, 1) := by decide +kernel
theorem dX7_beginGame_64 : decode cX7_beginGame 64 = .ok (.iconst 4, 1) := by decide +kernel
theorem dX7_beginGame_65 : decode cX7_beginGame 65 = .ok (.sipush 300, 3) := by decide +kernel
theorem dX7_beginGame_68 : decode cX7_beginGame 68 = .ok (.invokevirtual 47, 3) := by decide +kernel
theorem dX7_beginGame_71 : decode cX7_beginGame 71 = .ok (.iinc 2 1, 3) := by decide +kernel
theorem dX7_beginGame_74 : decode cX7_beginGame 74 = .ok (.goto (-51), 3) := by decide +kernel
theorem dX7_beginGame_77 : decode cX7_beginGame 77 = .ok (.aload_n 0, 1) := by decide +kernel
theorem dX7_beginGame_78 : decode cX7_beginGame 78 = .ok (.invokevirtual 55, 3) := by decide +kernel
theorem dX7_beginGame_81 : decode cX7_beginGame 81 = .ok (.return_, 1) := by decide +kernel
theorem dX7_setUp_0 : decode cX7_setUp 0 = .ok (.iload_n 1, 1) := by decide +kernel
theorem dX7_setUp_1 : decode cX7_setUp 1 = .ok (.iconst 2, 1) := by decide +kernel
theorem dX7_setUp_2 : decode cX7_setUp 2 = .ok (.bipush 6, 2) := by decide +kernel
theorem dX7_setUp_4 : decode cX7_setUp 4 = .ok (.invokestatic 43, 3) := by decide +kernel
theorem dX7_setUp_7 : decode cX7_setUp 7 = .ok (.ifCond .ne 6, 3) := by decide +kernel
theorem dX7_setUp_10 : decode cX7_setUp 10 = .ok (.bipush (-2), 2) := by decide +kernel
theorem dX7_setUp_12 : decode cX7_setUp 12 = .ok (.ireturn, 1) := by decide +kernel
theorem dX7_setUp_13 : decode cX7_setUp 13 = .ok (.aload_n 0, 1) := by decide +kernel
theorem dX7_setUp_14 : decode cX7_setUp 14 = .ok (.getfield 7, 3) := by decide +kernel
theorem dX7_setUp_17 : decode cX7_setUp 17 = .ok (.iconst 0, 1) := by decide +kernel
theorem dX7_setUp_18 : decode cX7_setUp 18 = .ok (.iaload, 1) := by decide +kernel
theorem dX7_setUp_19 : decode cX7_setUp 19 = .ok (.istore_n 2, 1) := by decide +kernel
theorem dX7_setUp_20 : decode cX7_setUp 20 = .ok (.aload_n 0, 1) := by decide +kernel
theorem dX7_setUp_21 : decode cX7_setUp 21 = .ok (.iload_n 1, 1) := by decide +kernel
theorem dX7_setUp_22 : decode cX7_setUp 22 = .ok (.invokevirtual 39, 3) := by decide +kernel
theorem dX7_setUp_25 : decode cX7_setUp 25 = .ok (.iload_n 2, 1) := by decide +kernel
theorem dX7_setUp_26 : decode cX7_setUp 26 = .ok (.ireturn, 1) := by decide +kernel
theorem dX7_takes_0 : decode cX7_takes 0 = .ok (.iload_n 0, 1) := by decide +kernel
theorem dX7_takes_1 : decode cX7_takes 1 = .ok (.tableswitch 72 0 5 #[39, 48, 56, 64, 72, 48], 39) := by decide +kernel
theorem dX7_takes_40 : decode cX7_takes 40 = .ok (.iload_n 1, 1) := by decide +kernel
theorem dX7_takes_41 : decode cX7_takes 41 = .ok (.iconst 1, 1) := by decide +kernel
theorem dX7_takes_42 : decode cX7_takes 42 = .ok (.sipush 300, 3) := by decide +kernel
theorem dX7_takes_45 : decode cX7_takes 45 = .ok (.invokestatic 43, 3) := by decide +kernel
theorem dX7_takes_48 : decode cX7_takes 48 = .ok (.ireturn, 1) := by decide +kernel
theorem dX7_takes_49 : decode cX7_takes 49 = .ok (.iload_n 1, 1) := by decide +kernel
theorem dX7_takes_50 : decode cX7_takes 50 = .ok (.iconst 1, 1) := by decide +kernel
theorem dX7_takes_51 : decode cX7_takes 51 = .ok (.bipush 20, 2) := by decide +kernel
theorem dX7_takes_53 : decode cX7_takes 53 = .ok (.invokestatic 43, 3) := by decide +kernel
theorem dX7_takes_56 : decode cX7_takes 56 = .ok (.ireturn, 1) := by decide +kernel
theorem dX7_takes_57 : decode cX7_takes 57 = .ok (.iload_n 1, 1) := by decide +kernel
theorem dX7_takes_58 : decode cX7_takes 58 = .ok (.iconst 1, 1) := by decide +kernel
theorem dX7_takes_59 : decode cX7_takes 59 = .ok (.bipush 40, 2) := by decide +kernel
theorem dX7_takes_61 : decode cX7_takes 61 = .ok (.invokestatic 43, 3) := by decide +kernel
theorem dX7_takes_64 : decode cX7_takes 64 = .ok (.ireturn, 1) := by decide +kernel
theorem dX7_takes_65 : decode cX7_takes 65 = .ok (.iload_n 1, 1) := by decide +kernel
theorem dX7_takes_66 : decode cX7_takes 66 = .ok (.iconst 0, 1) := by decide +kernel
theorem dX7_takes_67 : decode cX7_takes 67 = .ok (.bipush 20, 2) := by decide +kernel
theorem dX7_takes_69 : decode cX7_takes 69 = .ok (.invokestatic 43, 3) := by decide +kernel
theorem dX7_takes_72 : decode cX7_takes 72 = .ok (.ireturn, 1) := by decide +kernel
theorem dX7_takes_73 : decode cX7_takes 73 = .ok (.iload_n 0, 1) := by decide +kernel
theorem dX7_takes_74 : decode cX7_takes 74 = .ok (.iconst 4, 1) := by decide +kernel
theorem dX7_takes_75 : decode cX7_takes 75 = .ok (.if_icmp .ne 17, 3) := by decide +kernel
theorem dX7_takes_78 : decode cX7_takes 78 = .ok (.iload_n 1, 1) := by decide +kernel
theorem dX7_takes_79 : decode cX7_takes 79 = .ok (.iconst 0, 1) := by decide +kernel
theorem dX7_takes_80 : decode cX7_takes 80 = .ok (.bipush 100, 2) := by decide +kernel
theorem dX7_takes_82 : decode cX7_takes 82 = .ok (.invokestatic 43, 3) := by decide +kernel
theorem dX7_takes_85 : decode cX7_takes 85 = .ok (.ifCond .eq 7, 3) := by decide +kernel
theorem dX7_takes_88 : decode cX7_takes 88 = .ok (.iconst 1, 1) := by decide +kernel
theorem dX7_takes_89 : decode cX7_takes 89 = .ok (.goto 4, 3) := by decide +kernel
theorem dX7_takes_92 : decode cX7_takes 92 = .ok (.iconst 0, 1) := by decide +kernel
theorem dX7_takes_93 : decode cX7_takes 93 = .ok (.ireturn, 1) := by decide +kernel
theorem dX7_set_0 : decode cX7_set 0 = .ok (.iload_n 1, 1) := by decide +kernel
theorem dX7_set_1 : decode cX7_set 1 = .ok (.iload_n 2, 1) := by decide +kernel
theorem dX7_set_2 : decode cX7_set 2 = .ok (.invokestatic 58, 3) := by decide +kernel
theorem dX7_set_5 : decode cX7_set 5 = .ok (.ifCond .ne 6, 3) := by decide +kernel
theorem dX7_set_8 : decode cX7_set 8 = .ok (.bipush (-2), 2) := by decide +kernel
theorem dX7_set_10 : decode cX7_set 10 = .ok (.ireturn, 1) := by decide +kernel
theorem dX7_set_11 : decode cX7_set 11 = .ok (.aload_n 0, 1) := by decide +kernel
theorem dX7_set_12 : decode cX7_set 12 = .ok (.invokevirtual 62, 3) := by decide +kernel
theorem dX7_set_15 : decode cX7_set 15 = .ok (.ifCond .eq 6, 3) := by decide +kernel
theorem dX7_set_18 : decode cX7_set 18 = .ok (.bipush (-5), 2) := by decide +kernel
theorem dX7_set_20 : decode cX7_set 20 = .ok (.ireturn, 1) := by decide +kernel
theorem dX7_set_21 : decode cX7_set 21 = .ok (.aload_n 0, 1) := by decide +kernel
theorem dX7_set_22 : decode cX7_set 22 = .ok (.iload_n 1, 1) := by decide +kernel
theorem dX7_set_23 : decode cX7_set 23 = .ok (.invokevirtual 51, 3) := by decide +kernel
theorem dX7_set_26 : decode cX7_set 26 = .ok (.istore_n 3, 1) := by decide +kernel
theorem dX7_set_27 : decode cX7_set 27 = .ok (.aload_n 0, 1) := by decide +kernel
theorem dX7_set_28 : decode cX7_set 28 = .ok (.getfield 7, 3) := by decide +kernel
theorem dX7_set_31 : decode cX7_set 31 = .ok (.bipush 10, 2) := by decide +kernel
theorem dX7_set_33 : decode cX7_set 33 = .ok (.iload_n 1, 1) := by decide +kernel
theorem dX7_set_34 : decode cX7_set 34 = .ok (.iadd, 1) := by decide +kernel
theorem dX7_set_35 : decode cX7_set 35 = .ok (.iload_n 2, 1) := by decide +kernel
theorem dX7_set_36 : decode cX7_set 36 = .ok (.iastore, 1) := by decide +kernel
theorem dX7_set_37 : decode cX7_set 37 = .ok (.iload_n 3, 1) := by decide +kernel
theorem dX7_set_38 : decode cX7_set 38 = .ok (.ireturn, 1) := by decide +kernel
theorem dX7_fill_0 : decode cX7_fill 0 = .ok (.aload_n 0, 1) := by decide +kernel
theorem dX7_fill_1 : decode cX7_fill 1 = .ok (.iload_n 1, 1) := by decide +kernel
theorem dX7_fill_2 : decode cX7_fill 2 = .ok (.invokevirtual 66, 3) := by decide +kernel
theorem dX7_fill_5 : decode cX7_fill 5 = .ok (.ifCond .ne 5, 3) := by decide +kernel
theorem dX7_fill_8 : decode cX7_fill 8 = .ok (.iconst (-1), 1) := by decide +kernel
theorem dX7_fill_9 : decode cX7_fill 9 = .ok (.ireturn, 1) := by decide +kernel
theorem dX7_fill_10 : decode cX7_fill 10 = .ok (.iload_n 2, 1) := by decide +kernel
theorem dX7_fill_11 : decode cX7_fill 11 = .ok (.iconst 0, 1) := by decide +kernel
theorem dX7_fill_12 : decode cX7_fill 12 = .ok (.sipush 300, 3) := by decide +kernel
theorem dX7_fill_15 : decode cX7_fill 15 = .ok (.invokestatic 43, 3) := by decide +kernel
theorem dX7_fill_18 : decode cX7_fill 18 = .ok (.ifCond .ne 6, 3) := by decide +kernel
theorem dX7_fill_21 : decode cX7_fill 21 = .ok (.bipush (-2), 2) := by decide +kernel
theorem dX7_fill_23 : decode cX7_fill 23 = .ok (.ireturn, 1) := by decide +kernel
theorem dX7_fill_24 : decode cX7_fill 24 = .ok (.aload_n 0, 1) := by decide +kernel
theorem dX7_fill_25 : decode cX7_fill 25 = .ok (.invokevirtual 62, 3) := by decide +kernel
theorem dX7_fill_28 : decode cX7_fill 28 = .ok (.ifCond .ne 12, 3) := by decide +kernel
theorem dX7_fill_31 : decode cX7_fill 31 = .ok (.aload_n 0, 1) := by decide +kernel
theorem dX7_fill_32 : decode cX7_fill 32 = .ok (.getfield 7, 3) := by decide +kernel
theorem dX7_fill_35 : decode cX7_fill 35 = .ok (.iconst 2, 1) := by decide +kernel
theorem dX7_fill_36 : decode cX7_fill 36 = .ok (.iaload, 1) := by decide +kernel
theorem dX7_fill_37 : decode cX7_fill 37 = .ok (.ifCond .le 6, 3) := by decide +kernel
theorem dX7_fill_40 : decode cX7_fill 40 = .ok (.bipush (-5), 2) := by decide +kernel
theorem dX7_fill_42 : decode cX7_fill 42 = .ok (.ireturn, 1) := by decide +kernel
theorem dX7_fill_43 : decode cX7_fill 43 = .ok (.aload_n 0, 1) := by decide +kernel
theorem dX7_fill_44 : decode cX7_fill 44 = .ok (.iload_n 1, 1) := by decide +kernel
theorem dX7_fill_45 : decode cX7_fill 45 = .ok (.iconst 0, 1) := by decide +kernel
theorem dX7_fill_46 : decode cX7_fill 46 = .ok (.invokevirtual 70, 3) := by decide +kernel
theorem dX7_fill_49 : decode cX7_fill 49 = .ok (.istore_n 3, 1) := by decide +kernel
theorem dX7_fill_50 : decode cX7_fill 50 = .ok (.aload_n 0, 1) := by decide +kernel
theorem dX7_fill_51 : decode cX7_fill 51 = .ok (.iload_n 1, 1) := by decide +kernel
theorem dX7_fill_52 : decode cX7_fill 52 = .ok (.iconst 0, 1) := by decide +kernel
theorem dX7_fill_53 : decode cX7_fill 53 = .ok (.iload_n 2, 1) := by decide +kernel
theorem dX7_fill_54 : decode cX7_fill 54 = .ok (.invokevirtual 47, 3) := by decide +kernel
theorem dX7_fill_57 : decode cX7_fill 57 = .ok (.aload_n 0, 1) := by decide +kernel
theorem dX7_fill_58 : decode cX7_fill 58 = .ok (.iload_n 1, 1) := by decide +kernel
theorem dX7_fill_59 : decode cX7_fill 59 = .ok (.iconst 3, 1) := by decide +kernel
theorem dX7_fill_60 : decode cX7_fill 60 = .ok (.iconst 0, 1) := by decide +kernel
theorem dX7_fill_61 : decode cX7_fill 61 = .ok (.invokevirtual 47, 3) := by decide +kernel
theorem dX7_fill_64 : decode cX7_fill 64 = .ok (.aload_n 0, 1) := by decide +kernel
theorem dX7_fill_65 : decode cX7_fill 65 = .ok (.iload_n 1, 1) := by decide +kernel
theorem dX7_fill_66 : decode cX7_fill 66 = .ok (.iconst 4, 1) := by decide +kernel
theorem dX7_fill_67 : decode cX7_fill 67 = .ok (.sipush 300, 3) := by decide +kernel
theorem dX7_fill_70 : decode cX7_fill 70 = .ok (.invokevirtual 47, 3) := by decide +kernel
theorem dX7_fill_73 : decode cX7_fill 73 = .ok (.iload_n 3, 1) := by decide +kernel
theorem dX7_fill_74 : decode cX7_fill 74 = .ok (.ireturn, 1) := by decide +kernel
theorem dX7_embolden_0 : decode cX7_embolden 0 = .ok (.aload_n 0, 1) := by decide +kernel
theorem dX7_embolden_1 : decode cX7_embolden 1 = .ok (.iload_n 1, 1) := by decide +kernel
theorem dX7_embolden_2 : decode cX7_embolden 2 = .ok (.invokevirtual 66, 3) := by decide +kernel
theorem dX7_embolden_5 : decode cX7_embolden 5 = .ok (.ifCond .ne 5, 3) := by decide +kernel
theorem dX7_embolden_8 : decode cX7_embolden 8 = .ok (.iconst (-1), 1) := by decide +kernel
theorem dX7_embolden_9 : decode cX7_embolden 9 = .ok (.ireturn, 1) := by decide +kernel
theorem dX7_embolden_10 : decode cX7_embolden 10 = .ok (.iload_n 2, 1) := by decide +kernel
theorem dX7_embolden_11 : decode cX7_embolden 11 = .ok (.iconst 0, 1) := by decide +kernel
theorem dX7_embolden_12 : decode cX7_embolden 12 = .ok (.bipush 30, 2) := by decide +kernel
theorem dX7_embolden_14 : decode cX7_embolden 14 = .ok (.invokestatic 43, 3) := by decide +kernel
theorem dX7_embolden_17 : decode cX7_embolden 17 = .ok (.ifCond .ne 6, 3) := by decide +kernel
theorem dX7_embolden_20 : decode cX7_embolden 20 = .ok (.bipush (-2), 2) := by decide +kernel
theorem dX7_embolden_22 : decode cX7_embolden 22 = .ok (.ireturn, 1) := by decide +kernel
theorem dX7_embolden_23 : decode cX7_embolden 23 = .ok (.aload_n 0, 1) := by decide +kernel
theorem dX7_embolden_24 : decode cX7_embolden 24 = .ok (.iload_n 1, 1) := by decide +kernel
theorem dX7_embolden_25 : decode cX7_embolden 25 = .ok (.iconst 1, 1) := by decide +kernel
theorem dX7_embolden_26 : decode cX7_embolden 26 = .ok (.invokevirtual 70, 3) := by decide +kernel
theorem dX7_embolden_29 : decode cX7_embolden 29 = .ok (.istore_n 3, 1) := by decide +kernel
theorem dX7_embolden_30 : decode cX7_embolden 30 = .ok (.aload_n 0, 1) := by decide +kernel
theorem dX7_embolden_31 : decode cX7_embolden 31 = .ok (.iload_n 1, 1) := by decide +kernel
theorem dX7_embolden_32 : decode cX7_embolden 32 = .ok (.iconst 1, 1) := by decide +kernel
theorem dX7_embolden_33 : decode cX7_embolden 33 = .ok (.iload_n 2, 1) := by decide +kernel
theorem dX7_embolden_34 : decode cX7_embolden 34 = .ok (.invokevirtual 47, 3) := by decide +kernel
theorem dX7_embolden_37 : decode cX7_embolden 37 = .ok (.iload_n 3, 1) := by decide +kernel
theorem dX7_embolden_38 : decode cX7_embolden 38 = .ok (.ireturn, 1) := by decide +kernel
theorem dX7_lot_0 : decode cX7_lot 0 = .ok (.iload_n 1, 1) := by decide +kernel
theorem dX7_lot_1 : decode cX7_lot 1 = .ok (.iconst 0, 1) := by decide +kernel
theorem dX7_lot_2 : decode cX7_lot 2 = .ok (.iconst 5, 1) := by decide +kernel
theorem dX7_lot_3 : decode cX7_lot 3 = .ok (.invokestatic 43, 3) := by decide +kernel
theorem dX7_lot_6 : decode cX7_lot 6 = .ok (.ifCond .eq 13, 3) := by decide +kernel
theorem dX7_lot_9 : decode cX7_lot 9 = .ok (.iload_n 2, 1) := by decide +kernel
theorem dX7_lot_10 : decode cX7_lot 10 = .ok (.iconst 1, 1) := by decide +kernel
theorem dX7_lot_11 : decode cX7_lot 11 = .ok (.bipush 50, 2) := by decide +kernel
theorem dX7_lot_13 : decode cX7_lot 13 = .ok (.invokestatic 43, 3) := by decide +kernel
theorem dX7_lot_16 : decode cX7_lot 16 = .ok (.ifCond .ne 6, 3) := by decide +kernel
theorem dX7_lot_19 : decode cX7_lot 19 = .ok (.bipush (-2), 2) := by decide +kernel
theorem dX7_lot_21 : decode cX7_lot 21 = .ok (.ireturn, 1) := by decide +kernel
theorem dX7_lot_22 : decode cX7_lot 22 = .ok (.aload_n 0, 1) := by decide +kernel
theorem dX7_lot_23 : decode cX7_lot 23 = .ok (.getfield 7, 3) := by decide +kernel
theorem dX7_lot_26 : decode cX7_lot 26 = .ok (.iconst 1, 1) := by decide +kernel
theorem dX7_lot_27 : decode cX7_lot 27 = .ok (.iaload, 1) := by decide +kernel
theorem dX7_lot_28 : decode cX7_lot 28 = .ok (.bipush 12, 2) := by decide +kernel
theorem dX7_lot_30 : decode cX7_lot 30 = .ok (.if_icmp .ne 6, 3) := by decide +kernel
theorem dX7_lot_33 : decode cX7_lot 33 = .ok (.bipush (-4), 2) := by decide +kernel
theorem dX7_lot_35 : decode cX7_lot 35 = .ok (.ireturn, 1) := by decide +kernel
theorem dX7_lot_36 : decode cX7_lot 36 = .ok (.aload_n 0, 1) := by decide +kernel
theorem dX7_lot_37 : decode cX7_lot 37 = .ok (.invokevirtual 62, 3) := by decide +kernel
theorem dX7_lot_40 : decode cX7_lot 40 = .ok (.ifCond .ne 12, 3) := by decide +kernel
theorem dX7_lot_43 : decode cX7_lot 43 = .ok (.aload_n 0, 1) := by decide +kernel
theorem dX7_lot_44 : decode cX7_lot 44 = .ok (.getfield 7, 3) := by decide +kernel
theorem dX7_lot_47 : decode cX7_lot 47 = .ok (.iconst 2, 1) := by decide +kernel
theorem dX7_lot_48 : decode cX7_lot 48 = .ok (.iaload, 1) := by decide +kernel
theorem dX7_lot_49 : decode cX7_lot 49 = .ok (.ifCond .le 6, 3) := by decide +kernel
theorem dX7_lot_52 : decode cX7_lot 52 = .ok (.bipush (-5), 2) := by decide +kernel
theorem dX7_lot_54 : decode cX7_lot 54 = .ok (.ireturn, 1) := by decide +kernel
theorem dX7_lot_55 : decode cX7_lot 55 = .ok (.aload_n 0, 1) := by decide +kernel
theorem dX7_lot_56 : decode cX7_lot 56 = .ok (.getfield 7, 3) := by decide +kernel
theorem dX7_lot_59 : decode cX7_lot 59 = .ok (.iconst 1, 1) := by decide +kernel
theorem dX7_lot_60 : decode cX7_lot 60 = .ok (.iaload, 1) := by decide +kernel
theorem dX7_lot_61 : decode cX7_lot 61 = .ok (.istore_n 3, 1) := by decide +kernel
theorem dX7_lot_62 : decode cX7_lot 62 = .ok (.aload_n 0, 1) := by decide +kernel
theorem dX7_lot_63 : decode cX7_lot 63 = .ok (.getfield 7, 3) := by decide +kernel
theorem dX7_lot_66 : decode cX7_lot 66 = .ok (.iconst 1, 1) := by decide +kernel
theorem dX7_lot_67 : decode cX7_lot 67 = .ok (.dup2, 1) := by decide +kernel
theorem dX7_lot_68 : decode cX7_lot 68 = .ok (.iaload, 1) := by decide +kernel
theorem dX7_lot_69 : decode cX7_lot 69 = .ok (.iconst 1, 1) := by decide +kernel
theorem dX7_lot_70 : decode cX7_lot 70 = .ok (.iadd, 1) := by decide +kernel
theorem dX7_lot_71 : decode cX7_lot 71 = .ok (.iastore, 1) := by decide +kernel
theorem dX7_lot_72 : decode cX7_lot 72 = .ok (.aload_n 0, 1) := by decide +kernel
theorem dX7_lot_73 : decode cX7_lot 73 = .ok (.iload_n 3, 1) := by decide +kernel
theorem dX7_lot_74 : decode cX7_lot 74 = .ok (.iconst 0, 1) := by decide +kernel
theorem dX7_lot_75 : decode cX7_lot 75 = .ok (.iload_n 1, 1) := by decide +kernel
theorem dX7_lot_76 : decode cX7_lot 76 = .ok (.invokevirtual 74, 3) := by decide +kernel
theorem dX7_lot_79 : decode cX7_lot 79 = .ok (.aload_n 0, 1) := by decide +kernel
theorem dX7_lot_80 : decode cX7_lot 80 = .ok (.iload_n 3, 1) := by decide +kernel
theorem dX7_lot_81 : decode cX7_lot 81 = .ok (.iconst 1, 1) := by decide +kernel
theorem dX7_lot_82 : decode cX7_lot 82 = .ok (.iload_n 2, 1) := by decide +kernel
theorem dX7_lot_83 : decode cX7_lot 83 = .ok (.invokevirtual 74, 3) := by decide +kernel
theorem dX7_lot_86 : decode cX7_lot 86 = .ok (.aload_n 0, 1) := by decide +kernel
theorem dX7_lot_87 : decode cX7_lot 87 = .ok (.iload_n 3, 1) := by decide +kernel
theorem dX7_lot_88 : decode cX7_lot 88 = .ok (.iconst 2, 1) := by decide +kernel
theorem dX7_lot_89 : decode cX7_lot 89 = .ok (.iconst 0, 1) := by decide +kernel
theorem dX7_lot_90 : decode cX7_lot 90 = .ok (.invokevirtual 74, 3) := by decide +kernel
theorem dX7_lot_93 : decode cX7_lot 93 = .ok (.aload_n 0, 1) := by decide +kernel
theorem dX7_lot_94 : decode cX7_lot 94 = .ok (.iload_n 3, 1) := by decide +kernel
theorem dX7_lot_95 : decode cX7_lot 95 = .ok (.iconst 3, 1) := by decide +kernel
theorem dX7_lot_96 : decode cX7_lot 96 = .ok (.bipush (-6), 2) := by decide +kernel
theorem dX7_lot_98 : decode cX7_lot 98 = .ok (.invokevirtual 74, 3) := by decide +kernel
theorem dX7_lot_101 : decode cX7_lot 101 = .ok (.aload_n 0, 1) := by decide +kernel
theorem dX7_lot_102 : decode cX7_lot 102 = .ok (.iload_n 3, 1) := by decide +kernel
theorem dX7_lot_103 : decode cX7_lot 103 = .ok (.iconst 4, 1) := by decide +kernel
theorem dX7_lot_104 : decode cX7_lot 104 = .ok (.iconst 0, 1) := by decide +kernel
theorem dX7_lot_105 : decode cX7_lot 105 = .ok (.invokevirtual 74, 3) := by decide +kernel
theorem dX7_lot_108 : decode cX7_lot 108 = .ok (.iload_n 3, 1) := by decide +kernel
theorem dX7_lot_109 : decode cX7_lot 109 = .ok (.ireturn, 1) := by decide +kernel
theorem dX7_sizeOf_0 : decode cX7_sizeOf 0 = .ok (.iconst 0, 1) := by decide +kernel
theorem dX7_sizeOf_1 : decode cX7_sizeOf 1 = .ok (.istore_n 1, 1) := by decide +kernel
theorem dX7_sizeOf_2 : decode cX7_sizeOf 2 = .ok (.iload_n 0, 1) := by decide +kernel
theorem dX7_sizeOf_3 : decode cX7_sizeOf 3 = .ok (.istore_n 2, 1) := by decide +kernel
theorem dX7_sizeOf_4 : decode cX7_sizeOf 4 = .ok (.iload_n 2, 1) := by decide +kernel
theorem dX7_sizeOf_5 : decode cX7_sizeOf 5 = .ok (.ifCond .le 16, 3) := by decide +kernel
theorem dX7_sizeOf_8 : decode cX7_sizeOf 8 = .ok (.iload_n 1, 1) := by decide +kernel
theorem dX7_sizeOf_9 : decode cX7_sizeOf 9 = .ok (.iload_n 2, 1) := by decide +kernel
theorem dX7_sizeOf_10 : decode cX7_sizeOf 10 = .ok (.iconst 1, 1) := by decide +kernel
theorem dX7_sizeOf_11 : decode cX7_sizeOf 11 = .ok (.iand, 1) := by decide +kernel
theorem dX7_sizeOf_12 : decode cX7_sizeOf 12 = .ok (.iadd, 1) := by decide +kernel
theorem dX7_sizeOf_13 : decode cX7_sizeOf 13 = .ok (.istore_n 1, 1) := by decide +kernel
theorem dX7_sizeOf_14 : decode cX7_sizeOf 14 = .ok (.iload_n 2, 1) := by decide +kernel
theorem dX7_sizeOf_15 : decode cX7_sizeOf 15 = .ok (.iconst 1, 1) := by decide +kernel
theorem dX7_sizeOf_16 : decode cX7_sizeOf 16 = .ok (.ishr, 1) := by decide +kernel
theorem dX7_sizeOf_17 : decode cX7_sizeOf 17 = .ok (.istore_n 2, 1) := by decide +kernel
theorem dX7_sizeOf_18 : decode cX7_sizeOf 18 = .ok (.goto (-14), 3) := by decide +kernel
theorem dX7_sizeOf_21 : decode cX7_sizeOf 21 = .ok (.iload_n 1, 1) := by decide +kernel
theorem dX7_sizeOf_22 : decode cX7_sizeOf 22 = .ok (.ireturn, 1) := by decide +kernel
theorem dX7_valueWith_0 : decode cX7_valueWith 0 = .ok (.iconst 0, 1) := by decide +kernel
theorem dX7_valueWith_1 : decode cX7_valueWith 1 = .ok (.istore_n 3, 1) := by decide +kernel
theorem dX7_valueWith_2 : decode cX7_valueWith 2 = .ok (.iconst 0, 1) := by decide +kernel
theorem dX7_valueWith_3 : decode cX7_valueWith 3 = .ok (.istore 4, 2) := by decide +kernel
theorem dX7_valueWith_5 : decode cX7_valueWith 5 = .ok (.iload 4, 2) := by decide +kernel
theorem dX7_valueWith_7 : decode cX7_valueWith 7 = .ok (.bipush 6, 2) := by decide +kernel
theorem dX7_valueWith_9 : decode cX7_valueWith 9 = .ok (.if_icmp .ge 17, 3) := by decide +kernel
theorem dX7_valueWith_12 : decode cX7_valueWith 12 = .ok (.aload_n 0, 1) := by decide +kernel
theorem dX7_valueWith_13 : decode cX7_valueWith 13 = .ok (.getfield 26, 3) := by decide +kernel
theorem dX7_valueWith_16 : decode cX7_valueWith 16 = .ok (.iload 4, 2) := by decide +kernel
theorem dX7_valueWith_18 : decode cX7_valueWith 18 = .ok (.iconst 0, 1) := by decide +kernel
theorem dX7_valueWith_19 : decode cX7_valueWith 19 = .ok (.iastore, 1) := by decide +kernel
theorem dX7_valueWith_20 : decode cX7_valueWith 20 = .ok (.iinc 4 1, 3) := by decide +kernel
theorem dX7_valueWith_23 : decode cX7_valueWith 23 = .ok (.goto (-18), 3) := by decide +kernel
theorem dX7_valueWith_26 : decode cX7_valueWith 26 = .ok (.iconst 0, 1) := by decide +kernel
theorem dX7_valueWith_27 : decode cX7_valueWith 27 = .ok (.istore 4, 2) := by decide +kernel
theorem dX7_valueWith_29 : decode cX7_valueWith 29 = .ok (.iload 4, 2) := by decide +kernel
theorem dX7_valueWith_31 : decode cX7_valueWith 31 = .ok (.aload_n 0, 1) := by decide +kernel
theorem dX7_valueWith_32 : decode cX7_valueWith 32 = .ok (.getfield 7, 3) := by decide +kernel
theorem dX7_valueWith_35 : decode cX7_valueWith 35 = .ok (.iconst 1, 1) := by decide +kernel
theorem dX7_valueWith_36 : decode cX7_valueWith 36 = .ok (.iaload, 1) := by decide +kernel
theorem dX7_valueWith_37 : decode cX7_valueWith 37 = .ok (.if_icmp .ge 89, 3) := by decide +kernel
theorem dX7_valueWith_40 : decode cX7_valueWith 40 = .ok (.aload_n 0, 1) := by decide +kernel
theorem dX7_valueWith_41 : decode cX7_valueWith 41 = .ok (.iload 4, 2) := by decide +kernel
theorem dX7_valueWith_43 : decode cX7_valueWith 43 = .ok (.iconst 2, 1) := by decide +kernel
theorem dX7_valueWith_44 : decode cX7_valueWith 44 = .ok (.invokevirtual 77, 3) := by decide +kernel
theorem dX7_valueWith_47 : decode cX7_valueWith 47 = .ok (.iload_n 1, 1) := by decide +kernel
theorem dX7_valueWith_48 : decode cX7_valueWith 48 = .ok (.ishr, 1) := by decide +kernel
theorem dX7_valueWith_49 : decode cX7_valueWith 49 = .ok (.iconst 1, 1) := by decide +kernel
theorem dX7_valueWith_50 : decode cX7_valueWith 50 = .ok (.iand, 1) := by decide +kernel
theorem dX7_valueWith_51 : decode cX7_valueWith 51 = .ok (.iconst 1, 1) := by decide +kernel
theorem dX7_valueWith_52 : decode cX7_valueWith 52 = .ok (.if_icmp .ne 7, 3) := by decide +kernel
theorem dX7_valueWith_55 : decode cX7_valueWith 55 = .ok (.iconst 1, 1) := by decide +kernel
theorem dX7_valueWith_56 : decode cX7_valueWith 56 = .ok (.goto 4, 3) := by decide +kernel
theorem dX7_valueWith_59 : decode cX7_valueWith 59 = .ok (.iconst 0, 1) := by decide +kernel
theorem dX7_valueWith_60 : decode cX7_valueWith 60 = .ok (.istore 5, 2) := by decide +kernel
theorem dX7_valueWith_62 : decode cX7_valueWith 62 = .ok (.iload 5, 2) := by decide +kernel
theorem dX7_valueWith_64 : decode cX7_valueWith 64 = .ok (.ifCond .ne 9, 3) := by decide +kernel
theorem dX7_valueWith_67 : decode cX7_valueWith 67 = .ok (.iload 4, 2) := by decide +kernel
theorem dX7_valueWith_69 : decode cX7_valueWith 69 = .ok (.iload_n 2, 1) := by decide +kernel
theorem dX7_valueWith_70 : decode cX7_valueWith 70 = .ok (.if_icmp .ne 50, 3) := by decide +kernel
theorem dX7_valueWith_73 : decode cX7_valueWith 73 = .ok (.iload_n 3, 1) := by decide +kernel
theorem dX7_valueWith_74 : decode cX7_valueWith 74 = .ok (.aload_n 0, 1) := by decide +kernel
theorem dX7_valueWith_75 : decode cX7_valueWith 75 = .ok (.iload 4, 2) := by decide +kernel
theorem dX7_valueWith_77 : decode cX7_valueWith 77 = .ok (.iconst 1, 1) := by decide +kernel
theorem dX7_valueWith_78 : decode cX7_valueWith 78 = .ok (.invokevirtual 77, 3) := by decide +kernel
theorem dX7_valueWith_81 : decode cX7_valueWith 81 = .ok (.iload 4, 2) := by decide +kernel
theorem dX7_valueWith_83 : decode cX7_valueWith 83 = .ok (.iload_n 2, 1) := by decide +kernel
theorem dX7_valueWith_84 : decode cX7_valueWith 84 = .ok (.if_icmp .ne 7, 3) := by decide +kernel
theorem dX7_valueWith_87 : decode cX7_valueWith 87 = .ok (.iconst 1, 1) := by decide +kernel
theorem dX7_valueWith_88 : decode cX7_valueWith 88 = .ok (.goto 13, 3) := by decide +kernel
theorem dX7_valueWith_91 : decode cX7_valueWith 91 = .ok (.aload_n 0, 1) := by decide +kernel
theorem dX7_valueWith_92 : decode cX7_valueWith 92 = .ok (.iload 4, 2) := by decide +kernel
theorem dX7_valueWith_94 : decode cX7_valueWith 94 = .ok (.iconst 2, 1) := by decide +kernel
theorem dX7_valueWith_95 : decode cX7_valueWith 95 = .ok (.invokevirtual 77, 3) := by decide +kernel
theorem dX7_valueWith_98 : decode cX7_valueWith 98 = .ok (.invokestatic 80, 3) := by decide +kernel
theorem dX7_valueWith_101 : decode cX7_valueWith 101 = .ok (.idiv, 1) := by decide +kernel
theorem dX7_valueWith_102 : decode cX7_valueWith 102 = .ok (.iadd, 1) := by decide +kernel
theorem dX7_valueWith_103 : decode cX7_valueWith 103 = .ok (.istore_n 3, 1) := by decide +kernel
theorem dX7_valueWith_104 : decode cX7_valueWith 104 = .ok (.aload_n 0, 1) := by decide +kernel
theorem dX7_valueWith_105 : decode cX7_valueWith 105 = .ok (.getfield 26, 3) := by decide +kernel
theorem dX7_valueWith_108 : decode cX7_valueWith 108 = .ok (.aload_n 0, 1) := by decide +kernel
theorem dX7_valueWith_109 : decode cX7_valueWith 109 = .ok (.iload 4, 2) := by decide +kernel
theorem dX7_valueWith_111 : decode cX7_valueWith 111 = .ok (.iconst 0, 1) := by decide +kernel
theorem dX7_valueWith_112 : decode cX7_valueWith 112 = .ok (.invokevirtual 77, 3) := by decide +kernel
theorem dX7_valueWith_115 : decode cX7_valueWith 115 = .ok (.dup2, 1) := by decide +kernel
theorem dX7_valueWith_116 : decode cX7_valueWith 116 = .ok (.iaload, 1) := by decide +kernel
theorem dX7_valueWith_117 : decode cX7_valueWith 117 = .ok (.iconst 1, 1) := by decide +kernel
theorem dX7_valueWith_118 : decode cX7_valueWith 118 = .ok (.iadd, 1) := by decide +kernel
theorem dX7_valueWith_119 : decode cX7_valueWith 119 = .ok (.iastore, 1) := by decide +kernel
theorem dX7_valueWith_120 : decode cX7_valueWith 120 = .ok (.iinc 4 1, 3) := by decide +kernel
theorem dX7_valueWith_123 : decode cX7_valueWith 123 = .ok (.goto (-94), 3) := by decide +kernel
theorem dX7_valueWith_126 : decode cX7_valueWith 126 = .ok (.iconst 0, 1) := by decide +kernel
theorem dX7_valueWith_127 : decode cX7_valueWith 127 = .ok (.istore 4, 2) := by decide +kernel
theorem dX7_valueWith_129 : decode cX7_valueWith 129 = .ok (.iconst 0, 1) := by decide +kernel
theorem dX7_valueWith_130 : decode cX7_valueWith 130 = .ok (.istore 5, 2) := by decide +kernel
theorem dX7_valueWith_132 : decode cX7_valueWith 132 = .ok (.iload 5, 2) := by decide +kernel
theorem dX7_valueWith_134 : decode cX7_valueWith 134 = .ok (.bipush 6, 2) := by decide +kernel
theorem dX7_valueWith_136 : decode cX7_valueWith 136 = .ok (.if_icmp .ge 57, 3) := by decide +kernel
theorem dX7_valueWith_139 : decode cX7_valueWith 139 = .ok (.iload_n 3, 1) := by decide +kernel
theorem dX7_valueWith_140 : decode cX7_valueWith 140 = .ok (.aload_n 0, 1) := by decide +kernel
theorem dX7_valueWith_141 : decode cX7_valueWith 141 = .ok (.iconst 3, 1) := by decide +kernel
theorem dX7_valueWith_142 : decode cX7_valueWith 142 = .ok (.invokevirtual 51, 3) := by decide +kernel
theorem dX7_valueWith_145 : decode cX7_valueWith 145 = .ok (.aload_n 0, 1) := by decide +kernel
theorem dX7_valueWith_146 : decode cX7_valueWith 146 = .ok (.getfield 26, 3) := by decide +kernel
theorem dX7_valueWith_149 : decode cX7_valueWith 149 = .ok (.iload 5, 2) := by decide +kernel
theorem dX7_valueWith_151 : decode cX7_valueWith 151 = .ok (.iaload, 1) := by decide +kernel
theorem dX7_valueWith_152 : decode cX7_valueWith 152 = .ok (.imul, 1) := by decide +kernel
theorem dX7_valueWith_153 : decode cX7_valueWith 153 = .ok (.aload_n 0, 1) := by decide +kernel
theorem dX7_valueWith_154 : decode cX7_valueWith 154 = .ok (.getfield 26, 3) := by decide +kernel
theorem dX7_valueWith_157 : decode cX7_valueWith 157 = .ok (.iload 5, 2) := by decide +kernel
theorem dX7_valueWith_159 : decode cX7_valueWith 159 = .ok (.iaload, 1) := by decide +kernel
theorem dX7_valueWith_160 : decode cX7_valueWith 160 = .ok (.iconst 1, 1) := by decide +kernel
theorem dX7_valueWith_161 : decode cX7_valueWith 161 = .ok (.isub, 1) := by decide +kernel
theorem dX7_valueWith_162 : decode cX7_valueWith 162 = .ok (.imul, 1) := by decide +kernel
theorem dX7_valueWith_163 : decode cX7_valueWith 163 = .ok (.iconst 2, 1) := by decide +kernel
theorem dX7_valueWith_164 : decode cX7_valueWith 164 = .ok (.idiv, 1) := by decide +kernel
theorem dX7_valueWith_165 : decode cX7_valueWith 165 = .ok (.iadd, 1) := by decide +kernel
theorem dX7_valueWith_166 : decode cX7_valueWith 166 = .ok (.istore_n 3, 1) := by decide +kernel
theorem dX7_valueWith_167 : decode cX7_valueWith 167 = .ok (.iload 4, 2) := by decide +kernel
theorem dX7_valueWith_169 : decode cX7_valueWith 169 = .ok (.aload_n 0, 1) := by decide +kernel
theorem dX7_valueWith_170 : decode cX7_valueWith 170 = .ok (.getfield 26, 3) := by decide +kernel
theorem dX7_valueWith_173 : decode cX7_valueWith 173 = .ok (.iload 5, 2) := by decide +kernel
theorem dX7_valueWith_175 : decode cX7_valueWith 175 = .ok (.iaload, 1) := by decide +kernel
theorem dX7_valueWith_176 : decode cX7_valueWith 176 = .ok (.ifCond .le 7, 3) := by decide +kernel
theorem dX7_valueWith_179 : decode cX7_valueWith 179 = .ok (.iconst 1, 1) := by decide +kernel
theorem dX7_valueWith_180 : decode cX7_valueWith 180 = .ok (.goto 4, 3) := by decide +kernel
theorem dX7_valueWith_183 : decode cX7_valueWith 183 = .ok (.iconst 0, 1) := by decide +kernel
theorem dX7_valueWith_184 : decode cX7_valueWith 184 = .ok (.iadd, 1) := by decide +kernel
theorem dX7_valueWith_185 : decode cX7_valueWith 185 = .ok (.istore 4, 2) := by decide +kernel
theorem dX7_valueWith_187 : decode cX7_valueWith 187 = .ok (.iinc 5 1, 3) := by decide +kernel
theorem dX7_valueWith_190 : decode cX7_valueWith 190 = .ok (.goto (-58), 3) := by decide +kernel
theorem dX7_valueWith_193 : decode cX7_valueWith 193 = .ok (.iload 4, 2) := by decide +kernel
theorem dX7_valueWith_195 : decode cX7_valueWith 195 = .ok (.iconst 4, 1) := by decide +kernel
theorem dX7_valueWith_196 : decode cX7_valueWith 196 = .ok (.if_icmp .lt 13, 3) := by decide +kernel
theorem dX7_valueWith_199 : decode cX7_valueWith 199 = .ok (.iload_n 3, 1) := by decide +kernel
theorem dX7_valueWith_200 : decode cX7_valueWith 200 = .ok (.aload_n 0, 1) := by decide +kernel
theorem dX7_valueWith_201 : decode cX7_valueWith 201 = .ok (.iconst 4, 1) := by decide +kernel
theorem dX7_valueWith_202 : decode cX7_valueWith 202 = .ok (.invokevirtual 51, 3) := by decide +kernel
theorem dX7_valueWith_205 : decode cX7_valueWith 205 = .ok (.iadd, 1) := by decide +kernel
theorem dX7_valueWith_206 : decode cX7_valueWith 206 = .ok (.goto 4, 3) := by decide +kernel
theorem dX7_valueWith_209 : decode cX7_valueWith 209 = .ok (.iload_n 3, 1) := by decide +kernel
theorem dX7_valueWith_210 : decode cX7_valueWith 210 = .ok (.ireturn, 1) := by decide +kernel
theorem dX7_scoreOf_0 : decode cX7_scoreOf 0 = .ok (.aload_n 0, 1) := by decide +kernel
theorem dX7_scoreOf_1 : decode cX7_scoreOf 1 = .ok (.iload_n 1, 1) := by decide +kernel
theorem dX7_scoreOf_2 : decode cX7_scoreOf 2 = .ok (.bipush (-6), 2) := by decide +kernel
theorem dX7_scoreOf_4 : decode cX7_scoreOf 4 = .ok (.invokevirtual 83, 3) := by decide +kernel
theorem dX7_scoreOf_7 : decode cX7_scoreOf 7 = .ok (.aload_n 0, 1) := by decide +kernel
theorem dX7_scoreOf_8 : decode cX7_scoreOf 8 = .ok (.iload_n 1, 1) := by decide +kernel
theorem dX7_scoreOf_9 : decode cX7_scoreOf 9 = .ok (.iconst 0, 1) := by decide +kernel
theorem dX7_scoreOf_10 : decode cX7_scoreOf 10 = .ok (.invokevirtual 70, 3) := by decide +kernel
theorem dX7_scoreOf_13 : decode cX7_scoreOf 13 = .ok (.aload_n 0, 1) := by decide +kernel
theorem dX7_scoreOf_14 : decode cX7_scoreOf 14 = .ok (.iconst 5, 1) := by decide +kernel
theorem dX7_scoreOf_15 : decode cX7_scoreOf 15 = .ok (.invokevirtual 51, 3) := by decide +kernel
theorem dX7_scoreOf_18 : decode cX7_scoreOf 18 = .ok (.idiv, 1) := by decide +kernel
theorem dX7_scoreOf_19 : decode cX7_scoreOf 19 = .ok (.iadd, 1) := by decide +kernel
theorem dX7_scoreOf_20 : decode cX7_scoreOf 20 = .ok (.ireturn, 1) := by decide +kernel
theorem dX7_placeOf_0 : decode cX7_placeOf 0 = .ok (.iconst 1, 1) := by decide +kernel
theorem dX7_placeOf_1 : decode cX7_placeOf 1 = .ok (.istore_n 2, 1) := by decide +kernel
theorem dX7_placeOf_2 : decode cX7_placeOf 2 = .ok (.aload_n 0, 1) := by decide +kernel
theorem dX7_placeOf_3 : decode cX7_placeOf 3 = .ok (.iload_n 1, 1) := by decide +kernel
theorem dX7_placeOf_4 : decode cX7_placeOf 4 = .ok (.invokevirtual 86, 3) := by decide +kernel
theorem dX7_placeOf_7 : decode cX7_placeOf 7 = .ok (.istore_n 3, 1) := by decide +kernel
theorem dX7_placeOf_8 : decode cX7_placeOf 8 = .ok (.iconst 0, 1) := by decide +kernel
theorem dX7_placeOf_9 : decode cX7_placeOf 9 = .ok (.istore 4, 2) := by decide +kernel
theorem dX7_placeOf_11 : decode cX7_placeOf 11 = .ok (.iload 4, 2) := by decide +kernel
theorem dX7_placeOf_13 : decode cX7_placeOf 13 = .ok (.aload_n 0, 1) := by decide +kernel
theorem dX7_placeOf_14 : decode cX7_placeOf 14 = .ok (.getfield 7, 3) := by decide +kernel
theorem dX7_placeOf_17 : decode cX7_placeOf 17 = .ok (.iconst 0, 1) := by decide +kernel
theorem dX7_placeOf_18 : decode cX7_placeOf 18 = .ok (.iaload, 1) := by decide +kernel
theorem dX7_placeOf_19 : decode cX7_placeOf 19 = .ok (.if_icmp .ge 43, 3) := by decide +kernel
theorem dX7_placeOf_22 : decode cX7_placeOf 22 = .ok (.aload_n 0, 1) := by decide +kernel
theorem dX7_placeOf_23 : decode cX7_placeOf 23 = .ok (.iload 4, 2) := by decide +kernel
theorem dX7_placeOf_25 : decode cX7_placeOf 25 = .ok (.invokevirtual 86, 3) := by decide +kernel
theorem dX7_placeOf_28 : decode cX7_placeOf 28 = .ok (.istore 5, 2) := by decide +kernel
theorem dX7_placeOf_30 : decode cX7_placeOf 30 = .ok (.iload_n 2, 1) := by decide +kernel
theorem dX7_placeOf_31 : decode cX7_placeOf 31 = .ok (.iload 5, 2) := by decide +kernel
theorem dX7_placeOf_33 : decode cX7_placeOf 33 = .ok (.iload_n 3, 1) := by decide +kernel
theorem dX7_placeOf_34 : decode cX7_placeOf 34 = .ok (.if_icmp .gt 15, 3) := by decide +kernel
theorem dX7_placeOf_37 : decode cX7_placeOf 37 = .ok (.iload 5, 2) := by decide +kernel
theorem dX7_placeOf_39 : decode cX7_placeOf 39 = .ok (.iload_n 3, 1) := by decide +kernel
theorem dX7_placeOf_40 : decode cX7_placeOf 40 = .ok (.if_icmp .ne 13, 3) := by decide +kernel
theorem dX7_placeOf_43 : decode cX7_placeOf 43 = .ok (.iload 4, 2) := by decide +kernel
theorem dX7_placeOf_45 : decode cX7_placeOf 45 = .ok (.iload_n 1, 1) := by decide +kernel
theorem dX7_placeOf_46 : decode cX7_placeOf 46 = .ok (.if_icmp .ge 7, 3) := by decide +kernel
theorem dX7_placeOf_49 : decode cX7_placeOf 49 = .ok (.iconst 1, 1) := by decide +kernel
theorem dX7_placeOf_50 : decode cX7_placeOf 50 = .ok (.goto 4, 3) := by decide +kernel
theorem dX7_placeOf_53 : decode cX7_placeOf 53 = .ok (.iconst 0, 1) := by decide +kernel
theorem dX7_placeOf_54 : decode cX7_placeOf 54 = .ok (.iadd, 1) := by decide +kernel
theorem dX7_placeOf_55 : decode cX7_placeOf 55 = .ok (.istore_n 2, 1) := by decide +kernel
theorem dX7_placeOf_56 : decode cX7_placeOf 56 = .ok (.iinc 4 1, 3) := by decide +kernel
theorem dX7_placeOf_59 : decode cX7_placeOf 59 = .ok (.goto (-48), 3) := by decide +kernel
theorem dX7_placeOf_62 : decode cX7_placeOf 62 = .ok (.iload_n 2, 1) := by decide +kernel
theorem dX7_placeOf_63 : decode cX7_placeOf 63 = .ok (.ireturn, 1) := by decide +kernel
theorem dX7_lotsOf_0 : decode cX7_lotsOf 0 = .ok (.iconst 0, 1) := by decide +kernel
theorem dX7_lotsOf_1 : decode cX7_lotsOf 1 = .ok (.istore_n 2, 1) := by decide +kernel
theorem dX7_lotsOf_2 : decode cX7_lotsOf 2 = .ok (.iconst 0, 1) := by decide +kernel
theorem dX7_lotsOf_3 : decode cX7_lotsOf 3 = .ok (.istore_n 3, 1) := by decide +kernel
theorem dX7_lotsOf_4 : decode cX7_lotsOf 4 = .ok (.iload_n 3, 1) := by decide +kernel
theorem dX7_lotsOf_5 : decode cX7_lotsOf 5 = .ok (.aload_n 0, 1) := by decide +kernel
theorem dX7_lotsOf_6 : decode cX7_lotsOf 6 = .ok (.getfield 7, 3) := by decide +kernel
theorem dX7_lotsOf_9 : decode cX7_lotsOf 9 = .ok (.iconst 1, 1) := by decide +kernel
theorem dX7_lotsOf_10 : decode cX7_lotsOf 10 = .ok (.iaload, 1) := by decide +kernel
theorem dX7_lotsOf_11 : decode cX7_lotsOf 11 = .ok (.if_icmp .ge 33, 3) := by decide +kernel
theorem dX7_lotsOf_14 : decode cX7_lotsOf 14 = .ok (.iload_n 2, 1) := by decide +kernel
theorem dX7_lotsOf_15 : decode cX7_lotsOf 15 = .ok (.aload_n 0, 1) := by decide +kernel
theorem dX7_lotsOf_16 : decode cX7_lotsOf 16 = .ok (.iload_n 3, 1) := by decide +kernel
theorem dX7_lotsOf_17 : decode cX7_lotsOf 17 = .ok (.iconst 2, 1) := by decide +kernel
theorem dX7_lotsOf_18 : decode cX7_lotsOf 18 = .ok (.invokevirtual 77, 3) := by decide +kernel
theorem dX7_lotsOf_21 : decode cX7_lotsOf 21 = .ok (.iload_n 1, 1) := by decide +kernel
theorem dX7_lotsOf_22 : decode cX7_lotsOf 22 = .ok (.ishr, 1) := by decide +kernel
theorem dX7_lotsOf_23 : decode cX7_lotsOf 23 = .ok (.iconst 1, 1) := by decide +kernel
theorem dX7_lotsOf_24 : decode cX7_lotsOf 24 = .ok (.iand, 1) := by decide +kernel
theorem dX7_lotsOf_25 : decode cX7_lotsOf 25 = .ok (.iconst 1, 1) := by decide +kernel
theorem dX7_lotsOf_26 : decode cX7_lotsOf 26 = .ok (.if_icmp .ne 9, 3) := by decide +kernel
theorem dX7_lotsOf_29 : decode cX7_lotsOf 29 = .ok (.iconst 1, 1) := by decide +kernel
theorem dX7_lotsOf_30 : decode cX7_lotsOf 30 = .ok (.iload_n 3, 1) := by decide +kernel
theorem dX7_lotsOf_31 : decode cX7_lotsOf 31 = .ok (.ishl, 1) := by decide +kernel
theorem dX7_lotsOf_32 : decode cX7_lotsOf 32 = .ok (.goto 4, 3) := by decide +kernel
theorem dX7_lotsOf_35 : decode cX7_lotsOf 35 = .ok (.iconst 0, 1) := by decide +kernel
theorem dX7_lotsOf_36 : decode cX7_lotsOf 36 = .ok (.ior, 1) := by decide +kernel
theorem dX7_lotsOf_37 : decode cX7_lotsOf 37 = .ok (.istore_n 2, 1) := by decide +kernel
theorem dX7_lotsOf_38 : decode cX7_lotsOf 38 = .ok (.iinc 3 1, 3) := by decide +kernel
theorem dX7_lotsOf_41 : decode cX7_lotsOf 41 = .ok (.goto (-37), 3) := by decide +kernel
theorem dX7_lotsOf_44 : decode cX7_lotsOf 44 = .ok (.iload_n 2, 1) := by decide +kernel
theorem dX7_lotsOf_45 : decode cX7_lotsOf 45 = .ok (.ireturn, 1) := by decide +kernel
theorem dX7_nextLot_0 : decode cX7_nextLot 0 = .ok (.aload_n 0, 1) := by decide +kernel
theorem dX7_nextLot_1 : decode cX7_nextLot 1 = .ok (.getfield 7, 3) := by decide +kernel
theorem dX7_nextLot_4 : decode cX7_nextLot 4 = .ok (.iconst 2, 1) := by decide +kernel
theorem dX7_nextLot_5 : decode cX7_nextLot 5 = .ok (.iaload, 1) := by decide +kernel
theorem dX7_nextLot_6 : decode cX7_nextLot 6 = .ok (.aload_n 0, 1) := by decide +kernel
theorem dX7_nextLot_7 : decode cX7_nextLot 7 = .ok (.getfield 7, 3) := by decide +kernel
theorem dX7_nextLot_10 : decode cX7_nextLot 10 = .ok (.iconst 1, 1) := by decide +kernel
theorem dX7_nextLot_11 : decode cX7_nextLot 11 = .ok (.iaload, 1) := by decide +kernel
theorem dX7_nextLot_12 : decode cX7_nextLot 12 = .ok (.if_icmp .ge 12, 3) := by decide +kernel
theorem dX7_nextLot_15 : decode cX7_nextLot 15 = .ok (.aload_n 0, 1) := by decide +kernel
theorem dX7_nextLot_16 : decode cX7_nextLot 16 = .ok (.getfield 7, 3) := by decide +kernel
theorem dX7_nextLot_19 : decode cX7_nextLot 19 = .ok (.iconst 2, 1) := by decide +kernel
theorem dX7_nextLot_20 : decode cX7_nextLot 20 = .ok (.iaload, 1) := by decide +kernel
theorem dX7_nextLot_21 : decode cX7_nextLot 21 = .ok (.goto 5, 3) := by decide +kernel
theorem dX7_nextLot_24 : decode cX7_nextLot 24 = .ok (.bipush (-6), 2) := by decide +kernel
theorem dX7_nextLot_26 : decode cX7_nextLot 26 = .ok (.ireturn, 1) := by decide +kernel
theorem dX7_limitOf_0 : decode cX7_limitOf 0 = .ok (.aload_n 0, 1) := by decide +kernel
theorem dX7_limitOf_1 : decode cX7_limitOf 1 = .ok (.invokevirtual 89, 3) := by decide +kernel
theorem dX7_limitOf_4 : decode cX7_limitOf 4 = .ok (.istore_n 2, 1) := by decide +kernel
theorem dX7_limitOf_5 : decode cX7_limitOf 5 = .ok (.iload_n 2, 1) := by decide +kernel
theorem dX7_limitOf_6 : decode cX7_limitOf 6 = .ok (.ifCond .ge 6, 3) := by decide +kernel
theorem dX7_limitOf_9 : decode cX7_limitOf 9 = .ok (.bipush (-6), 2) := by decide +kernel
theorem dX7_limitOf_11 : decode cX7_limitOf 11 = .ok (.ireturn, 1) := by decide +kernel
theorem dX7_limitOf_12 : decode cX7_limitOf 12 = .ok (.aload_n 0, 1) := by decide +kernel
theorem dX7_limitOf_13 : decode cX7_limitOf 13 = .ok (.iload_n 1, 1) := by decide +kernel
theorem dX7_limitOf_14 : decode cX7_limitOf 14 = .ok (.iload_n 2, 1) := by decide +kernel
theorem dX7_limitOf_15 : decode cX7_limitOf 15 = .ok (.invokevirtual 83, 3) := by decide +kernel
theorem dX7_limitOf_18 : decode cX7_limitOf 18 = .ok (.aload_n 0, 1) := by decide +kernel
theorem dX7_limitOf_19 : decode cX7_limitOf 19 = .ok (.iload_n 1, 1) := by decide +kernel
theorem dX7_limitOf_20 : decode cX7_limitOf 20 = .ok (.bipush (-6), 2) := by decide +kernel
theorem dX7_limitOf_22 : decode cX7_limitOf 22 = .ok (.invokevirtual 83, 3) := by decide +kernel
theorem dX7_limitOf_25 : decode cX7_limitOf 25 = .ok (.isub, 1) := by decide +kernel
theorem dX7_limitOf_26 : decode cX7_limitOf 26 = .ok (.aload_n 0, 1) := by decide +kernel
theorem dX7_limitOf_27 : decode cX7_limitOf 27 = .ok (.iload_n 1, 1) := by decide +kernel
theorem dX7_limitOf_28 : decode cX7_limitOf 28 = .ok (.iconst 1, 1) := by decide +kernel
theorem dX7_limitOf_29 : decode cX7_limitOf 29 = .ok (.invokevirtual 70, 3) := by decide +kernel
theorem dX7_limitOf_32 : decode cX7_limitOf 32 = .ok (.imul, 1) := by decide +kernel
theorem dX7_limitOf_33 : decode cX7_limitOf 33 = .ok (.bipush 10, 2) := by decide +kernel
theorem dX7_limitOf_35 : decode cX7_limitOf 35 = .ok (.idiv, 1) := by decide +kernel
theorem dX7_limitOf_36 : decode cX7_limitOf 36 = .ok (.istore_n 3, 1) := by decide +kernel
theorem dX7_limitOf_37 : decode cX7_limitOf 37 = .ok (.iload_n 3, 1) := by decide +kernel
theorem dX7_limitOf_38 : decode cX7_limitOf 38 = .ok (.aload_n 0, 1) := by decide +kernel
theorem dX7_limitOf_39 : decode cX7_limitOf 39 = .ok (.iload_n 1, 1) := by decide +kernel
theorem dX7_limitOf_40 : decode cX7_limitOf 40 = .ok (.iconst 0, 1) := by decide +kernel
theorem dX7_limitOf_41 : decode cX7_limitOf 41 = .ok (.invokevirtual 70, 3) := by decide +kernel
theorem dX7_limitOf_44 : decode cX7_limitOf 44 = .ok (.if_icmp .ge 7, 3) := by decide +kernel
theorem dX7_limitOf_47 : decode cX7_limitOf 47 = .ok (.iload_n 3, 1) := by decide +kernel
theorem dX7_limitOf_48 : decode cX7_limitOf 48 = .ok (.goto 9, 3) := by decide +kernel
theorem dX7_limitOf_51 : decode cX7_limitOf 51 = .ok (.aload_n 0, 1) := by decide +kernel
theorem dX7_limitOf_52 : decode cX7_limitOf 52 = .ok (.iload_n 1, 1) := by decide +kernel
theorem dX7_limitOf_53 : decode cX7_limitOf 53 = .ok (.iconst 0, 1) := by decide +kernel
theorem dX7_limitOf_54 : decode cX7_limitOf 54 = .ok (.invokevirtual 70, 3) := by decide +kernel
theorem dX7_limitOf_57 : decode cX7_limitOf 57 = .ok (.ireturn, 1) := by decide +kernel
theorem dX7_starter_0 : decode cX7_starter 0 = .ok (.aload_n 0, 1) := by decide +kernel
theorem dX7_starter_1 : decode cX7_starter 1 = .ok (.getfield 7, 3) := by decide +kernel
theorem dX7_starter_4 : decode cX7_starter 4 = .ok (.iconst 2, 1) := by decide +kernel
theorem dX7_starter_5 : decode cX7_starter 5 = .ok (.iaload, 1) := by decide +kernel
theorem dX7_starter_6 : decode cX7_starter 6 = .ok (.aload_n 0, 1) := by decide +kernel
theorem dX7_starter_7 : decode cX7_starter 7 = .ok (.getfield 7, 3) := by decide +kernel
theorem dX7_starter_10 : decode cX7_starter 10 = .ok (.iconst 0, 1) := by decide +kernel
theorem dX7_starter_11 : decode cX7_starter 11 = .ok (.iaload, 1) := by decide +kernel
theorem dX7_starter_12 : decode cX7_starter 12 = .ok (.irem, 1) := by decide +kernel
theorem dX7_starter_13 : decode cX7_starter 13 = .ok (.ireturn, 1) := by decide +kernel
theorem dX7_seat_0 : decode cX7_seat 0 = .ok (.aload_n 0, 1) := by decide +kernel
theorem dX7_seat_1 : decode cX7_seat 1 = .ok (.invokevirtual 93, 3) := by decide +kernel
theorem dX7_seat_4 : decode cX7_seat 4 = .ok (.iload_n 1, 1) := by decide +kernel
theorem dX7_seat_5 : decode cX7_seat 5 = .ok (.iadd, 1) := by decide +kernel
theorem dX7_seat_6 : decode cX7_seat 6 = .ok (.aload_n 0, 1) := by decide +kernel
theorem dX7_seat_7 : decode cX7_seat 7 = .ok (.getfield 7, 3) := by decide +kernel
theorem dX7_seat_10 : decode cX7_seat 10 = .ok (.iconst 0, 1) := by decide +kernel
theorem dX7_seat_11 : decode cX7_seat 11 = .ok (.iaload, 1) := by decide +kernel
theorem dX7_seat_12 : decode cX7_seat 12 = .ok (.irem, 1) := by decide +kernel
theorem dX7_seat_13 : decode cX7_seat 13 = .ok (.ireturn, 1) := by decide +kernel
theorem dX7_isLastNext_0 : decode cX7_isLastNext 0 = .ok (.aload_n 0, 1) := by decide +kernel
theorem dX7_isLastNext_1 : decode cX7_isLastNext 1 = .ok (.getfield 7, 3) := by decide +kernel
theorem dX7_isLastNext_4 : decode cX7_isLastNext 4 = .ok (.iconst 1, 1) := by decide +kernel
theorem dX7_isLastNext_5 : decode cX7_isLastNext 5 = .ok (.iaload, 1) := by decide +kernel
theorem dX7_isLastNext_6 : decode cX7_isLastNext 6 = .ok (.ifCond .le 24, 3) := by decide +kernel
theorem dX7_isLastNext_9 : decode cX7_isLastNext 9 = .ok (.aload_n 0, 1) := by decide +kernel
theorem dX7_isLastNext_10 : decode cX7_isLastNext 10 = .ok (.getfield 7, 3) := by decide +kernel
theorem dX7_isLastNext_13 : decode cX7_isLastNext 13 = .ok (.iconst 2, 1) := by decide +kernel
theorem dX7_isLastNext_14 : decode cX7_isLastNext 14 = .ok (.iaload, 1) := by decide +kernel
theorem dX7_isLastNext_15 : decode cX7_isLastNext 15 = .ok (.aload_n 0, 1) := by decide +kernel
theorem dX7_isLastNext_16 : decode cX7_isLastNext 16 = .ok (.getfield 7, 3) := by decide +kernel
theorem dX7_isLastNext_19 : decode cX7_isLastNext 19 = .ok (.iconst 1, 1) := by decide +kernel
theorem dX7_isLastNext_20 : decode cX7_isLastNext 20 = .ok (.iaload, 1) := by decide +kernel
theorem dX7_isLastNext_21 : decode cX7_isLastNext 21 = .ok (.iconst 1, 1) := by decide +kernel
theorem dX7_isLastNext_22 : decode cX7_isLastNext 22 = .ok (.isub, 1) := by decide +kernel
theorem dX7_isLastNext_23 : decode cX7_isLastNext 23 = .ok (.if_icmp .ne 7, 3) := by decide +kernel
theorem dX7_isLastNext_26 : decode cX7_isLastNext 26 = .ok (.iconst 1, 1) := by decide +kernel
theorem dX7_isLastNext_27 : decode cX7_isLastNext 27 = .ok (.goto 4, 3) := by decide +kernel
theorem dX7_isLastNext_30 : decode cX7_isLastNext 30 = .ok (.iconst 0, 1) := by decide +kernel
theorem dX7_isLastNext_31 : decode cX7_isLastNext 31 = .ok (.ireturn, 1) := by decide +kernel
theorem dX7_begin_0 : decode cX7_begin 0 = .ok (.iload_n 1, 1) := by decide +kernel
theorem dX7_begin_1 : decode cX7_begin 1 = .ok (.iconst 0, 1) := by decide +kernel
theorem dX7_begin_2 : decode cX7_begin 2 = .ok (.iconst 2, 1) := by decide +kernel
theorem dX7_begin_3 : decode cX7_begin 3 = .ok (.invokestatic 43, 3) := by decide +kernel
theorem dX7_begin_6 : decode cX7_begin 6 = .ok (.ifCond .eq 14, 3) := by decide +kernel
theorem dX7_begin_9 : decode cX7_begin 9 = .ok (.iload_n 2, 1) := by decide +kernel
theorem dX7_begin_10 : decode cX7_begin 10 = .ok (.iconst 1, 1) := by decide +kernel
theorem dX7_begin_11 : decode cX7_begin 11 = .ok (.sipush 300, 3) := by decide +kernel
theorem dX7_begin_14 : decode cX7_begin 14 = .ok (.invokestatic 43, 3) := by decide +kernel
theorem dX7_begin_17 : decode cX7_begin 17 = .ok (.ifCond .ne 6, 3) := by decide +kernel
theorem dX7_begin_20 : decode cX7_begin 20 = .ok (.bipush (-2), 2) := by decide +kernel
theorem dX7_begin_22 : decode cX7_begin 22 = .ok (.ireturn, 1) := by decide +kernel
theorem dX7_begin_23 : decode cX7_begin 23 = .ok (.aload_n 0, 1) := by decide +kernel
theorem dX7_begin_24 : decode cX7_begin 24 = .ok (.invokevirtual 62, 3) := by decide +kernel
theorem dX7_begin_27 : decode cX7_begin 27 = .ok (.ifCond .ne 17, 3) := by decide +kernel
theorem dX7_begin_30 : decode cX7_begin 30 = .ok (.aload_n 0, 1) := by decide +kernel
theorem dX7_begin_31 : decode cX7_begin 31 = .ok (.invokevirtual 89, 3) := by decide +kernel
theorem dX7_begin_34 : decode cX7_begin 34 = .ok (.ifCond .lt 10, 3) := by decide +kernel
theorem dX7_begin_37 : decode cX7_begin 37 = .ok (.aload_n 0, 1) := by decide +kernel
theorem dX7_begin_38 : decode cX7_begin 38 = .ok (.invokevirtual 96, 3) := by decide +kernel
theorem dX7_begin_41 : decode cX7_begin 41 = .ok (.ifCond .eq 6, 3) := by decide +kernel
theorem dX7_begin_44 : decode cX7_begin 44 = .ok (.bipush (-5), 2) := by decide +kernel
theorem dX7_begin_46 : decode cX7_begin 46 = .ok (.ireturn, 1) := by decide +kernel
theorem dX7_begin_47 : decode cX7_begin 47 = .ok (.aload_n 0, 1) := by decide +kernel
theorem dX7_begin_48 : decode cX7_begin 48 = .ok (.iload_n 1, 1) := by decide +kernel
theorem dX7_begin_49 : decode cX7_begin 49 = .ok (.iload_n 2, 1) := by decide +kernel
theorem dX7_begin_50 : decode cX7_begin 50 = .ok (.invokevirtual 99, 3) := by decide +kernel
theorem dX7_begin_53 : decode cX7_begin 53 = .ok (.ireturn, 1) := by decide +kernel
theorem dX7_start_0 : decode cX7_start 0 = .ok (.aload_n 0, 1) := by decide +kernel
theorem dX7_start_1 : decode cX7_start 1 = .ok (.invokevirtual 55, 3) := by decide +kernel
theorem dX7_start_4 : decode cX7_start 4 = .ok (.aload_n 0, 1) := by decide +kernel
theorem dX7_start_5 : decode cX7_start 5 = .ok (.getfield 7, 3) := by decide +kernel
theorem dX7_start_8 : decode cX7_start 8 = .ok (.iconst 3, 1) := by decide +kernel
theorem dX7_start_9 : decode cX7_start 9 = .ok (.iconst 1, 1) := by decide +kernel
theorem dX7_start_10 : decode cX7_start 10 = .ok (.iastore, 1) := by decide +kernel
theorem dX7_start_11 : decode cX7_start 11 = .ok (.aload_n 0, 1) := by decide +kernel
theorem dX7_start_12 : decode cX7_start 12 = .ok (.getfield 7, 3) := by decide +kernel
theorem dX7_start_15 : decode cX7_start 15 = .ok (.iconst 4, 1) := by decide +kernel
theorem dX7_start_16 : decode cX7_start 16 = .ok (.iload_n 1, 1) := by decide +kernel
theorem dX7_start_17 : decode cX7_start 17 = .ok (.iastore, 1) := by decide +kernel
theorem dX7_start_18 : decode cX7_start 18 = .ok (.aload_n 0, 1) := by decide +kernel
theorem dX7_start_19 : decode cX7_start 19 = .ok (.getfield 7, 3) := by decide +kernel
theorem dX7_start_22 : decode cX7_start 22 = .ok (.iconst 5, 1) := by decide +kernel
theorem dX7_start_23 : decode cX7_start 23 = .ok (.iload_n 2, 1) := by decide +kernel
theorem dX7_start_24 : decode cX7_start 24 = .ok (.iastore, 1) := by decide +kernel
theorem dX7_start_25 : decode cX7_start 25 = .ok (.aload_n 0, 1) := by decide +kernel
theorem dX7_start_26 : decode cX7_start 26 = .ok (.getfield 7, 3) := by decide +kernel
theorem dX7_start_29 : decode cX7_start 29 = .ok (.bipush 8, 2) := by decide +kernel
theorem dX7_start_31 : decode cX7_start 31 = .ok (.iload_n 1, 1) := by decide +kernel
theorem dX7_start_32 : decode cX7_start 32 = .ok (.ifCond .ne 10, 3) := by decide +kernel
theorem dX7_start_35 : decode cX7_start 35 = .ok (.aload_n 0, 1) := by decide +kernel
theorem dX7_start_36 : decode cX7_start 36 = .ok (.invokevirtual 93, 3) := by decide +kernel
theorem dX7_start_39 : decode cX7_start 39 = .ok (.goto 5, 3) := by decide +kernel
theorem dX7_start_42 : decode cX7_start 42 = .ok (.bipush (-6), 2) := by decide +kernel
theorem dX7_start_44 : decode cX7_start 44 = .ok (.iastore, 1) := by decide +kernel
theorem dX7_start_45 : decode cX7_start 45 = .ok (.aload_n 0, 1) := by decide +kernel
theorem dX7_start_46 : decode cX7_start 46 = .ok (.invokevirtual 89, 3) := by decide +kernel
theorem dX7_start_49 : decode cX7_start 49 = .ok (.ireturn, 1) := by decide +kernel
theorem dX7_know_0 : decode cX7_know 0 = .ok (.aload_n 0, 1) := by decide +kernel
theorem dX7_know_1 : decode cX7_know 1 = .ok (.iload_n 1, 1) := by decide +kernel
theorem dX7_know_2 : decode cX7_know 2 = .ok (.iconst 3, 1) := by decide +kernel
theorem dX7_know_3 : decode cX7_know 3 = .ok (.iload_n 2, 1) := by decide +kernel
theorem dX7_know_4 : decode cX7_know 4 = .ok (.aload_n 0, 1) := by decide +kernel
theorem dX7_know_5 : decode cX7_know 5 = .ok (.iload_n 1, 1) := by decide +kernel
theorem dX7_know_6 : decode cX7_know 6 = .ok (.iconst 3, 1) := by decide +kernel
theorem dX7_know_7 : decode cX7_know 7 = .ok (.invokevirtual 70, 3) := by decide +kernel
theorem dX7_know_10 : decode cX7_know 10 = .ok (.if_icmp .le 7, 3) := by decide +kernel
theorem dX7_know_13 : decode cX7_know 13 = .ok (.iload_n 2, 1) := by decide +kernel
theorem dX7_know_14 : decode cX7_know 14 = .ok (.goto 9, 3) := by decide +kernel
theorem dX7_know_17 : decode cX7_know 17 = .ok (.aload_n 0, 1) := by decide +kernel
theorem dX7_know_18 : decode cX7_know 18 = .ok (.iload_n 1, 1) := by decide +kernel
theorem dX7_know_19 : decode cX7_know 19 = .ok (.iconst 3, 1) := by decide +kernel
theorem dX7_know_20 : decode cX7_know 20 = .ok (.invokevirtual 70, 3) := by decide +kernel
theorem dX7_know_23 : decode cX7_know 23 = .ok (.invokevirtual 47, 3) := by decide +kernel
theorem dX7_know_26 : decode cX7_know 26 = .ok (.return_, 1) := by decide +kernel
theorem dX7_pay_0 : decode cX7_pay 0 = .ok (.aload_n 0, 1) := by decide +kernel
theorem dX7_pay_1 : decode cX7_pay 1 = .ok (.iload_n 1, 1) := by decide +kernel
theorem dX7_pay_2 : decode cX7_pay 2 = .ok (.iconst 0, 1) := by decide +kernel
theorem dX7_pay_3 : decode cX7_pay 3 = .ok (.aload_n 0, 1) := by decide +kernel
theorem dX7_pay_4 : decode cX7_pay 4 = .ok (.iload_n 1, 1) := by decide +kernel
theorem dX7_pay_5 : decode cX7_pay 5 = .ok (.iconst 0, 1) := by decide +kernel
theorem dX7_pay_6 : decode cX7_pay 6 = .ok (.invokevirtual 70, 3) := by decide +kernel
theorem dX7_pay_9 : decode cX7_pay 9 = .ok (.iload_n 2, 1) := by decide +kernel
theorem dX7_pay_10 : decode cX7_pay 10 = .ok (.isub, 1) := by decide +kernel
theorem dX7_pay_11 : decode cX7_pay 11 = .ok (.invokevirtual 47, 3) := by decide +kernel
theorem dX7_pay_14 : decode cX7_pay 14 = .ok (.aload_n 0, 1) := by decide +kernel
theorem dX7_pay_15 : decode cX7_pay 15 = .ok (.iload_n 1, 1) := by decide +kernel
theorem dX7_pay_16 : decode cX7_pay 16 = .ok (.iconst 2, 1) := by decide +kernel
theorem dX7_pay_17 : decode cX7_pay 17 = .ok (.aload_n 0, 1) := by decide +kernel
theorem dX7_pay_18 : decode cX7_pay 18 = .ok (.iload_n 1, 1) := by decide +kernel
theorem dX7_pay_19 : decode cX7_pay 19 = .ok (.iconst 2, 1) := by decide +kernel
theorem dX7_pay_20 : decode cX7_pay 20 = .ok (.invokevirtual 70, 3) := by decide +kernel
theorem dX7_pay_23 : decode cX7_pay 23 = .ok (.iload_n 2, 1) := by decide +kernel
theorem dX7_pay_24 : decode cX7_pay 24 = .ok (.iadd, 1) := by decide +kernel
theorem dX7_pay_25 : decode cX7_pay 25 = .ok (.invokevirtual 47, 3) := by decide +kernel
theorem dX7_pay_28 : decode cX7_pay 28 = .ok (.aload_n 0, 1) := by decide +kernel
theorem dX7_pay_29 : decode cX7_pay 29 = .ok (.iload_n 1, 1) := by decide +kernel
theorem dX7_pay_30 : decode cX7_pay 30 = .ok (.iconst 3, 1) := by decide +kernel
theorem dX7_pay_31 : decode cX7_pay 31 = .ok (.aload_n 0, 1) := by decide +kernel
theorem dX7_pay_32 : decode cX7_pay 32 = .ok (.iload_n 1, 1) := by decide +kernel
theorem dX7_pay_33 : decode cX7_pay 33 = .ok (.iconst 3, 1) := by decide +kernel
theorem dX7_pay_34 : decode cX7_pay 34 = .ok (.invokevirtual 70, 3) := by decide +kernel
theorem dX7_pay_37 : decode cX7_pay 37 = .ok (.iload_n 2, 1) := by decide +kernel
theorem dX7_pay_38 : decode cX7_pay 38 = .ok (.if_icmp .le 14, 3) := by decide +kernel
theorem dX7_pay_41 : decode cX7_pay 41 = .ok (.aload_n 0, 1) := by decide +kernel
theorem dX7_pay_42 : decode cX7_pay 42 = .ok (.iload_n 1, 1) := by decide +kernel
theorem dX7_pay_43 : decode cX7_pay 43 = .ok (.iconst 3, 1) := by decide +kernel
theorem dX7_pay_44 : decode cX7_pay 44 = .ok (.invokevirtual 70, 3) := by decide +kernel
theorem dX7_pay_47 : decode cX7_pay 47 = .ok (.iload_n 2, 1) := by decide +kernel
theorem dX7_pay_48 : decode cX7_pay 48 = .ok (.isub, 1) := by decide +kernel
theorem dX7_pay_49 : decode cX7_pay 49 = .ok (.goto 4, 3) := by decide +kernel
theorem dX7_pay_52 : decode cX7_pay 52 = .ok (.iconst 0, 1) := by decide +kernel
theorem dX7_pay_53 : decode cX7_pay 53 = .ok (.invokevirtual 47, 3) := by decide +kernel
theorem dX7_pay_56 : decode cX7_pay 56 = .ok (.aload_n 0, 1) := by decide +kernel
theorem dX7_pay_57 : decode cX7_pay 57 = .ok (.iload_n 1, 1) := by decide +kernel
theorem dX7_pay_58 : decode cX7_pay 58 = .ok (.iconst 4, 1) := by decide +kernel
theorem dX7_pay_59 : decode cX7_pay 59 = .ok (.aload_n 0, 1) := by decide +kernel
theorem dX7_pay_60 : decode cX7_pay 60 = .ok (.iload_n 1, 1) := by decide +kernel
theorem dX7_pay_61 : decode cX7_pay 61 = .ok (.iconst 4, 1) := by decide +kernel
theorem dX7_pay_62 : decode cX7_pay 62 = .ok (.invokevirtual 70, 3) := by decide +kernel
theorem dX7_pay_65 : decode cX7_pay 65 = .ok (.iload_n 2, 1) := by decide +kernel
theorem dX7_pay_66 : decode cX7_pay 66 = .ok (.isub, 1) := by decide +kernel
theorem dX7_pay_67 : decode cX7_pay 67 = .ok (.invokevirtual 47, 3) := by decide +kernel
theorem dX7_pay_70 : decode cX7_pay 70 = .ok (.return_, 1) := by decide +kernel
theorem dX7_finish_0 : decode cX7_finish 0 = .ok (.aload_n 0, 1) := by decide +kernel
theorem dX7_finish_1 : decode cX7_finish 1 = .ok (.invokevirtual 89, 3) := by decide +kernel
theorem dX7_finish_4 : decode cX7_finish 4 = .ok (.istore_n 3, 1) := by decide +kernel
theorem dX7_finish_5 : decode cX7_finish 5 = .ok (.aload_n 0, 1) := by decide +kernel
theorem dX7_finish_6 : decode cX7_finish 6 = .ok (.iload_n 3, 1) := by decide +kernel
theorem dX7_finish_7 : decode cX7_finish 7 = .ok (.iconst 2, 1) := by decide +kernel
theorem dX7_finish_8 : decode cX7_finish 8 = .ok (.iload_n 1, 1) := by decide +kernel
theorem dX7_finish_9 : decode cX7_finish 9 = .ok (.invokevirtual 74, 3) := by decide +kernel
theorem dX7_finish_12 : decode cX7_finish 12 = .ok (.aload_n 0, 1) := by decide +kernel
theorem dX7_finish_13 : decode cX7_finish 13 = .ok (.iload_n 3, 1) := by decide +kernel
theorem dX7_finish_14 : decode cX7_finish 14 = .ok (.iconst 3, 1) := by decide +kernel
theorem dX7_finish_15 : decode cX7_finish 15 = .ok (.iload_n 1, 1) := by decide +kernel
theorem dX7_finish_16 : decode cX7_finish 16 = .ok (.ifCond .ne 8, 3) := by decide +kernel
theorem dX7_finish_19 : decode cX7_finish 19 = .ok (.bipush (-6), 2) := by decide +kernel
theorem dX7_finish_21 : decode cX7_finish 21 = .ok (.goto 4, 3) := by decide +kernel
theorem dX7_finish_24 : decode cX7_finish 24 = .ok (.iload_n 2, 1) := by decide +kernel
theorem dX7_finish_25 : decode cX7_finish 25 = .ok (.invokevirtual 74, 3) := by decide +kernel
theorem dX7_finish_28 : decode cX7_finish 28 = .ok (.aload_n 0, 1) := by decide +kernel
theorem dX7_finish_29 : decode cX7_finish 29 = .ok (.iload_n 3, 1) := by decide +kernel
theorem dX7_finish_30 : decode cX7_finish 30 = .ok (.iconst 4, 1) := by decide +kernel
theorem dX7_finish_31 : decode cX7_finish 31 = .ok (.iload_n 1, 1) := by decide +kernel
theorem dX7_finish_32 : decode cX7_finish 32 = .ok (.ifCond .ne 7, 3) := by decide +kernel
theorem dX7_finish_35 : decode cX7_finish 35 = .ok (.iconst 2, 1) := by decide +kernel
theorem dX7_finish_36 : decode cX7_finish 36 = .ok (.goto 4, 3) := by decide +kernel
theorem dX7_finish_39 : decode cX7_finish 39 = .ok (.iconst 1, 1) := by decide +kernel
theorem dX7_finish_40 : decode cX7_finish 40 = .ok (.invokevirtual 74, 3) := by decide +kernel
theorem dX7_finish_43 : decode cX7_finish 43 = .ok (.aload_n 0, 1) := by decide +kernel
theorem dX7_finish_44 : decode cX7_finish 44 = .ok (.invokevirtual 55, 3) := by decide +kernel
theorem dX7_finish_47 : decode cX7_finish 47 = .ok (.aload_n 0, 1) := by decide +kernel
theorem dX7_finish_48 : decode cX7_finish 48 = .ok (.getfield 7, 3) := by decide +kernel
theorem dX7_finish_51 : decode cX7_finish 51 = .ok (.iconst 2, 1) := by decide +kernel
theorem dX7_finish_52 : decode cX7_finish 52 = .ok (.dup2, 1) := by decide +kernel
theorem dX7_finish_53 : decode cX7_finish 53 = .ok (.iaload, 1) := by decide +kernel
theorem dX7_finish_54 : decode cX7_finish 54 = .ok (.iconst 1, 1) := by decide +kernel
theorem dX7_finish_55 : decode cX7_finish 55 = .ok (.iadd, 1) := by decide +kernel
theorem dX7_finish_56 : decode cX7_finish 56 = .ok (.iastore, 1) := by decide +kernel
theorem dX7_finish_57 : decode cX7_finish 57 = .ok (.iload_n 1, 1) := by decide +kernel
theorem dX7_finish_58 : decode cX7_finish 58 = .ok (.ireturn, 1) := by decide +kernel
theorem dX7_sellTo_0 : decode cX7_sellTo 0 = .ok (.iload_n 1, 1) := by decide +kernel
theorem dX7_sellTo_1 : decode cX7_sellTo 1 = .ok (.ifCond .ge 11, 3) := by decide +kernel
theorem dX7_sellTo_4 : decode cX7_sellTo 4 = .ok (.aload_n 0, 1) := by decide +kernel
theorem dX7_sellTo_5 : decode cX7_sellTo 5 = .ok (.iconst 0, 1) := by decide +kernel
theorem dX7_sellTo_6 : decode cX7_sellTo 6 = .ok (.bipush (-6), 2) := by decide +kernel
theorem dX7_sellTo_8 : decode cX7_sellTo 8 = .ok (.invokevirtual 102, 3) := by decide +kernel
theorem dX7_sellTo_11 : decode cX7_sellTo 11 = .ok (.ireturn, 1) := by decide +kernel
theorem dX7_sellTo_12 : decode cX7_sellTo 12 = .ok (.aload_n 0, 1) := by decide +kernel
theorem dX7_sellTo_13 : decode cX7_sellTo 13 = .ok (.iload_n 1, 1) := by decide +kernel
theorem dX7_sellTo_14 : decode cX7_sellTo 14 = .ok (.iload_n 2, 1) := by decide +kernel
theorem dX7_sellTo_15 : decode cX7_sellTo 15 = .ok (.invokevirtual 105, 3) := by decide +kernel
theorem dX7_sellTo_18 : decode cX7_sellTo 18 = .ok (.aload_n 0, 1) := by decide +kernel
theorem dX7_sellTo_19 : decode cX7_sellTo 19 = .ok (.iconst 1, 1) := by decide +kernel
theorem dX7_sellTo_20 : decode cX7_sellTo 20 = .ok (.iload_n 1, 1) := by decide +kernel
theorem dX7_sellTo_21 : decode cX7_sellTo 21 = .ok (.ishl, 1) := by decide +kernel
theorem dX7_sellTo_22 : decode cX7_sellTo 22 = .ok (.iload_n 2, 1) := by decide +kernel
theorem dX7_sellTo_23 : decode cX7_sellTo 23 = .ok (.invokevirtual 102, 3) := by decide +kernel
theorem dX7_sellTo_26 : decode cX7_sellTo 26 = .ok (.ireturn, 1) := by decide +kernel
theorem dX7_goOn_0 : decode cX7_goOn 0 = .ok (.bipush (-6), 2) := by decide +kernel
theorem dX7_goOn_2 : decode cX7_goOn 2 = .ok (.istore_n 2, 1) := by decide +kernel
theorem dX7_goOn_3 : decode cX7_goOn 3 = .ok (.aload_n 0, 1) := by decide +kernel
theorem dX7_goOn_4 : decode cX7_goOn 4 = .ok (.getfield 7, 3) := by decide +kernel
theorem dX7_goOn_7 : decode cX7_goOn 7 = .ok (.iconst 0, 1) := by decide +kernel
theorem dX7_goOn_8 : decode cX7_goOn 8 = .ok (.iaload, 1) := by decide +kernel
theorem dX7_goOn_9 : decode cX7_goOn 9 = .ok (.iconst 1, 1) := by decide +kernel
theorem dX7_goOn_10 : decode cX7_goOn 10 = .ok (.isub, 1) := by decide +kernel
theorem dX7_goOn_11 : decode cX7_goOn 11 = .ok (.istore_n 3, 1) := by decide +kernel
theorem dX7_goOn_12 : decode cX7_goOn 12 = .ok (.iload_n 3, 1) := by decide +kernel
theorem dX7_goOn_13 : decode cX7_goOn 13 = .ok (.iconst 1, 1) := by decide +kernel
theorem dX7_goOn_14 : decode cX7_goOn 14 = .ok (.if_icmp .lt 51, 3) := by decide +kernel
theorem dX7_goOn_17 : decode cX7_goOn 17 = .ok (.iload_n 1, 1) := by decide +kernel
theorem dX7_goOn_18 : decode cX7_goOn 18 = .ok (.iload_n 3, 1) := by decide +kernel
theorem dX7_goOn_19 : decode cX7_goOn 19 = .ok (.iadd, 1) := by decide +kernel
theorem dX7_goOn_20 : decode cX7_goOn 20 = .ok (.aload_n 0, 1) := by decide +kernel
theorem dX7_goOn_21 : decode cX7_goOn 21 = .ok (.getfield 7, 3) := by decide +kernel
theorem dX7_goOn_24 : decode cX7_goOn 24 = .ok (.iconst 0, 1) := by decide +kernel
theorem dX7_goOn_25 : decode cX7_goOn 25 = .ok (.iaload, 1) := by decide +kernel
theorem dX7_goOn_26 : decode cX7_goOn 26 = .ok (.irem, 1) := by decide +kernel
theorem dX7_goOn_27 : decode cX7_goOn 27 = .ok (.istore 4, 2) := by decide +kernel
theorem dX7_goOn_29 : decode cX7_goOn 29 = .ok (.aload_n 0, 1) := by decide +kernel
theorem dX7_goOn_30 : decode cX7_goOn 30 = .ok (.iload 4, 2) := by decide +kernel
theorem dX7_goOn_32 : decode cX7_goOn 32 = .ok (.bipush 6, 2) := by decide +kernel
theorem dX7_goOn_34 : decode cX7_goOn 34 = .ok (.invokevirtual 70, 3) := by decide +kernel
theorem dX7_goOn_37 : decode cX7_goOn 37 = .ok (.ifCond .ne 20, 3) := by decide +kernel
theorem dX7_goOn_40 : decode cX7_goOn 40 = .ok (.iload 4, 2) := by decide +kernel
theorem dX7_goOn_42 : decode cX7_goOn 42 = .ok (.aload_n 0, 1) := by decide +kernel
theorem dX7_goOn_43 : decode cX7_goOn 43 = .ok (.getfield 7, 3) := by decide +kernel
theorem dX7_goOn_46 : decode cX7_goOn 46 = .ok (.bipush 7, 2) := by decide +kernel
theorem dX7_goOn_48 : decode cX7_goOn 48 = .ok (.iaload, 1) := by decide +kernel
theorem dX7_goOn_49 : decode cX7_goOn 49 = .ok (.if_icmp .eq 8, 3) := by decide +kernel
theorem dX7_goOn_52 : decode cX7_goOn 52 = .ok (.iload 4, 2) := by decide +kernel
theorem dX7_goOn_54 : decode cX7_goOn 54 = .ok (.goto 4, 3) := by decide +kernel
theorem dX7_goOn_57 : decode cX7_goOn 57 = .ok (.iload_n 2, 1) := by decide +kernel
theorem dX7_goOn_58 : decode cX7_goOn 58 = .ok (.istore_n 2, 1) := by decide +kernel
theorem dX7_goOn_59 : decode cX7_goOn 59 = .ok (.iinc 3 (-1), 3) := by decide +kernel
theorem dX7_goOn_62 : decode cX7_goOn 62 = .ok (.goto (-50), 3) := by decide +kernel
theorem dX7_goOn_65 : decode cX7_goOn 65 = .ok (.iload_n 2, 1) := by decide +kernel
theorem dX7_goOn_66 : decode cX7_goOn 66 = .ok (.ifCond .lt 18, 3) := by decide +kernel
theorem dX7_goOn_69 : decode cX7_goOn 69 = .ok (.aload_n 0, 1) := by decide +kernel
theorem dX7_goOn_70 : decode cX7_goOn 70 = .ok (.getfield 7, 3) := by decide +kernel
theorem dX7_goOn_73 : decode cX7_goOn 73 = .ok (.bipush 9, 2) := by decide +kernel
theorem dX7_goOn_75 : decode cX7_goOn 75 = .ok (.iaload, 1) := by decide +kernel
theorem dX7_goOn_76 : decode cX7_goOn 76 = .ok (.aload_n 0, 1) := by decide +kernel
theorem dX7_goOn_77 : decode cX7_goOn 77 = .ok (.iconst 2, 1) := by decide +kernel
theorem dX7_goOn_78 : decode cX7_goOn 78 = .ok (.invokevirtual 51, 3) := by decide +kernel
theorem dX7_goOn_81 : decode cX7_goOn 81 = .ok (.if_icmp .lt 22, 3) := by decide +kernel
theorem dX7_goOn_84 : decode cX7_goOn 84 = .ok (.aload_n 0, 1) := by decide +kernel
theorem dX7_goOn_85 : decode cX7_goOn 85 = .ok (.aload_n 0, 1) := by decide +kernel
theorem dX7_goOn_86 : decode cX7_goOn 86 = .ok (.getfield 7, 3) := by decide +kernel
theorem dX7_goOn_89 : decode cX7_goOn 89 = .ok (.bipush 7, 2) := by decide +kernel
theorem dX7_goOn_91 : decode cX7_goOn 91 = .ok (.iaload, 1) := by decide +kernel
theorem dX7_goOn_92 : decode cX7_goOn 92 = .ok (.aload_n 0, 1) := by decide +kernel
theorem dX7_goOn_93 : decode cX7_goOn 93 = .ok (.getfield 7, 3) := by decide +kernel
theorem dX7_goOn_96 : decode cX7_goOn 96 = .ok (.bipush 6, 2) := by decide +kernel
theorem dX7_goOn_98 : decode cX7_goOn 98 = .ok (.iaload, 1) := by decide +kernel
theorem dX7_goOn_99 : decode cX7_goOn 99 = .ok (.invokevirtual 109, 3) := by decide +kernel
theorem dX7_goOn_102 : decode cX7_goOn 102 = .ok (.ireturn, 1) := by decide +kernel
theorem dX7_goOn_103 : decode cX7_goOn 103 = .ok (.aload_n 0, 1) := by decide +kernel
theorem dX7_goOn_104 : decode cX7_goOn 104 = .ok (.getfield 7, 3) := by decide +kernel
theorem dX7_goOn_107 : decode cX7_goOn 107 = .ok (.bipush 8, 2) := by decide +kernel
theorem dX7_goOn_109 : decode cX7_goOn 109 = .ok (.iload_n 2, 1) := by decide +kernel
theorem dX7_goOn_110 : decode cX7_goOn 110 = .ok (.iastore, 1) := by decide +kernel
theorem dX7_goOn_111 : decode cX7_goOn 111 = .ok (.bipush (-6), 2) := by decide +kernel
theorem dX7_goOn_113 : decode cX7_goOn 113 = .ok (.ireturn, 1) := by decide +kernel
theorem dX7_leastOpen_0 : decode cX7_leastOpen 0 = .ok (.aload_n 0, 1) := by decide +kernel
theorem dX7_leastOpen_1 : decode cX7_leastOpen 1 = .ok (.getfield 7, 3) := by decide +kernel
theorem dX7_leastOpen_4 : decode cX7_leastOpen 4 = .ok (.bipush 6, 2) := by decide +kernel
theorem dX7_leastOpen_6 : decode cX7_leastOpen 6 = .ok (.iaload, 1) := by decide +kernel
theorem dX7_leastOpen_7 : decode cX7_leastOpen 7 = .ok (.ifCond .ge 12, 3) := by decide +kernel
theorem dX7_leastOpen_10 : decode cX7_leastOpen 10 = .ok (.aload_n 0, 1) := by decide +kernel
theorem dX7_leastOpen_11 : decode cX7_leastOpen 11 = .ok (.getfield 7, 3) := by decide +kernel
theorem dX7_leastOpen_14 : decode cX7_leastOpen 14 = .ok (.iconst 5, 1) := by decide +kernel
theorem dX7_leastOpen_15 : decode cX7_leastOpen 15 = .ok (.iaload, 1) := by decide +kernel
theorem dX7_leastOpen_16 : decode cX7_leastOpen 16 = .ok (.goto 16, 3) := by decide +kernel
theorem dX7_leastOpen_19 : decode cX7_leastOpen 19 = .ok (.aload_n 0, 1) := by decide +kernel
theorem dX7_leastOpen_20 : decode cX7_leastOpen 20 = .ok (.getfield 7, 3) := by decide +kernel
theorem dX7_leastOpen_23 : decode cX7_leastOpen 23 = .ok (.bipush 6, 2) := by decide +kernel
theorem dX7_leastOpen_25 : decode cX7_leastOpen 25 = .ok (.iaload, 1) := by decide +kernel
theorem dX7_leastOpen_26 : decode cX7_leastOpen 26 = .ok (.aload_n 0, 1) := by decide +kernel
theorem dX7_leastOpen_27 : decode cX7_leastOpen 27 = .ok (.iconst 1, 1) := by decide +kernel
theorem dX7_leastOpen_28 : decode cX7_leastOpen 28 = .ok (.invokevirtual 51, 3) := by decide +kernel
theorem dX7_leastOpen_31 : decode cX7_leastOpen 31 = .ok (.iadd, 1) := by decide +kernel
theorem dX7_leastOpen_32 : decode cX7_leastOpen 32 = .ok (.ireturn, 1) := by decide +kernel
theorem dX7_bidOpen_0 : decode cX7_bidOpen 0 = .ok (.aload_n 0, 1) := by decide +kernel
theorem dX7_bidOpen_1 : decode cX7_bidOpen 1 = .ok (.iload_n 1, 1) := by decide +kernel
theorem dX7_bidOpen_2 : decode cX7_bidOpen 2 = .ok (.iload_n 2, 1) := by decide +kernel
theorem dX7_bidOpen_3 : decode cX7_bidOpen 3 = .ok (.invokevirtual 112, 3) := by decide +kernel
theorem dX7_bidOpen_6 : decode cX7_bidOpen 6 = .ok (.aload_n 0, 1) := by decide +kernel
theorem dX7_bidOpen_7 : decode cX7_bidOpen 7 = .ok (.iload_n 1, 1) := by decide +kernel
theorem dX7_bidOpen_8 : decode cX7_bidOpen 8 = .ok (.iconst 5, 1) := by decide +kernel
theorem dX7_bidOpen_9 : decode cX7_bidOpen 9 = .ok (.iload_n 2, 1) := by decide +kernel
theorem dX7_bidOpen_10 : decode cX7_bidOpen 10 = .ok (.invokevirtual 47, 3) := by decide +kernel
theorem dX7_bidOpen_13 : decode cX7_bidOpen 13 = .ok (.aload_n 0, 1) := by decide +kernel
theorem dX7_bidOpen_14 : decode cX7_bidOpen 14 = .ok (.getfield 7, 3) := by decide +kernel
theorem dX7_bidOpen_17 : decode cX7_bidOpen 17 = .ok (.bipush 6, 2) := by decide +kernel
theorem dX7_bidOpen_19 : decode cX7_bidOpen 19 = .ok (.iload_n 2, 1) := by decide +kernel
theorem dX7_bidOpen_20 : decode cX7_bidOpen 20 = .ok (.iastore, 1) := by decide +kernel
theorem dX7_bidOpen_21 : decode cX7_bidOpen 21 = .ok (.aload_n 0, 1) := by decide +kernel
theorem dX7_bidOpen_22 : decode cX7_bidOpen 22 = .ok (.getfield 7, 3) := by decide +kernel
theorem dX7_bidOpen_25 : decode cX7_bidOpen 25 = .ok (.bipush 7, 2) := by decide +kernel
theorem dX7_bidOpen_27 : decode cX7_bidOpen 27 = .ok (.iload_n 1, 1) := by decide +kernel
theorem dX7_bidOpen_28 : decode cX7_bidOpen 28 = .ok (.iastore, 1) := by decide +kernel
theorem dX7_bidOpen_29 : decode cX7_bidOpen 29 = .ok (.aload_n 0, 1) := by decide +kernel
theorem dX7_bidOpen_30 : decode cX7_bidOpen 30 = .ok (.getfield 7, 3) := by decide +kernel
theorem dX7_bidOpen_33 : decode cX7_bidOpen 33 = .ok (.bipush 9, 2) := by decide +kernel
theorem dX7_bidOpen_35 : decode cX7_bidOpen 35 = .ok (.dup2, 1) := by decide +kernel
theorem dX7_bidOpen_36 : decode cX7_bidOpen 36 = .ok (.iaload, 1) := by decide +kernel
theorem dX7_bidOpen_37 : decode cX7_bidOpen 37 = .ok (.iconst 1, 1) := by decide +kernel
theorem dX7_bidOpen_38 : decode cX7_bidOpen 38 = .ok (.iadd, 1) := by decide +kernel
theorem dX7_bidOpen_39 : decode cX7_bidOpen 39 = .ok (.iastore, 1) := by decide +kernel
theorem dX7_bidOpen_40 : decode cX7_bidOpen 40 = .ok (.aload_n 0, 1) := by decide +kernel
theorem dX7_bidOpen_41 : decode cX7_bidOpen 41 = .ok (.iload_n 1, 1) := by decide +kernel
theorem dX7_bidOpen_42 : decode cX7_bidOpen 42 = .ok (.invokevirtual 115, 3) := by decide +kernel
theorem dX7_bidOpen_45 : decode cX7_bidOpen 45 = .ok (.ireturn, 1) := by decide +kernel
theorem dX7_passOpen_0 : decode cX7_passOpen 0 = .ok (.aload_n 0, 1) := by decide +kernel
theorem dX7_passOpen_1 : decode cX7_passOpen 1 = .ok (.iload_n 1, 1) := by decide +kernel
theorem dX7_passOpen_2 : decode cX7_passOpen 2 = .ok (.bipush 6, 2) := by decide +kernel
theorem dX7_passOpen_4 : decode cX7_passOpen 4 = .ok (.iconst 1, 1) := by decide +kernel
theorem dX7_passOpen_5 : decode cX7_passOpen 5 = .ok (.invokevirtual 47, 3) := by decide +kernel
theorem dX7_passOpen_8 : decode cX7_passOpen 8 = .ok (.aload_n 0, 1) := by decide +kernel
theorem dX7_passOpen_9 : decode cX7_passOpen 9 = .ok (.iload_n 1, 1) := by decide +kernel
theorem dX7_passOpen_10 : decode cX7_passOpen 10 = .ok (.invokevirtual 115, 3) := by decide +kernel
theorem dX7_passOpen_13 : decode cX7_passOpen 13 = .ok (.ireturn, 1) := by decide +kernel
theorem dX7_bidSealed_0 : decode cX7_bidSealed 0 = .ok (.aload_n 0, 1) := by decide +kernel
theorem dX7_bidSealed_1 : decode cX7_bidSealed 1 = .ok (.iload_n 1, 1) := by decide +kernel
theorem dX7_bidSealed_2 : decode cX7_bidSealed 2 = .ok (.iconst 5, 1) := by decide +kernel
theorem dX7_bidSealed_3 : decode cX7_bidSealed 3 = .ok (.iload_n 2, 1) := by decide +kernel
theorem dX7_bidSealed_4 : decode cX7_bidSealed 4 = .ok (.invokevirtual 47, 3) := by decide +kernel
theorem dX7_bidSealed_7 : decode cX7_bidSealed 7 = .ok (.aload_n 0, 1) := by decide +kernel
theorem dX7_bidSealed_8 : decode cX7_bidSealed 8 = .ok (.getfield 7, 3) := by decide +kernel
theorem dX7_bidSealed_11 : decode cX7_bidSealed 11 = .ok (.bipush 9, 2) := by decide +kernel
theorem dX7_bidSealed_13 : decode cX7_bidSealed 13 = .ok (.dup2, 1) := by decide +kernel
theorem dX7_bidSealed_14 : decode cX7_bidSealed 14 = .ok (.iaload, 1) := by decide +kernel
theorem dX7_bidSealed_15 : decode cX7_bidSealed 15 = .ok (.iconst 1, 1) := by decide +kernel
theorem dX7_bidSealed_16 : decode cX7_bidSealed 16 = .ok (.iadd, 1) := by decide +kernel
theorem dX7_bidSealed_17 : decode cX7_bidSealed 17 = .ok (.iastore, 1) := by decide +kernel
theorem dX7_bidSealed_18 : decode cX7_bidSealed 18 = .ok (.aload_n 0, 1) := by decide +kernel
theorem dX7_bidSealed_19 : decode cX7_bidSealed 19 = .ok (.getfield 7, 3) := by decide +kernel
theorem dX7_bidSealed_22 : decode cX7_bidSealed 22 = .ok (.bipush 9, 2) := by decide +kernel
theorem dX7_bidSealed_24 : decode cX7_bidSealed 24 = .ok (.iaload, 1) := by decide +kernel
theorem dX7_bidSealed_25 : decode cX7_bidSealed 25 = .ok (.aload_n 0, 1) := by decide +kernel
theorem dX7_bidSealed_26 : decode cX7_bidSealed 26 = .ok (.getfield 7, 3) := by decide +kernel
theorem dX7_bidSealed_29 : decode cX7_bidSealed 29 = .ok (.iconst 0, 1) := by decide +kernel
theorem dX7_bidSealed_30 : decode cX7_bidSealed 30 = .ok (.iaload, 1) := by decide +kernel
theorem dX7_bidSealed_31 : decode cX7_bidSealed 31 = .ok (.if_icmp .ne 10, 3) := by decide +kernel
theorem dX7_bidSealed_34 : decode cX7_bidSealed 34 = .ok (.aload_n 0, 1) := by decide +kernel
theorem dX7_bidSealed_35 : decode cX7_bidSealed 35 = .ok (.invokevirtual 118, 3) := by decide +kernel
theorem dX7_bidSealed_38 : decode cX7_bidSealed 38 = .ok (.goto 5, 3) := by decide +kernel
theorem dX7_bidSealed_41 : decode cX7_bidSealed 41 = .ok (.bipush (-6), 2) := by decide +kernel
theorem dX7_bidSealed_43 : decode cX7_bidSealed 43 = .ok (.ireturn, 1) := by decide +kernel
theorem dX7_openSealed_0 : decode cX7_openSealed 0 = .ok (.iconst 0, 1) := by decide +kernel
theorem dX7_openSealed_1 : decode cX7_openSealed 1 = .ok (.istore_n 1, 1) := by decide +kernel
theorem dX7_openSealed_2 : decode cX7_openSealed 2 = .ok (.iconst 0, 1) := by decide +kernel
theorem dX7_openSealed_3 : decode cX7_openSealed 3 = .ok (.istore_n 2, 1) := by decide +kernel
theorem dX7_openSealed_4 : decode cX7_openSealed 4 = .ok (.iload_n 2, 1) := by decide +kernel
theorem dX7_openSealed_5 : decode cX7_openSealed 5 = .ok (.aload_n 0, 1) := by decide +kernel
theorem dX7_openSealed_6 : decode cX7_openSealed 6 = .ok (.getfield 7, 3) := by decide +kernel
theorem dX7_openSealed_9 : decode cX7_openSealed 9 = .ok (.iconst 0, 1) := by decide +kernel
theorem dX7_openSealed_10 : decode cX7_openSealed 10 = .ok (.iaload, 1) := by decide +kernel
theorem dX7_openSealed_11 : decode cX7_openSealed 11 = .ok (.if_icmp .ge 41, 3) := by decide +kernel
theorem dX7_openSealed_14 : decode cX7_openSealed 14 = .ok (.aload_n 0, 1) := by decide +kernel
theorem dX7_openSealed_15 : decode cX7_openSealed 15 = .ok (.iload_n 2, 1) := by decide +kernel
theorem dX7_openSealed_16 : decode cX7_openSealed 16 = .ok (.aload_n 0, 1) := by decide +kernel
theorem dX7_openSealed_17 : decode cX7_openSealed 17 = .ok (.iload_n 2, 1) := by decide +kernel
theorem dX7_openSealed_18 : decode cX7_openSealed 18 = .ok (.iconst 5, 1) := by decide +kernel
theorem dX7_openSealed_19 : decode cX7_openSealed 19 = .ok (.invokevirtual 70, 3) := by decide +kernel
theorem dX7_openSealed_22 : decode cX7_openSealed 22 = .ok (.invokevirtual 112, 3) := by decide +kernel
theorem dX7_openSealed_25 : decode cX7_openSealed 25 = .ok (.aload_n 0, 1) := by decide +kernel
theorem dX7_openSealed_26 : decode cX7_openSealed 26 = .ok (.iload_n 2, 1) := by decide +kernel
theorem dX7_openSealed_27 : decode cX7_openSealed 27 = .ok (.iconst 5, 1) := by decide +kernel
theorem dX7_openSealed_28 : decode cX7_openSealed 28 = .ok (.invokevirtual 70, 3) := by decide +kernel
theorem dX7_openSealed_31 : decode cX7_openSealed 31 = .ok (.iload_n 1, 1) := by decide +kernel
theorem dX7_openSealed_32 : decode cX7_openSealed 32 = .ok (.if_icmp .le 12, 3) := by decide +kernel
theorem dX7_openSealed_35 : decode cX7_openSealed 35 = .ok (.aload_n 0, 1) := by decide +kernel
theorem dX7_openSealed_36 : decode cX7_openSealed 36 = .ok (.iload_n 2, 1) := by decide +kernel
theorem dX7_openSealed_37 : decode cX7_openSealed 37 = .ok (.iconst 5, 1) := by decide +kernel
theorem dX7_openSealed_38 : decode cX7_openSealed 38 = .ok (.invokevirtual 70, 3) := by decide +kernel
theorem dX7_openSealed_41 : decode cX7_openSealed 41 = .ok (.goto 4, 3) := by decide +kernel
theorem dX7_openSealed_44 : decode cX7_openSealed 44 = .ok (.iload_n 1, 1) := by decide +kernel
theorem dX7_openSealed_45 : decode cX7_openSealed 45 = .ok (.istore_n 1, 1) := by decide +kernel
theorem dX7_openSealed_46 : decode cX7_openSealed 46 = .ok (.iinc 2 1, 3) := by decide +kernel
theorem dX7_openSealed_49 : decode cX7_openSealed 49 = .ok (.goto (-45), 3) := by decide +kernel
theorem dX7_openSealed_52 : decode cX7_openSealed 52 = .ok (.iload_n 1, 1) := by decide +kernel
theorem dX7_openSealed_53 : decode cX7_openSealed 53 = .ok (.aload_n 0, 1) := by decide +kernel
theorem dX7_openSealed_54 : decode cX7_openSealed 54 = .ok (.getfield 7, 3) := by decide +kernel
theorem dX7_openSealed_57 : decode cX7_openSealed 57 = .ok (.iconst 5, 1) := by decide +kernel
theorem dX7_openSealed_58 : decode cX7_openSealed 58 = .ok (.iaload, 1) := by decide +kernel
theorem dX7_openSealed_59 : decode cX7_openSealed 59 = .ok (.if_icmp .ge 11, 3) := by decide +kernel
theorem dX7_openSealed_62 : decode cX7_openSealed 62 = .ok (.aload_n 0, 1) := by decide +kernel
theorem dX7_openSealed_63 : decode cX7_openSealed 63 = .ok (.iconst 0, 1) := by decide +kernel
theorem dX7_openSealed_64 : decode cX7_openSealed 64 = .ok (.bipush (-6), 2) := by decide +kernel
theorem dX7_openSealed_66 : decode cX7_openSealed 66 = .ok (.invokevirtual 102, 3) := by decide +kernel
theorem dX7_openSealed_69 : decode cX7_openSealed 69 = .ok (.ireturn, 1) := by decide +kernel
theorem dX7_openSealed_70 : decode cX7_openSealed 70 = .ok (.iconst 0, 1) := by decide +kernel
theorem dX7_openSealed_71 : decode cX7_openSealed 71 = .ok (.istore_n 2, 1) := by decide +kernel
theorem dX7_openSealed_72 : decode cX7_openSealed 72 = .ok (.iconst 0, 1) := by decide +kernel
theorem dX7_openSealed_73 : decode cX7_openSealed 73 = .ok (.istore_n 3, 1) := by decide +kernel
theorem dX7_openSealed_74 : decode cX7_openSealed 74 = .ok (.iload_n 3, 1) := by decide +kernel
theorem dX7_openSealed_75 : decode cX7_openSealed 75 = .ok (.aload_n 0, 1) := by decide +kernel
theorem dX7_openSealed_76 : decode cX7_openSealed 76 = .ok (.getfield 7, 3) := by decide +kernel
theorem dX7_openSealed_79 : decode cX7_openSealed 79 = .ok (.iconst 0, 1) := by decide +kernel
theorem dX7_openSealed_80 : decode cX7_openSealed 80 = .ok (.iaload, 1) := by decide +kernel
theorem dX7_openSealed_81 : decode cX7_openSealed 81 = .ok (.if_icmp .ge 29, 3) := by decide +kernel
theorem dX7_openSealed_84 : decode cX7_openSealed 84 = .ok (.iload_n 2, 1) := by decide +kernel
theorem dX7_openSealed_85 : decode cX7_openSealed 85 = .ok (.aload_n 0, 1) := by decide +kernel
theorem dX7_openSealed_86 : decode cX7_openSealed 86 = .ok (.iload_n 3, 1) := by decide +kernel
theorem dX7_openSealed_87 : decode cX7_openSealed 87 = .ok (.iconst 5, 1) := by decide +kernel
theorem dX7_openSealed_88 : decode cX7_openSealed 88 = .ok (.invokevirtual 70, 3) := by decide +kernel
theorem dX7_openSealed_91 : decode cX7_openSealed 91 = .ok (.iload_n 1, 1) := by decide +kernel
theorem dX7_openSealed_92 : decode cX7_openSealed 92 = .ok (.if_icmp .ne 9, 3) := by decide +kernel
theorem dX7_openSealed_95 : decode cX7_openSealed 95 = .ok (.iconst 1, 1) := by decide +kernel
theorem dX7_openSealed_96 : decode cX7_openSealed 96 = .ok (.iload_n 3, 1) := by decide +kernel
theorem dX7_openSealed_97 : decode cX7_openSealed 97 = .ok (.ishl, 1) := by decide +kernel
theorem dX7_openSealed_98 : decode cX7_openSealed 98 = .ok (.goto 4, 3) := by decide +kernel
theorem dX7_openSealed_101 : decode cX7_openSealed 101 = .ok (.iconst 0, 1) := by decide +kernel
theorem dX7_openSealed_102 : decode cX7_openSealed 102 = .ok (.ior, 1) := by decide +kernel
theorem dX7_openSealed_103 : decode cX7_openSealed 103 = .ok (.istore_n 2, 1) := by decide +kernel
theorem dX7_openSealed_104 : decode cX7_openSealed 104 = .ok (.iinc 3 1, 3) := by decide +kernel
theorem dX7_openSealed_107 : decode cX7_openSealed 107 = .ok (.goto (-33), 3) := by decide +kernel
theorem dX7_openSealed_110 : decode cX7_openSealed 110 = .ok (.iload_n 1, 1) := by decide +kernel
theorem dX7_openSealed_111 : decode cX7_openSealed 111 = .ok (.iload_n 2, 1) := by decide +kernel
theorem dX7_openSealed_112 : decode cX7_openSealed 112 = .ok (.invokestatic 80, 3) := by decide +kernel
theorem dX7_openSealed_115 : decode cX7_openSealed 115 = .ok (.idiv, 1) := by decide +kernel
theorem dX7_openSealed_116 : decode cX7_openSealed 116 = .ok (.istore_n 3, 1) := by decide +kernel
theorem dX7_openSealed_117 : decode cX7_openSealed 117 = .ok (.iload_n 1, 1) := by decide +kernel
theorem dX7_openSealed_118 : decode cX7_openSealed 118 = .ok (.iload_n 2, 1) := by decide +kernel
theorem dX7_openSealed_119 : decode cX7_openSealed 119 = .ok (.invokestatic 80, 3) := by decide +kernel
theorem dX7_openSealed_122 : decode cX7_openSealed 122 = .ok (.irem, 1) := by decide +kernel
theorem dX7_openSealed_123 : decode cX7_openSealed 123 = .ok (.istore 4, 2) := by decide +kernel
theorem dX7_openSealed_125 : decode cX7_openSealed 125 = .ok (.iconst 0, 1) := by decide +kernel
theorem dX7_openSealed_126 : decode cX7_openSealed 126 = .ok (.istore 5, 2) := by decide +kernel
theorem dX7_openSealed_128 : decode cX7_openSealed 128 = .ok (.iload 5, 2) := by decide +kernel
theorem dX7_openSealed_130 : decode cX7_openSealed 130 = .ok (.aload_n 0, 1) := by decide +kernel
theorem dX7_openSealed_131 : decode cX7_openSealed 131 = .ok (.getfield 7, 3) := by decide +kernel
theorem dX7_openSealed_134 : decode cX7_openSealed 134 = .ok (.iconst 0, 1) := by decide +kernel
theorem dX7_openSealed_135 : decode cX7_openSealed 135 = .ok (.iaload, 1) := by decide +kernel
theorem dX7_openSealed_136 : decode cX7_openSealed 136 = .ok (.if_icmp .ge 60, 3) := by decide +kernel
theorem dX7_openSealed_139 : decode cX7_openSealed 139 = .ok (.aload_n 0, 1) := by decide +kernel
theorem dX7_openSealed_140 : decode cX7_openSealed 140 = .ok (.iload 5, 2) := by decide +kernel
theorem dX7_openSealed_142 : decode cX7_openSealed 142 = .ok (.invokevirtual 121, 3) := by decide +kernel
theorem dX7_openSealed_145 : decode cX7_openSealed 145 = .ok (.istore 6, 2) := by decide +kernel
theorem dX7_openSealed_147 : decode cX7_openSealed 147 = .ok (.iload_n 2, 1) := by decide +kernel
theorem dX7_openSealed_148 : decode cX7_openSealed 148 = .ok (.iload 6, 2) := by decide +kernel
theorem dX7_openSealed_150 : decode cX7_openSealed 150 = .ok (.ishr, 1) := by decide +kernel
theorem dX7_openSealed_151 : decode cX7_openSealed 151 = .ok (.iconst 1, 1) := by decide +kernel
theorem dX7_openSealed_152 : decode cX7_openSealed 152 = .ok (.iand, 1) := by decide +kernel
theorem dX7_openSealed_153 : decode cX7_openSealed 153 = .ok (.iconst 1, 1) := by decide +kernel
theorem dX7_openSealed_154 : decode cX7_openSealed 154 = .ok (.if_icmp .ne 36, 3) := by decide +kernel
theorem dX7_openSealed_157 : decode cX7_openSealed 157 = .ok (.aload_n 0, 1) := by decide +kernel
theorem dX7_openSealed_158 : decode cX7_openSealed 158 = .ok (.iload 6, 2) := by decide +kernel
theorem dX7_openSealed_160 : decode cX7_openSealed 160 = .ok (.iload_n 3, 1) := by decide +kernel
theorem dX7_openSealed_161 : decode cX7_openSealed 161 = .ok (.iload 4, 2) := by decide +kernel
theorem dX7_openSealed_163 : decode cX7_openSealed 163 = .ok (.ifCond .le 7, 3) := by decide +kernel
theorem dX7_openSealed_166 : decode cX7_openSealed 166 = .ok (.iconst 1, 1) := by decide +kernel
theorem dX7_openSealed_167 : decode cX7_openSealed 167 = .ok (.goto 4, 3) := by decide +kernel
theorem dX7_openSealed_170 : decode cX7_openSealed 170 = .ok (.iconst 0, 1) := by decide +kernel
theorem dX7_openSealed_171 : decode cX7_openSealed 171 = .ok (.iadd, 1) := by decide +kernel
theorem dX7_openSealed_172 : decode cX7_openSealed 172 = .ok (.invokevirtual 105, 3) := by decide +kernel
theorem dX7_openSealed_175 : decode cX7_openSealed 175 = .ok (.iload 4, 2) := by decide +kernel
theorem dX7_openSealed_177 : decode cX7_openSealed 177 = .ok (.iload 4, 2) := by decide +kernel
theorem dX7_openSealed_179 : decode cX7_openSealed 179 = .ok (.ifCond .le 7, 3) := by decide +kernel
theorem dX7_openSealed_182 : decode cX7_openSealed 182 = .ok (.iconst 1, 1) := by decide +kernel
theorem dX7_openSealed_183 : decode cX7_openSealed 183 = .ok (.goto 4, 3) := by decide +kernel
theorem dX7_openSealed_186 : decode cX7_openSealed 186 = .ok (.iconst 0, 1) := by decide +kernel
theorem dX7_openSealed_187 : decode cX7_openSealed 187 = .ok (.isub, 1) := by decide +kernel
theorem dX7_openSealed_188 : decode cX7_openSealed 188 = .ok (.istore 4, 2) := by decide +kernel
theorem dX7_openSealed_190 : decode cX7_openSealed 190 = .ok (.iinc 5 1, 3) := by decide +kernel
theorem dX7_openSealed_193 : decode cX7_openSealed 193 = .ok (.goto (-65), 3) := by decide +kernel
theorem dX7_openSealed_196 : decode cX7_openSealed 196 = .ok (.aload_n 0, 1) := by decide +kernel
theorem dX7_openSealed_197 : decode cX7_openSealed 197 = .ok (.iload_n 2, 1) := by decide +kernel
theorem dX7_openSealed_198 : decode cX7_openSealed 198 = .ok (.iload_n 1, 1) := by decide +kernel
theorem dX7_openSealed_199 : decode cX7_openSealed 199 = .ok (.invokevirtual 102, 3) := by decide +kernel
theorem dX7_openSealed_202 : decode cX7_openSealed 202 = .ok (.ireturn, 1) := by decide +kernel
theorem dX7_claim_0 : decode cX7_claim 0 = .ok (.aload_n 0, 1) := by decide +kernel
theorem dX7_claim_1 : decode cX7_claim 1 = .ok (.iload_n 1, 1) := by decide +kernel
theorem dX7_claim_2 : decode cX7_claim 2 = .ok (.aload_n 0, 1) := by decide +kernel
theorem dX7_claim_3 : decode cX7_claim 3 = .ok (.getfield 7, 3) := by decide +kernel
theorem dX7_claim_6 : decode cX7_claim 6 = .ok (.iconst 5, 1) := by decide +kernel
theorem dX7_claim_7 : decode cX7_claim 7 = .ok (.iaload, 1) := by decide +kernel
theorem dX7_claim_8 : decode cX7_claim 8 = .ok (.invokevirtual 112, 3) := by decide +kernel
theorem dX7_claim_11 : decode cX7_claim 11 = .ok (.aload_n 0, 1) := by decide +kernel
theorem dX7_claim_12 : decode cX7_claim 12 = .ok (.iload_n 1, 1) := by decide +kernel
theorem dX7_claim_13 : decode cX7_claim 13 = .ok (.iconst 5, 1) := by decide +kernel
theorem dX7_claim_14 : decode cX7_claim 14 = .ok (.aload_n 0, 1) := by decide +kernel
theorem dX7_claim_15 : decode cX7_claim 15 = .ok (.getfield 7, 3) := by decide +kernel
theorem dX7_claim_18 : decode cX7_claim 18 = .ok (.iconst 5, 1) := by decide +kernel
theorem dX7_claim_19 : decode cX7_claim 19 = .ok (.iaload, 1) := by decide +kernel
theorem dX7_claim_20 : decode cX7_claim 20 = .ok (.invokevirtual 47, 3) := by decide +kernel
theorem dX7_claim_23 : decode cX7_claim 23 = .ok (.aload_n 0, 1) := by decide +kernel
theorem dX7_claim_24 : decode cX7_claim 24 = .ok (.getfield 7, 3) := by decide +kernel
theorem dX7_claim_27 : decode cX7_claim 27 = .ok (.bipush 9, 2) := by decide +kernel
theorem dX7_claim_29 : decode cX7_claim 29 = .ok (.dup2, 1) := by decide +kernel
theorem dX7_claim_30 : decode cX7_claim 30 = .ok (.iaload, 1) := by decide +kernel
theorem dX7_claim_31 : decode cX7_claim 31 = .ok (.iconst 1, 1) := by decide +kernel
theorem dX7_claim_32 : decode cX7_claim 32 = .ok (.iadd, 1) := by decide +kernel
theorem dX7_claim_33 : decode cX7_claim 33 = .ok (.iastore, 1) := by decide +kernel
theorem dX7_claim_34 : decode cX7_claim 34 = .ok (.bipush (-6), 2) := by decide +kernel
theorem dX7_claim_36 : decode cX7_claim 36 = .ok (.ireturn, 1) := by decide +kernel
theorem dX7_fall_0 : decode cX7_fall 0 = .ok (.iconst 0, 1) := by decide +kernel
theorem dX7_fall_1 : decode cX7_fall 1 = .ok (.istore_n 1, 1) := by decide +kernel
theorem dX7_fall_2 : decode cX7_fall 2 = .ok (.iload_n 1, 1) := by decide +kernel
theorem dX7_fall_3 : decode cX7_fall 3 = .ok (.aload_n 0, 1) := by decide +kernel
theorem dX7_fall_4 : decode cX7_fall 4 = .ok (.getfield 7, 3) := by decide +kernel
theorem dX7_fall_7 : decode cX7_fall 7 = .ok (.iconst 0, 1) := by decide +kernel
theorem dX7_fall_8 : decode cX7_fall 8 = .ok (.iaload, 1) := by decide +kernel
theorem dX7_fall_9 : decode cX7_fall 9 = .ok (.if_icmp .ge 38, 3) := by decide +kernel
theorem dX7_fall_12 : decode cX7_fall 12 = .ok (.aload_n 0, 1) := by decide +kernel
theorem dX7_fall_13 : decode cX7_fall 13 = .ok (.aload_n 0, 1) := by decide +kernel
theorem dX7_fall_14 : decode cX7_fall 14 = .ok (.iload_n 1, 1) := by decide +kernel
theorem dX7_fall_15 : decode cX7_fall 15 = .ok (.invokevirtual 121, 3) := by decide +kernel
theorem dX7_fall_18 : decode cX7_fall 18 = .ok (.iconst 5, 1) := by decide +kernel
theorem dX7_fall_19 : decode cX7_fall 19 = .ok (.invokevirtual 70, 3) := by decide +kernel
theorem dX7_fall_22 : decode cX7_fall 22 = .ok (.ifCond .lt 19, 3) := by decide +kernel
theorem dX7_fall_25 : decode cX7_fall 25 = .ok (.aload_n 0, 1) := by decide +kernel
theorem dX7_fall_26 : decode cX7_fall 26 = .ok (.aload_n 0, 1) := by decide +kernel
theorem dX7_fall_27 : decode cX7_fall 27 = .ok (.iload_n 1, 1) := by decide +kernel
theorem dX7_fall_28 : decode cX7_fall 28 = .ok (.invokevirtual 121, 3) := by decide +kernel
theorem dX7_fall_31 : decode cX7_fall 31 = .ok (.aload_n 0, 1) := by decide +kernel
theorem dX7_fall_32 : decode cX7_fall 32 = .ok (.getfield 7, 3) := by decide +kernel
theorem dX7_fall_35 : decode cX7_fall 35 = .ok (.iconst 5, 1) := by decide +kernel
theorem dX7_fall_36 : decode cX7_fall 36 = .ok (.iaload, 1) := by decide +kernel
theorem dX7_fall_37 : decode cX7_fall 37 = .ok (.invokevirtual 109, 3) := by decide +kernel
theorem dX7_fall_40 : decode cX7_fall 40 = .ok (.ireturn, 1) := by decide +kernel
theorem dX7_fall_41 : decode cX7_fall 41 = .ok (.iinc 1 1, 3) := by decide +kernel
theorem dX7_fall_44 : decode cX7_fall 44 = .ok (.goto (-42), 3) := by decide +kernel
theorem dX7_fall_47 : decode cX7_fall 47 = .ok (.aload_n 0, 1) := by decide +kernel
theorem dX7_fall_48 : decode cX7_fall 48 = .ok (.getfield 7, 3) := by decide +kernel
theorem dX7_fall_51 : decode cX7_fall 51 = .ok (.iconst 5, 1) := by decide +kernel
theorem dX7_fall_52 : decode cX7_fall 52 = .ok (.dup2, 1) := by decide +kernel
theorem dX7_fall_53 : decode cX7_fall 53 = .ok (.iaload, 1) := by decide +kernel
theorem dX7_fall_54 : decode cX7_fall 54 = .ok (.aload_n 0, 1) := by decide +kernel
theorem dX7_fall_55 : decode cX7_fall 55 = .ok (.iconst 1, 1) := by decide +kernel
theorem dX7_fall_56 : decode cX7_fall 56 = .ok (.invokevirtual 51, 3) := by decide +kernel
theorem dX7_fall_59 : decode cX7_fall 59 = .ok (.isub, 1) := by decide +kernel
theorem dX7_fall_60 : decode cX7_fall 60 = .ok (.iastore, 1) := by decide +kernel
theorem dX7_fall_61 : decode cX7_fall 61 = .ok (.aload_n 0, 1) := by decide +kernel
theorem dX7_fall_62 : decode cX7_fall 62 = .ok (.getfield 7, 3) := by decide +kernel
theorem dX7_fall_65 : decode cX7_fall 65 = .ok (.iconst 5, 1) := by decide +kernel
theorem dX7_fall_66 : decode cX7_fall 66 = .ok (.iaload, 1) := by decide +kernel
theorem dX7_fall_67 : decode cX7_fall 67 = .ok (.iconst 1, 1) := by decide +kernel
theorem dX7_fall_68 : decode cX7_fall 68 = .ok (.if_icmp .ge 13, 3) := by decide +kernel
theorem dX7_fall_71 : decode cX7_fall 71 = .ok (.aload_n 0, 1) := by decide +kernel
theorem dX7_fall_72 : decode cX7_fall 72 = .ok (.iconst 0, 1) := by decide +kernel
theorem dX7_fall_73 : decode cX7_fall 73 = .ok (.bipush (-6), 2) := by decide +kernel
theorem dX7_fall_75 : decode cX7_fall 75 = .ok (.invokevirtual 102, 3) := by decide +kernel
theorem dX7_fall_78 : decode cX7_fall 78 = .ok (.goto 5, 3) := by decide +kernel
theorem dX7_fall_81 : decode cX7_fall 81 = .ok (.bipush (-6), 2) := by decide +kernel
theorem dX7_fall_83 : decode cX7_fall 83 = .ok (.ireturn, 1) := by decide +kernel
theorem dX7_isBid_0 : decode cX7_isBid 0 = .ok (.aload_n 0, 1) := by decide +kernel
theorem dX7_isBid_1 : decode cX7_isBid 1 = .ok (.iload_n 1, 1) := by decide +kernel
theorem dX7_isBid_2 : decode cX7_isBid 2 = .ok (.iconst 0, 1) := by decide +kernel
theorem dX7_isBid_3 : decode cX7_isBid 3 = .ok (.invokevirtual 70, 3) := by decide +kernel
theorem dX7_isBid_6 : decode cX7_isBid 6 = .ok (.istore_n 3, 1) := by decide +kernel
theorem dX7_isBid_7 : decode cX7_isBid 7 = .ok (.aload_n 0, 1) := by decide +kernel
theorem dX7_isBid_8 : decode cX7_isBid 8 = .ok (.getfield 7, 3) := by decide +kernel
theorem dX7_isBid_11 : decode cX7_isBid 11 = .ok (.iconst 4, 1) := by decide +kernel
theorem dX7_isBid_12 : decode cX7_isBid 12 = .ok (.iaload, 1) := by decide +kernel
theorem dX7_isBid_13 : decode cX7_isBid 13 = .ok (.lookupswitch 44 #[(0, 27), (1, 37)], 27) := by decide +kernel
theorem dX7_isBid_40 : decode cX7_isBid 40 = .ok (.iload_n 2, 1) := by decide +kernel
theorem dX7_isBid_41 : decode cX7_isBid 41 = .ok (.aload_n 0, 1) := by decide +kernel
theorem dX7_isBid_42 : decode cX7_isBid 42 = .ok (.invokevirtual 124, 3) := by decide +kernel
theorem dX7_isBid_45 : decode cX7_isBid 45 = .ok (.iload_n 3, 1) := by decide +kernel
theorem dX7_isBid_46 : decode cX7_isBid 46 = .ok (.invokestatic 43, 3) := by decide +kernel
theorem dX7_isBid_49 : decode cX7_isBid 49 = .ok (.ireturn, 1) := by decide +kernel
theorem dX7_isBid_50 : decode cX7_isBid 50 = .ok (.iload_n 2, 1) := by decide +kernel
theorem dX7_isBid_51 : decode cX7_isBid 51 = .ok (.iconst 0, 1) := by decide +kernel
theorem dX7_isBid_52 : decode cX7_isBid 52 = .ok (.iload_n 3, 1) := by decide +kernel
theorem dX7_isBid_53 : decode cX7_isBid 53 = .ok (.invokestatic 43, 3) := by decide +kernel
theorem dX7_isBid_56 : decode cX7_isBid 56 = .ok (.ireturn, 1) := by decide +kernel
theorem dX7_isBid_57 : decode cX7_isBid 57 = .ok (.iload_n 2, 1) := by decide +kernel
theorem dX7_isBid_58 : decode cX7_isBid 58 = .ok (.aload_n 0, 1) := by decide +kernel
theorem dX7_isBid_59 : decode cX7_isBid 59 = .ok (.getfield 7, 3) := by decide +kernel
theorem dX7_isBid_62 : decode cX7_isBid 62 = .ok (.iconst 5, 1) := by decide +kernel
theorem dX7_isBid_63 : decode cX7_isBid 63 = .ok (.iaload, 1) := by decide +kernel
theorem dX7_isBid_64 : decode cX7_isBid 64 = .ok (.if_icmp .ne 12, 3) := by decide +kernel
theorem dX7_isBid_67 : decode cX7_isBid 67 = .ok (.iload_n 2, 1) := by decide +kernel
theorem dX7_isBid_68 : decode cX7_isBid 68 = .ok (.iload_n 3, 1) := by decide +kernel
theorem dX7_isBid_69 : decode cX7_isBid 69 = .ok (.if_icmp .gt 7, 3) := by decide +kernel
theorem dX7_isBid_72 : decode cX7_isBid 72 = .ok (.iconst 1, 1) := by decide +kernel
theorem dX7_isBid_73 : decode cX7_isBid 73 = .ok (.goto 4, 3) := by decide +kernel
theorem dX7_isBid_76 : decode cX7_isBid 76 = .ok (.iconst 0, 1) := by decide +kernel
theorem dX7_isBid_77 : decode cX7_isBid 77 = .ok (.ireturn, 1) := by decide +kernel
theorem dX7_bid_0 : decode cX7_bid 0 = .ok (.aload_n 0, 1) := by decide +kernel
theorem dX7_bid_1 : decode cX7_bid 1 = .ok (.iload_n 1, 1) := by decide +kernel
theorem dX7_bid_2 : decode cX7_bid 2 = .ok (.invokevirtual 66, 3) := by decide +kernel
theorem dX7_bid_5 : decode cX7_bid 5 = .ok (.ifCond .ne 5, 3) := by decide +kernel
theorem dX7_bid_8 : decode cX7_bid 8 = .ok (.iconst (-1), 1) := by decide +kernel
theorem dX7_bid_9 : decode cX7_bid 9 = .ok (.ireturn, 1) := by decide +kernel
theorem dX7_bid_10 : decode cX7_bid 10 = .ok (.aload_n 0, 1) := by decide +kernel
theorem dX7_bid_11 : decode cX7_bid 11 = .ok (.invokevirtual 62, 3) := by decide +kernel
theorem dX7_bid_14 : decode cX7_bid 14 = .ok (.ifCond .eq 35, 3) := by decide +kernel
theorem dX7_bid_17 : decode cX7_bid 17 = .ok (.aload_n 0, 1) := by decide +kernel
theorem dX7_bid_18 : decode cX7_bid 18 = .ok (.getfield 7, 3) := by decide +kernel
theorem dX7_bid_21 : decode cX7_bid 21 = .ok (.iconst 4, 1) := by decide +kernel
theorem dX7_bid_22 : decode cX7_bid 22 = .ok (.iaload, 1) := by decide +kernel
theorem dX7_bid_23 : decode cX7_bid 23 = .ok (.ifCond .ne 17, 3) := by decide +kernel
theorem dX7_bid_26 : decode cX7_bid 26 = .ok (.aload_n 0, 1) := by decide +kernel
theorem dX7_bid_27 : decode cX7_bid 27 = .ok (.getfield 7, 3) := by decide +kernel
theorem dX7_bid_30 : decode cX7_bid 30 = .ok (.bipush 8, 2) := by decide +kernel
theorem dX7_bid_32 : decode cX7_bid 32 = .ok (.iaload, 1) := by decide +kernel
theorem dX7_bid_33 : decode cX7_bid 33 = .ok (.iload_n 1, 1) := by decide +kernel
theorem dX7_bid_34 : decode cX7_bid 34 = .ok (.if_icmp .eq 18, 3) := by decide +kernel
theorem dX7_bid_37 : decode cX7_bid 37 = .ok (.goto 12, 3) := by decide +kernel
theorem dX7_bid_40 : decode cX7_bid 40 = .ok (.aload_n 0, 1) := by decide +kernel
theorem dX7_bid_41 : decode cX7_bid 41 = .ok (.iload_n 1, 1) := by decide +kernel
theorem dX7_bid_42 : decode cX7_bid 42 = .ok (.iconst 5, 1) := by decide +kernel
theorem dX7_bid_43 : decode cX7_bid 43 = .ok (.invokevirtual 70, 3) := by decide +kernel
theorem dX7_bid_46 : decode cX7_bid 46 = .ok (.ifCond .lt 6, 3) := by decide +kernel
theorem dX7_bid_49 : decode cX7_bid 49 = .ok (.bipush (-5), 2) := by decide +kernel
theorem dX7_bid_51 : decode cX7_bid 51 = .ok (.ireturn, 1) := by decide +kernel
theorem dX7_bid_52 : decode cX7_bid 52 = .ok (.aload_n 0, 1) := by decide +kernel
theorem dX7_bid_53 : decode cX7_bid 53 = .ok (.iload_n 1, 1) := by decide +kernel
theorem dX7_bid_54 : decode cX7_bid 54 = .ok (.iload_n 2, 1) := by decide +kernel
theorem dX7_bid_55 : decode cX7_bid 55 = .ok (.invokevirtual 127, 3) := by decide +kernel
theorem dX7_bid_58 : decode cX7_bid 58 = .ok (.ifCond .ne 6, 3) := by decide +kernel
theorem dX7_bid_61 : decode cX7_bid 61 = .ok (.bipush (-2), 2) := by decide +kernel
theorem dX7_bid_63 : decode cX7_bid 63 = .ok (.ireturn, 1) := by decide +kernel
theorem dX7_bid_64 : decode cX7_bid 64 = .ok (.aload_n 0, 1) := by decide +kernel
theorem dX7_bid_65 : decode cX7_bid 65 = .ok (.getfield 7, 3) := by decide +kernel
theorem dX7_bid_68 : decode cX7_bid 68 = .ok (.iconst 4, 1) := by decide +kernel
theorem dX7_bid_69 : decode cX7_bid 69 = .ok (.iaload, 1) := by decide +kernel
theorem dX7_bid_70 : decode cX7_bid 70 = .ok (.ifCond .ne 12, 3) := by decide +kernel
theorem dX7_bid_73 : decode cX7_bid 73 = .ok (.aload_n 0, 1) := by decide +kernel
theorem dX7_bid_74 : decode cX7_bid 74 = .ok (.iload_n 1, 1) := by decide +kernel
theorem dX7_bid_75 : decode cX7_bid 75 = .ok (.iload_n 2, 1) := by decide +kernel
theorem dX7_bid_76 : decode cX7_bid 76 = .ok (.invokevirtual 130, 3) := by decide +kernel
theorem dX7_bid_79 : decode cX7_bid 79 = .ok (.goto 27, 3) := by decide +kernel
theorem dX7_bid_82 : decode cX7_bid 82 = .ok (.aload_n 0, 1) := by decide +kernel
theorem dX7_bid_83 : decode cX7_bid 83 = .ok (.getfield 7, 3) := by decide +kernel
theorem dX7_bid_86 : decode cX7_bid 86 = .ok (.iconst 4, 1) := by decide +kernel
theorem dX7_bid_87 : decode cX7_bid 87 = .ok (.iaload, 1) := by decide +kernel
theorem dX7_bid_88 : decode cX7_bid 88 = .ok (.iconst 1, 1) := by decide +kernel
theorem dX7_bid_89 : decode cX7_bid 89 = .ok (.if_icmp .ne 12, 3) := by decide +kernel
theorem dX7_bid_92 : decode cX7_bid 92 = .ok (.aload_n 0, 1) := by decide +kernel
theorem dX7_bid_93 : decode cX7_bid 93 = .ok (.iload_n 1, 1) := by decide +kernel
theorem dX7_bid_94 : decode cX7_bid 94 = .ok (.iload_n 2, 1) := by decide +kernel
theorem dX7_bid_95 : decode cX7_bid 95 = .ok (.invokevirtual 133, 3) := by decide +kernel
theorem dX7_bid_98 : decode cX7_bid 98 = .ok (.goto 8, 3) := by decide +kernel
theorem dX7_bid_101 : decode cX7_bid 101 = .ok (.aload_n 0, 1) := by decide +kernel
theorem dX7_bid_102 : decode cX7_bid 102 = .ok (.iload_n 1, 1) := by decide +kernel
theorem dX7_bid_103 : decode cX7_bid 103 = .ok (.invokevirtual 136, 3) := by decide +kernel
theorem dX7_bid_106 : decode cX7_bid 106 = .ok (.ireturn, 1) := by decide +kernel
theorem dX7_pass_0 : decode cX7_pass 0 = .ok (.aload_n 0, 1) := by decide +kernel
theorem dX7_pass_1 : decode cX7_pass 1 = .ok (.iload_n 1, 1) := by decide +kernel
theorem dX7_pass_2 : decode cX7_pass 2 = .ok (.invokevirtual 66, 3) := by decide +kernel
theorem dX7_pass_5 : decode cX7_pass 5 = .ok (.ifCond .ne 5, 3) := by decide +kernel
theorem dX7_pass_8 : decode cX7_pass 8 = .ok (.iconst (-1), 1) := by decide +kernel
theorem dX7_pass_9 : decode cX7_pass 9 = .ok (.ireturn, 1) := by decide +kernel
theorem dX7_pass_10 : decode cX7_pass 10 = .ok (.aload_n 0, 1) := by decide +kernel
theorem dX7_pass_11 : decode cX7_pass 11 = .ok (.invokevirtual 62, 3) := by decide +kernel
theorem dX7_pass_14 : decode cX7_pass 14 = .ok (.ifCond .eq 33, 3) := by decide +kernel
theorem dX7_pass_17 : decode cX7_pass 17 = .ok (.aload_n 0, 1) := by decide +kernel
theorem dX7_pass_18 : decode cX7_pass 18 = .ok (.getfield 7, 3) := by decide +kernel
theorem dX7_pass_21 : decode cX7_pass 21 = .ok (.iconst 4, 1) := by decide +kernel
theorem dX7_pass_22 : decode cX7_pass 22 = .ok (.iaload, 1) := by decide +kernel
theorem dX7_pass_23 : decode cX7_pass 23 = .ok (.iconst 1, 1) := by decide +kernel
theorem dX7_pass_24 : decode cX7_pass 24 = .ok (.if_icmp .eq 23, 3) := by decide +kernel
theorem dX7_pass_27 : decode cX7_pass 27 = .ok (.aload_n 0, 1) := by decide +kernel
theorem dX7_pass_28 : decode cX7_pass 28 = .ok (.getfield 7, 3) := by decide +kernel
theorem dX7_pass_31 : decode cX7_pass 31 = .ok (.iconst 4, 1) := by decide +kernel
theorem dX7_pass_32 : decode cX7_pass 32 = .ok (.iaload, 1) := by decide +kernel
theorem dX7_pass_33 : decode cX7_pass 33 = .ok (.ifCond .ne 17, 3) := by decide +kernel
theorem dX7_pass_36 : decode cX7_pass 36 = .ok (.aload_n 0, 1) := by decide +kernel
theorem dX7_pass_37 : decode cX7_pass 37 = .ok (.getfield 7, 3) := by decide +kernel
theorem dX7_pass_40 : decode cX7_pass 40 = .ok (.bipush 8, 2) := by decide +kernel
theorem dX7_pass_42 : decode cX7_pass 42 = .ok (.iaload, 1) := by decide +kernel
theorem dX7_pass_43 : decode cX7_pass 43 = .ok (.iload_n 1, 1) := by decide +kernel
theorem dX7_pass_44 : decode cX7_pass 44 = .ok (.if_icmp .eq 6, 3) := by decide +kernel
theorem dX7_pass_47 : decode cX7_pass 47 = .ok (.bipush (-5), 2) := by decide +kernel
theorem dX7_pass_49 : decode cX7_pass 49 = .ok (.ireturn, 1) := by decide +kernel
theorem dX7_pass_50 : decode cX7_pass 50 = .ok (.aload_n 0, 1) := by decide +kernel
theorem dX7_pass_51 : decode cX7_pass 51 = .ok (.getfield 7, 3) := by decide +kernel
theorem dX7_pass_54 : decode cX7_pass 54 = .ok (.iconst 4, 1) := by decide +kernel
theorem dX7_pass_55 : decode cX7_pass 55 = .ok (.iaload, 1) := by decide +kernel
theorem dX7_pass_56 : decode cX7_pass 56 = .ok (.ifCond .ne 11, 3) := by decide +kernel
theorem dX7_pass_59 : decode cX7_pass 59 = .ok (.aload_n 0, 1) := by decide +kernel
theorem dX7_pass_60 : decode cX7_pass 60 = .ok (.iload_n 1, 1) := by decide +kernel
theorem dX7_pass_61 : decode cX7_pass 61 = .ok (.invokevirtual 139, 3) := by decide +kernel
theorem dX7_pass_64 : decode cX7_pass 64 = .ok (.goto 7, 3) := by decide +kernel
theorem dX7_pass_67 : decode cX7_pass 67 = .ok (.aload_n 0, 1) := by decide +kernel
theorem dX7_pass_68 : decode cX7_pass 68 = .ok (.invokevirtual 142, 3) := by decide +kernel
theorem dX7_pass_71 : decode cX7_pass 71 = .ok (.ireturn, 1) := by decide +kernel
theorem dX7_sealedOf_0 : decode cX7_sealedOf 0 = .ok (.aload_n 0, 1) := by decide +kernel
theorem dX7_sealedOf_1 : decode cX7_sealedOf 1 = .ok (.iload_n 1, 1) := by decide +kernel
theorem dX7_sealedOf_2 : decode cX7_sealedOf 2 = .ok (.invokevirtual 145, 3) := by decide +kernel
theorem dX7_sealedOf_5 : decode cX7_sealedOf 5 = .ok (.iload_n 2, 1) := by decide +kernel
theorem dX7_sealedOf_6 : decode cX7_sealedOf 6 = .ok (.if_icmp .lt 11, 3) := by decide +kernel
theorem dX7_sealedOf_9 : decode cX7_sealedOf 9 = .ok (.aload_n 0, 1) := by decide +kernel
theorem dX7_sealedOf_10 : decode cX7_sealedOf 10 = .ok (.iload_n 1, 1) := by decide +kernel
theorem dX7_sealedOf_11 : decode cX7_sealedOf 11 = .ok (.invokevirtual 145, 3) := by decide +kernel
theorem dX7_sealedOf_14 : decode cX7_sealedOf 14 = .ok (.goto 4, 3) := by decide +kernel
theorem dX7_sealedOf_17 : decode cX7_sealedOf 17 = .ok (.iconst 0, 1) := by decide +kernel
theorem dX7_sealedOf_18 : decode cX7_sealedOf 18 = .ok (.ireturn, 1) := by decide +kernel
theorem dX7_moveSealed_0 : decode cX7_moveSealed 0 = .ok (.bipush (-6), 2) := by decide +kernel
theorem dX7_moveSealed_2 : decode cX7_moveSealed 2 = .ok (.istore_n 1, 1) := by decide +kernel
theorem dX7_moveSealed_3 : decode cX7_moveSealed 3 = .ok (.aload_n 0, 1) := by decide +kernel
theorem dX7_moveSealed_4 : decode cX7_moveSealed 4 = .ok (.getfield 7, 3) := by decide +kernel
theorem dX7_moveSealed_7 : decode cX7_moveSealed 7 = .ok (.iconst 0, 1) := by decide +kernel
theorem dX7_moveSealed_8 : decode cX7_moveSealed 8 = .ok (.iaload, 1) := by decide +kernel
theorem dX7_moveSealed_9 : decode cX7_moveSealed 9 = .ok (.iconst 1, 1) := by decide +kernel
theorem dX7_moveSealed_10 : decode cX7_moveSealed 10 = .ok (.isub, 1) := by decide +kernel
theorem dX7_moveSealed_11 : decode cX7_moveSealed 11 = .ok (.istore_n 2, 1) := by decide +kernel
theorem dX7_moveSealed_12 : decode cX7_moveSealed 12 = .ok (.iload_n 2, 1) := by decide +kernel
theorem dX7_moveSealed_13 : decode cX7_moveSealed 13 = .ok (.ifCond .lt 32, 3) := by decide +kernel
theorem dX7_moveSealed_16 : decode cX7_moveSealed 16 = .ok (.aload_n 0, 1) := by decide +kernel
theorem dX7_moveSealed_17 : decode cX7_moveSealed 17 = .ok (.aload_n 0, 1) := by decide +kernel
theorem dX7_moveSealed_18 : decode cX7_moveSealed 18 = .ok (.iload_n 2, 1) := by decide +kernel
theorem dX7_moveSealed_19 : decode cX7_moveSealed 19 = .ok (.invokevirtual 121, 3) := by decide +kernel
theorem dX7_moveSealed_22 : decode cX7_moveSealed 22 = .ok (.iconst 5, 1) := by decide +kernel
theorem dX7_moveSealed_23 : decode cX7_moveSealed 23 = .ok (.invokevirtual 70, 3) := by decide +kernel
theorem dX7_moveSealed_26 : decode cX7_moveSealed 26 = .ok (.ifCond .ge 11, 3) := by decide +kernel
theorem dX7_moveSealed_29 : decode cX7_moveSealed 29 = .ok (.aload_n 0, 1) := by decide +kernel
theorem dX7_moveSealed_30 : decode cX7_moveSealed 30 = .ok (.iload_n 2, 1) := by decide +kernel
theorem dX7_moveSealed_31 : decode cX7_moveSealed 31 = .ok (.invokevirtual 121, 3) := by decide +kernel
theorem dX7_moveSealed_34 : decode cX7_moveSealed 34 = .ok (.goto 4, 3) := by decide +kernel
theorem dX7_moveSealed_37 : decode cX7_moveSealed 37 = .ok (.iload_n 1, 1) := by decide +kernel
theorem dX7_moveSealed_38 : decode cX7_moveSealed 38 = .ok (.istore_n 1, 1) := by decide +kernel
theorem dX7_moveSealed_39 : decode cX7_moveSealed 39 = .ok (.iinc 2 (-1), 3) := by decide +kernel
theorem dX7_moveSealed_42 : decode cX7_moveSealed 42 = .ok (.goto (-30), 3) := by decide +kernel
theorem dX7_moveSealed_45 : decode cX7_moveSealed 45 = .ok (.aload_n 0, 1) := by decide +kernel
theorem dX7_moveSealed_46 : decode cX7_moveSealed 46 = .ok (.iload_n 1, 1) := by decide +kernel
theorem dX7_moveSealed_47 : decode cX7_moveSealed 47 = .ok (.aload_n 0, 1) := by decide +kernel
theorem dX7_moveSealed_48 : decode cX7_moveSealed 48 = .ok (.iload_n 1, 1) := by decide +kernel
theorem dX7_moveSealed_49 : decode cX7_moveSealed 49 = .ok (.aload_n 0, 1) := by decide +kernel
theorem dX7_moveSealed_50 : decode cX7_moveSealed 50 = .ok (.getfield 7, 3) := by decide +kernel
theorem dX7_moveSealed_53 : decode cX7_moveSealed 53 = .ok (.iconst 5, 1) := by decide +kernel
theorem dX7_moveSealed_54 : decode cX7_moveSealed 54 = .ok (.iaload, 1) := by decide +kernel
theorem dX7_moveSealed_55 : decode cX7_moveSealed 55 = .ok (.invokevirtual 148, 3) := by decide +kernel
theorem dX7_moveSealed_58 : decode cX7_moveSealed 58 = .ok (.invokevirtual 133, 3) := by decide +kernel
theorem dX7_moveSealed_61 : decode cX7_moveSealed 61 = .ok (.ireturn, 1) := by decide +kernel
theorem dX7_moveFalling_0 : decode cX7_moveFalling 0 = .ok (.iconst 0, 1) := by decide +kernel
theorem dX7_moveFalling_1 : decode cX7_moveFalling 1 = .ok (.istore_n 1, 1) := by decide +kernel
theorem dX7_moveFalling_2 : decode cX7_moveFalling 2 = .ok (.iload_n 1, 1) := by decide +kernel
theorem dX7_moveFalling_3 : decode cX7_moveFalling 3 = .ok (.aload_n 0, 1) := by decide +kernel
theorem dX7_moveFalling_4 : decode cX7_moveFalling 4 = .ok (.getfield 7, 3) := by decide +kernel
theorem dX7_moveFalling_7 : decode cX7_moveFalling 7 = .ok (.iconst 0, 1) := by decide +kernel
theorem dX7_moveFalling_8 : decode cX7_moveFalling 8 = .ok (.iaload, 1) := by decide +kernel
theorem dX7_moveFalling_9 : decode cX7_moveFalling 9 = .ok (.if_icmp .ge 46, 3) := by decide +kernel
theorem dX7_moveFalling_12 : decode cX7_moveFalling 12 = .ok (.aload_n 0, 1) := by decide +kernel
theorem dX7_moveFalling_13 : decode cX7_moveFalling 13 = .ok (.iload_n 1, 1) := by decide +kernel
theorem dX7_moveFalling_14 : decode cX7_moveFalling 14 = .ok (.iconst 5, 1) := by decide +kernel
theorem dX7_moveFalling_15 : decode cX7_moveFalling 15 = .ok (.invokevirtual 70, 3) := by decide +kernel
theorem dX7_moveFalling_18 : decode cX7_moveFalling 18 = .ok (.ifCond .ge 31, 3) := by decide +kernel
theorem dX7_moveFalling_21 : decode cX7_moveFalling 21 = .ok (.aload_n 0, 1) := by decide +kernel
theorem dX7_moveFalling_22 : decode cX7_moveFalling 22 = .ok (.getfield 7, 3) := by decide +kernel
theorem dX7_moveFalling_25 : decode cX7_moveFalling 25 = .ok (.iconst 5, 1) := by decide +kernel
theorem dX7_moveFalling_26 : decode cX7_moveFalling 26 = .ok (.iaload, 1) := by decide +kernel
theorem dX7_moveFalling_27 : decode cX7_moveFalling 27 = .ok (.aload_n 0, 1) := by decide +kernel
theorem dX7_moveFalling_28 : decode cX7_moveFalling 28 = .ok (.iload_n 1, 1) := by decide +kernel
theorem dX7_moveFalling_29 : decode cX7_moveFalling 29 = .ok (.invokevirtual 145, 3) := by decide +kernel
theorem dX7_moveFalling_32 : decode cX7_moveFalling 32 = .ok (.if_icmp .gt 17, 3) := by decide +kernel
theorem dX7_moveFalling_35 : decode cX7_moveFalling 35 = .ok (.aload_n 0, 1) := by decide +kernel
theorem dX7_moveFalling_36 : decode cX7_moveFalling 36 = .ok (.iload_n 1, 1) := by decide +kernel
theorem dX7_moveFalling_37 : decode cX7_moveFalling 37 = .ok (.invokevirtual 136, 3) := by decide +kernel
theorem dX7_moveFalling_40 : decode cX7_moveFalling 40 = .ok (.istore_n 2, 1) := by decide +kernel
theorem dX7_moveFalling_41 : decode cX7_moveFalling 41 = .ok (.aload_n 0, 1) := by decide +kernel
theorem dX7_moveFalling_42 : decode cX7_moveFalling 42 = .ok (.getfield 7, 3) := by decide +kernel
theorem dX7_moveFalling_45 : decode cX7_moveFalling 45 = .ok (.bipush 7, 2) := by decide +kernel
theorem dX7_moveFalling_47 : decode cX7_moveFalling 47 = .ok (.iload_n 2, 1) := by decide +kernel
theorem dX7_moveFalling_48 : decode cX7_moveFalling 48 = .ok (.iastore, 1) := by decide +kernel
theorem dX7_moveFalling_49 : decode cX7_moveFalling 49 = .ok (.iinc 1 1, 3) := by decide +kernel
theorem dX7_moveFalling_52 : decode cX7_moveFalling 52 = .ok (.goto (-50), 3) := by decide +kernel
theorem dX7_moveFalling_55 : decode cX7_moveFalling 55 = .ok (.aload_n 0, 1) := by decide +kernel
theorem dX7_moveFalling_56 : decode cX7_moveFalling 56 = .ok (.invokevirtual 142, 3) := by decide +kernel
theorem dX7_moveFalling_59 : decode cX7_moveFalling 59 = .ok (.ireturn, 1) := by decide +kernel
theorem dX7_makeMove_0 : decode cX7_makeMove 0 = .ok (.aload_n 0, 1) := by decide +kernel
theorem dX7_makeMove_1 : decode cX7_makeMove 1 = .ok (.getfield 7, 3) := by decide +kernel
theorem dX7_makeMove_4 : decode cX7_makeMove 4 = .ok (.iconst 4, 1) := by decide +kernel
theorem dX7_makeMove_5 : decode cX7_makeMove 5 = .ok (.iaload, 1) := by decide +kernel
theorem dX7_makeMove_6 : decode cX7_makeMove 6 = .ok (.lookupswitch 69 #[(0, 26), (1, 64)], 26) := by decide +kernel
theorem dX7_makeMove_32 : decode cX7_makeMove 32 = .ok (.aload_n 0, 1) := by decide +kernel
theorem dX7_makeMove_33 : decode cX7_makeMove 33 = .ok (.getfield 7, 3) := by decide +kernel
theorem dX7_makeMove_36 : decode cX7_makeMove 36 = .ok (.bipush 8, 2) := by decide +kernel
theorem dX7_makeMove_38 : decode cX7_makeMove 38 = .ok (.iaload, 1) := by decide +kernel
theorem dX7_makeMove_39 : decode cX7_makeMove 39 = .ok (.istore_n 1, 1) := by decide +kernel
theorem dX7_makeMove_40 : decode cX7_makeMove 40 = .ok (.aload_n 0, 1) := by decide +kernel
theorem dX7_makeMove_41 : decode cX7_makeMove 41 = .ok (.invokevirtual 124, 3) := by decide +kernel
theorem dX7_makeMove_44 : decode cX7_makeMove 44 = .ok (.aload_n 0, 1) := by decide +kernel
theorem dX7_makeMove_45 : decode cX7_makeMove 45 = .ok (.iload_n 1, 1) := by decide +kernel
theorem dX7_makeMove_46 : decode cX7_makeMove 46 = .ok (.invokevirtual 145, 3) := by decide +kernel
theorem dX7_makeMove_49 : decode cX7_makeMove 49 = .ok (.if_icmp .gt 15, 3) := by decide +kernel
theorem dX7_makeMove_52 : decode cX7_makeMove 52 = .ok (.aload_n 0, 1) := by decide +kernel
theorem dX7_makeMove_53 : decode cX7_makeMove 53 = .ok (.iload_n 1, 1) := by decide +kernel
theorem dX7_makeMove_54 : decode cX7_makeMove 54 = .ok (.aload_n 0, 1) := by decide +kernel
theorem dX7_makeMove_55 : decode cX7_makeMove 55 = .ok (.invokevirtual 124, 3) := by decide +kernel
theorem dX7_makeMove_58 : decode cX7_makeMove 58 = .ok (.invokevirtual 130, 3) := by decide +kernel
theorem dX7_makeMove_61 : decode cX7_makeMove 61 = .ok (.goto 8, 3) := by decide +kernel
theorem dX7_makeMove_64 : decode cX7_makeMove 64 = .ok (.aload_n 0, 1) := by decide +kernel
theorem dX7_makeMove_65 : decode cX7_makeMove 65 = .ok (.iload_n 1, 1) := by decide +kernel
theorem dX7_makeMove_66 : decode cX7_makeMove 66 = .ok (.invokevirtual 139, 3) := by decide +kernel
theorem dX7_makeMove_69 : decode cX7_makeMove 69 = .ok (.ireturn, 1) := by decide +kernel
theorem dX7_makeMove_70 : decode cX7_makeMove 70 = .ok (.aload_n 0, 1) := by decide +kernel
theorem dX7_makeMove_71 : decode cX7_makeMove 71 = .ok (.invokevirtual 151, 3) := by decide +kernel
theorem dX7_makeMove_74 : decode cX7_makeMove 74 = .ok (.ireturn, 1) := by decide +kernel
theorem dX7_makeMove_75 : decode cX7_makeMove 75 = .ok (.aload_n 0, 1) := by decide +kernel
theorem dX7_makeMove_76 : decode cX7_makeMove 76 = .ok (.invokevirtual 154, 3) := by decide +kernel
theorem dX7_makeMove_79 : decode cX7_makeMove 79 = .ok (.ireturn, 1) := by decide +kernel
theorem dX7_move_0 : decode cX7_move 0 = .ok (.aload_n 0, 1) := by decide +kernel
theorem dX7_move_1 : decode cX7_move 1 = .ok (.invokevirtual 62, 3) := by decide +kernel
theorem dX7_move_4 : decode cX7_move 4 = .ok (.ifCond .eq 10, 3) := by decide +kernel
theorem dX7_move_7 : decode cX7_move 7 = .ok (.aload_n 0, 1) := by decide +kernel
theorem dX7_move_8 : decode cX7_move 8 = .ok (.invokevirtual 157, 3) := by decide +kernel
theorem dX7_move_11 : decode cX7_move 11 = .ok (.goto 5, 3) := by decide +kernel
theorem dX7_move_14 : decode cX7_move 14 = .ok (.bipush (-5), 2) := by decide +kernel
theorem dX7_move_16 : decode cX7_move 16 = .ok (.ireturn, 1) := by decide +kernel
theorem dX7_giveLast_0 : decode cX7_giveLast 0 = .ok (.aload_n 0, 1) := by decide +kernel
theorem dX7_giveLast_1 : decode cX7_giveLast 1 = .ok (.invokevirtual 93, 3) := by decide +kernel
theorem dX7_giveLast_4 : decode cX7_giveLast 4 = .ok (.istore_n 1, 1) := by decide +kernel
theorem dX7_giveLast_5 : decode cX7_giveLast 5 = .ok (.iconst 1, 1) := by decide +kernel
theorem dX7_giveLast_6 : decode cX7_giveLast 6 = .ok (.istore_n 2, 1) := by decide +kernel
theorem dX7_giveLast_7 : decode cX7_giveLast 7 = .ok (.iload_n 2, 1) := by decide +kernel
theorem dX7_giveLast_8 : decode cX7_giveLast 8 = .ok (.aload_n 0, 1) := by decide +kernel
theorem dX7_giveLast_9 : decode cX7_giveLast 9 = .ok (.getfield 7, 3) := by decide +kernel
theorem dX7_giveLast_12 : decode cX7_giveLast 12 = .ok (.iconst 0, 1) := by decide +kernel
theorem dX7_giveLast_13 : decode cX7_giveLast 13 = .ok (.iaload, 1) := by decide +kernel
theorem dX7_giveLast_14 : decode cX7_giveLast 14 = .ok (.if_icmp .ge 38, 3) := by decide +kernel
theorem dX7_giveLast_17 : decode cX7_giveLast 17 = .ok (.aload_n 0, 1) := by decide +kernel
theorem dX7_giveLast_18 : decode cX7_giveLast 18 = .ok (.aload_n 0, 1) := by decide +kernel
theorem dX7_giveLast_19 : decode cX7_giveLast 19 = .ok (.iload_n 2, 1) := by decide +kernel
theorem dX7_giveLast_20 : decode cX7_giveLast 20 = .ok (.invokevirtual 121, 3) := by decide +kernel
theorem dX7_giveLast_23 : decode cX7_giveLast 23 = .ok (.iconst 0, 1) := by decide +kernel
theorem dX7_giveLast_24 : decode cX7_giveLast 24 = .ok (.invokevirtual 70, 3) := by decide +kernel
theorem dX7_giveLast_27 : decode cX7_giveLast 27 = .ok (.aload_n 0, 1) := by decide +kernel
theorem dX7_giveLast_28 : decode cX7_giveLast 28 = .ok (.iload_n 1, 1) := by decide +kernel
theorem dX7_giveLast_29 : decode cX7_giveLast 29 = .ok (.iconst 0, 1) := by decide +kernel
theorem dX7_giveLast_30 : decode cX7_giveLast 30 = .ok (.invokevirtual 70, 3) := by decide +kernel
theorem dX7_giveLast_33 : decode cX7_giveLast 33 = .ok (.if_icmp .ge 11, 3) := by decide +kernel
theorem dX7_giveLast_36 : decode cX7_giveLast 36 = .ok (.aload_n 0, 1) := by decide +kernel
theorem dX7_giveLast_37 : decode cX7_giveLast 37 = .ok (.iload_n 2, 1) := by decide +kernel
theorem dX7_giveLast_38 : decode cX7_giveLast 38 = .ok (.invokevirtual 121, 3) := by decide +kernel
theorem dX7_giveLast_41 : decode cX7_giveLast 41 = .ok (.goto 4, 3) := by decide +kernel
theorem dX7_giveLast_44 : decode cX7_giveLast 44 = .ok (.iload_n 1, 1) := by decide +kernel
theorem dX7_giveLast_45 : decode cX7_giveLast 45 = .ok (.istore_n 1, 1) := by decide +kernel
theorem dX7_giveLast_46 : decode cX7_giveLast 46 = .ok (.iinc 2 1, 3) := by decide +kernel
theorem dX7_giveLast_49 : decode cX7_giveLast 49 = .ok (.goto (-42), 3) := by decide +kernel
theorem dX7_giveLast_52 : decode cX7_giveLast 52 = .ok (.aload_n 0, 1) := by decide +kernel
theorem dX7_giveLast_53 : decode cX7_giveLast 53 = .ok (.iconst 1, 1) := by decide +kernel
theorem dX7_giveLast_54 : decode cX7_giveLast 54 = .ok (.iload_n 1, 1) := by decide +kernel
theorem dX7_giveLast_55 : decode cX7_giveLast 55 = .ok (.ishl, 1) := by decide +kernel
theorem dX7_giveLast_56 : decode cX7_giveLast 56 = .ok (.iconst 0, 1) := by decide +kernel
theorem dX7_giveLast_57 : decode cX7_giveLast 57 = .ok (.invokevirtual 102, 3) := by decide +kernel
theorem dX7_giveLast_60 : decode cX7_giveLast 60 = .ok (.istore_n 2, 1) := by decide +kernel
theorem dX7_giveLast_61 : decode cX7_giveLast 61 = .ok (.iload_n 2, 1) := by decide +kernel
theorem dX7_giveLast_62 : decode cX7_giveLast 62 = .ok (.ifCond .le 7, 3) := by decide +kernel
theorem dX7_giveLast_65 : decode cX7_giveLast 65 = .ok (.iload_n 1, 1) := by decide +kernel
theorem dX7_giveLast_66 : decode cX7_giveLast 66 = .ok (.goto 5, 3) := by decide +kernel
theorem dX7_giveLast_69 : decode cX7_giveLast 69 = .ok (.bipush (-6), 2) := by decide +kernel
theorem dX7_giveLast_71 : decode cX7_giveLast 71 = .ok (.ireturn, 1) := by decide +kernel
theorem dX7_last_0 : decode cX7_last 0 = .ok (.aload_n 0, 1) := by decide +kernel
theorem dX7_last_1 : decode cX7_last 1 = .ok (.invokevirtual 96, 3) := by decide +kernel
theorem dX7_last_4 : decode cX7_last 4 = .ok (.ifCond .eq 17, 3) := by decide +kernel
theorem dX7_last_7 : decode cX7_last 7 = .ok (.aload_n 0, 1) := by decide +kernel
theorem dX7_last_8 : decode cX7_last 8 = .ok (.invokevirtual 62, 3) := by decide +kernel
theorem dX7_last_11 : decode cX7_last 11 = .ok (.ifCond .ne 10, 3) := by decide +kernel
theorem dX7_last_14 : decode cX7_last 14 = .ok (.aload_n 0, 1) := by decide +kernel
theorem dX7_last_15 : decode cX7_last 15 = .ok (.invokevirtual 160, 3) := by decide +kernel
theorem dX7_last_18 : decode cX7_last 18 = .ok (.goto 5, 3) := by decide +kernel
theorem dX7_last_21 : decode cX7_last 21 = .ok (.bipush (-5), 2) := by decide +kernel
theorem dX7_last_23 : decode cX7_last 23 = .ok (.ireturn, 1) := by decide +kernel
theorem dX7_ask_0 : decode cX7_ask 0 = .ok (.aload_n 0, 1) := by decide +kernel
theorem dX7_ask_1 : decode cX7_ask 1 = .ok (.iload_n 1, 1) := by decide +kernel
theorem dX7_ask_2 : decode cX7_ask 2 = .ok (.invokevirtual 66, 3) := by decide +kernel
theorem dX7_ask_5 : decode cX7_ask 5 = .ok (.ifCond .ne 5, 3) := by decide +kernel
theorem dX7_ask_8 : decode cX7_ask 8 = .ok (.iconst (-1), 1) := by decide +kernel
theorem dX7_ask_9 : decode cX7_ask 9 = .ok (.ireturn, 1) := by decide +kernel
theorem dX7_ask_10 : decode cX7_ask 10 = .ok (.iload_n 2, 1) := by decide +kernel
theorem dX7_ask_11 : decode cX7_ask 11 = .ok (.iconst 1, 1) := by decide +kernel
theorem dX7_ask_12 : decode cX7_ask 12 = .ok (.sipush 300, 3) := by decide +kernel
theorem dX7_ask_15 : decode cX7_ask 15 = .ok (.invokestatic 43, 3) := by decide +kernel
theorem dX7_ask_18 : decode cX7_ask 18 = .ok (.ifCond .ne 6, 3) := by decide +kernel
theorem dX7_ask_21 : decode cX7_ask 21 = .ok (.bipush (-2), 2) := by decide +kernel
theorem dX7_ask_23 : decode cX7_ask 23 = .ok (.ireturn, 1) := by decide +kernel
theorem dX7_ask_24 : decode cX7_ask 24 = .ok (.aload_n 0, 1) := by decide +kernel
theorem dX7_ask_25 : decode cX7_ask 25 = .ok (.invokevirtual 62, 3) := by decide +kernel
theorem dX7_ask_28 : decode cX7_ask 28 = .ok (.ifCond .eq 6, 3) := by decide +kernel
theorem dX7_ask_31 : decode cX7_ask 31 = .ok (.bipush (-5), 2) := by decide +kernel
theorem dX7_ask_33 : decode cX7_ask 33 = .ok (.ireturn, 1) := by decide +kernel
theorem dX7_ask_34 : decode cX7_ask 34 = .ok (.aload_n 0, 1) := by decide +kernel
theorem dX7_ask_35 : decode cX7_ask 35 = .ok (.iload_n 1, 1) := by decide +kernel
theorem dX7_ask_36 : decode cX7_ask 36 = .ok (.iconst 0, 1) := by decide +kernel
theorem dX7_ask_37 : decode cX7_ask 37 = .ok (.invokevirtual 70, 3) := by decide +kernel
theorem dX7_ask_40 : decode cX7_ask 40 = .ok (.iload_n 2, 1) := by decide +kernel
theorem dX7_ask_41 : decode cX7_ask 41 = .ok (.if_icmp .lt 11, 3) := by decide +kernel
theorem dX7_ask_44 : decode cX7_ask 44 = .ok (.aload_n 0, 1) := by decide +kernel
theorem dX7_ask_45 : decode cX7_ask 45 = .ok (.iload_n 1, 1) := by decide +kernel
theorem dX7_ask_46 : decode cX7_ask 46 = .ok (.iload_n 2, 1) := by decide +kernel
theorem dX7_ask_47 : decode cX7_ask 47 = .ok (.invokevirtual 112, 3) := by decide +kernel
theorem dX7_ask_50 : decode cX7_ask 50 = .ok (.iconst 1, 1) := by decide +kernel
theorem dX7_ask_51 : decode cX7_ask 51 = .ok (.ireturn, 1) := by decide +kernel
theorem dX7_ask_52 : decode cX7_ask 52 = .ok (.aload_n 0, 1) := by decide +kernel
theorem dX7_ask_53 : decode cX7_ask 53 = .ok (.iload_n 1, 1) := by decide +kernel
theorem dX7_ask_54 : decode cX7_ask 54 = .ok (.iconst 4, 1) := by decide +kernel
theorem dX7_ask_55 : decode cX7_ask 55 = .ok (.aload_n 0, 1) := by decide +kernel
theorem dX7_ask_56 : decode cX7_ask 56 = .ok (.iload_n 1, 1) := by decide +kernel
theorem dX7_ask_57 : decode cX7_ask 57 = .ok (.iconst 4, 1) := by decide +kernel
theorem dX7_ask_58 : decode cX7_ask 58 = .ok (.invokevirtual 70, 3) := by decide +kernel
theorem dX7_ask_61 : decode cX7_ask 61 = .ok (.iload_n 2, 1) := by decide +kernel
theorem dX7_ask_62 : decode cX7_ask 62 = .ok (.iconst 1, 1) := by decide +kernel
theorem dX7_ask_63 : decode cX7_ask 63 = .ok (.isub, 1) := by decide +kernel
theorem dX7_ask_64 : decode cX7_ask 64 = .ok (.if_icmp .ge 12, 3) := by decide +kernel
theorem dX7_ask_67 : decode cX7_ask 67 = .ok (.aload_n 0, 1) := by decide +kernel
theorem dX7_ask_68 : decode cX7_ask 68 = .ok (.iload_n 1, 1) := by decide +kernel
theorem dX7_ask_69 : decode cX7_ask 69 = .ok (.iconst 4, 1) := by decide +kernel
theorem dX7_ask_70 : decode cX7_ask 70 = .ok (.invokevirtual 70, 3) := by decide +kernel
theorem dX7_ask_73 : decode cX7_ask 73 = .ok (.goto 6, 3) := by decide +kernel
theorem dX7_ask_76 : decode cX7_ask 76 = .ok (.iload_n 2, 1) := by decide +kernel
theorem dX7_ask_77 : decode cX7_ask 77 = .ok (.iconst 1, 1) := by decide +kernel
theorem dX7_ask_78 : decode cX7_ask 78 = .ok (.isub, 1) := by decide +kernel
theorem dX7_ask_79 : decode cX7_ask 79 = .ok (.invokevirtual 47, 3) := by decide +kernel
theorem dX7_ask_82 : decode cX7_ask 82 = .ok (.iconst 0, 1) := by decide +kernel
theorem dX7_ask_83 : decode cX7_ask 83 = .ok (.ireturn, 1) := by decide +kernel
theorem dX7_player_0 : decode cX7_player 0 = .ok (.aload_n 0, 1) := by decide +kernel
theorem dX7_player_1 : decode cX7_player 1 = .ok (.iload_n 1, 1) := by decide +kernel
theorem dX7_player_2 : decode cX7_player 2 = .ok (.invokevirtual 66, 3) := by decide +kernel
theorem dX7_player_5 : decode cX7_player 5 = .ok (.ifCond .ne 5, 3) := by decide +kernel
theorem dX7_player_8 : decode cX7_player 8 = .ok (.iconst (-1), 1) := by decide +kernel
theorem dX7_player_9 : decode cX7_player 9 = .ok (.ireturn, 1) := by decide +kernel
theorem dX7_player_10 : decode cX7_player 10 = .ok (.iload_n 2, 1) := by decide +kernel
theorem dX7_player_11 : decode cX7_player 11 = .ok (.tableswitch 107 0 9 #[53, 53, 53, 60, 68, 74, 80, 86, 92, 99], 53) := by decide +kernel
theorem dX7_player_64 : decode cX7_player 64 = .ok (.aload_n 0, 1) := by decide +kernel
theorem dX7_player_65 : decode cX7_player 65 = .ok (.iload_n 1, 1) := by decide +kernel
theorem dX7_player_66 : decode cX7_player 66 = .ok (.iload_n 2, 1) := by decide +kernel
theorem dX7_player_67 : decode cX7_player 67 = .ok (.invokevirtual 70, 3) := by decide +kernel
theorem dX7_player_70 : decode cX7_player 70 = .ok (.ireturn, 1) := by decide +kernel
theorem dX7_player_71 : decode cX7_player 71 = .ok (.aload_n 0, 1) := by decide +kernel
theorem dX7_player_72 : decode cX7_player 72 = .ok (.iload_n 1, 1) := by decide +kernel
theorem dX7_player_73 : decode cX7_player 73 = .ok (.bipush (-6), 2) := by decide +kernel
theorem dX7_player_75 : decode cX7_player 75 = .ok (.invokevirtual 83, 3) := by decide +kernel
theorem dX7_player_78 : decode cX7_player 78 = .ok (.ireturn, 1) := by decide +kernel
theorem dX7_player_79 : decode cX7_player 79 = .ok (.aload_n 0, 1) := by decide +kernel
theorem dX7_player_80 : decode cX7_player 80 = .ok (.iload_n 1, 1) := by decide +kernel
theorem dX7_player_81 : decode cX7_player 81 = .ok (.invokevirtual 86, 3) := by decide +kernel
theorem dX7_player_84 : decode cX7_player 84 = .ok (.ireturn, 1) := by decide +kernel
theorem dX7_player_85 : decode cX7_player 85 = .ok (.aload_n 0, 1) := by decide +kernel
theorem dX7_player_86 : decode cX7_player 86 = .ok (.iload_n 1, 1) := by decide +kernel
theorem dX7_player_87 : decode cX7_player 87 = .ok (.invokevirtual 163, 3) := by decide +kernel
theorem dX7_player_90 : decode cX7_player 90 = .ok (.ireturn, 1) := by decide +kernel
theorem dX7_player_91 : decode cX7_player 91 = .ok (.aload_n 0, 1) := by decide +kernel
theorem dX7_player_92 : decode cX7_player 92 = .ok (.iload_n 1, 1) := by decide +kernel
theorem dX7_player_93 : decode cX7_player 93 = .ok (.invokevirtual 166, 3) := by decide +kernel
theorem dX7_player_96 : decode cX7_player 96 = .ok (.ireturn, 1) := by decide +kernel
theorem dX7_player_97 : decode cX7_player 97 = .ok (.aload_n 0, 1) := by decide +kernel
theorem dX7_player_98 : decode cX7_player 98 = .ok (.iload_n 1, 1) := by decide +kernel
theorem dX7_player_99 : decode cX7_player 99 = .ok (.invokevirtual 145, 3) := by decide +kernel
theorem dX7_player_102 : decode cX7_player 102 = .ok (.ireturn, 1) := by decide +kernel
theorem dX7_player_103 : decode cX7_player 103 = .ok (.aload_n 0, 1) := by decide +kernel
theorem dX7_player_104 : decode cX7_player 104 = .ok (.iload_n 1, 1) := by decide +kernel
theorem dX7_player_105 : decode cX7_player 105 = .ok (.iconst 5, 1) := by decide +kernel
theorem dX7_player_106 : decode cX7_player 106 = .ok (.invokevirtual 70, 3) := by decide +kernel
theorem dX7_player_109 : decode cX7_player 109 = .ok (.ireturn, 1) := by decide +kernel
theorem dX7_player_110 : decode cX7_player 110 = .ok (.aload_n 0, 1) := by decide +kernel
theorem dX7_player_111 : decode cX7_player 111 = .ok (.iload_n 1, 1) := by decide +kernel
theorem dX7_player_112 : decode cX7_player 112 = .ok (.bipush 6, 2) := by decide +kernel
theorem dX7_player_114 : decode cX7_player 114 = .ok (.invokevirtual 70, 3) := by decide +kernel
theorem dX7_player_117 : decode cX7_player 117 = .ok (.ireturn, 1) := by decide +kernel
theorem dX7_player_118 : decode cX7_player 118 = .ok (.bipush (-2), 2) := by decide +kernel
theorem dX7_player_120 : decode cX7_player 120 = .ok (.ireturn, 1) := by decide +kernel
theorem dX7_about_0 : decode cX7_about 0 = .ok (.iload_n 1, 1) := by decide +kernel
theorem dX7_about_1 : decode cX7_about 1 = .ok (.iconst 0, 1) := by decide +kernel
theorem dX7_about_2 : decode cX7_about 2 = .ok (.aload_n 0, 1) := by decide +kernel
theorem dX7_about_3 : decode cX7_about 3 = .ok (.getfield 7, 3) := by decide +kernel
theorem dX7_about_6 : decode cX7_about 6 = .ok (.iconst 1, 1) := by decide +kernel
theorem dX7_about_7 : decode cX7_about 7 = .ok (.iaload, 1) := by decide +kernel
theorem dX7_about_8 : decode cX7_about 8 = .ok (.iconst 1, 1) := by decide +kernel
theorem dX7_about_9 : decode cX7_about 9 = .ok (.isub, 1) := by decide +kernel
theorem dX7_about_10 : decode cX7_about 10 = .ok (.invokestatic 43, 3) := by decide +kernel
theorem dX7_about_13 : decode cX7_about 13 = .ok (.ifCond .ne 5, 3) := by decide +kernel
theorem dX7_about_16 : decode cX7_about 16 = .ok (.iconst (-1), 1) := by decide +kernel
theorem dX7_about_17 : decode cX7_about 17 = .ok (.ireturn, 1) := by decide +kernel
theorem dX7_about_18 : decode cX7_about 18 = .ok (.iload_n 2, 1) := by decide +kernel
theorem dX7_about_19 : decode cX7_about 19 = .ok (.iconst 0, 1) := by decide +kernel
theorem dX7_about_20 : decode cX7_about 20 = .ok (.iconst 4, 1) := by decide +kernel
theorem dX7_about_21 : decode cX7_about 21 = .ok (.invokestatic 43, 3) := by decide +kernel
theorem dX7_about_24 : decode cX7_about 24 = .ok (.ifCond .eq 12, 3) := by decide +kernel
theorem dX7_about_27 : decode cX7_about 27 = .ok (.aload_n 0, 1) := by decide +kernel
theorem dX7_about_28 : decode cX7_about 28 = .ok (.iload_n 1, 1) := by decide +kernel
theorem dX7_about_29 : decode cX7_about 29 = .ok (.iload_n 2, 1) := by decide +kernel
theorem dX7_about_30 : decode cX7_about 30 = .ok (.invokevirtual 77, 3) := by decide +kernel
theorem dX7_about_33 : decode cX7_about 33 = .ok (.goto 5, 3) := by decide +kernel
theorem dX7_about_36 : decode cX7_about 36 = .ok (.bipush (-2), 2) := by decide +kernel
theorem dX7_about_38 : decode cX7_about 38 = .ok (.ireturn, 1) := by decide +kernel
theorem dX7_sumOf_0 : decode cX7_sumOf 0 = .ok (.iconst 0, 1) := by decide +kernel
theorem dX7_sumOf_1 : decode cX7_sumOf 1 = .ok (.istore_n 2, 1) := by decide +kernel
theorem dX7_sumOf_2 : decode cX7_sumOf 2 = .ok (.iconst 0, 1) := by decide +kernel
theorem dX7_sumOf_3 : decode cX7_sumOf 3 = .ok (.istore_n 3, 1) := by decide +kernel
theorem dX7_sumOf_4 : decode cX7_sumOf 4 = .ok (.iload_n 3, 1) := by decide +kernel
theorem dX7_sumOf_5 : decode cX7_sumOf 5 = .ok (.aload_n 0, 1) := by decide +kernel
theorem dX7_sumOf_6 : decode cX7_sumOf 6 = .ok (.getfield 7, 3) := by decide +kernel
theorem dX7_sumOf_9 : decode cX7_sumOf 9 = .ok (.iconst 0, 1) := by decide +kernel
theorem dX7_sumOf_10 : decode cX7_sumOf 10 = .ok (.iaload, 1) := by decide +kernel
theorem dX7_sumOf_11 : decode cX7_sumOf 11 = .ok (.if_icmp .ge 18, 3) := by decide +kernel
theorem dX7_sumOf_14 : decode cX7_sumOf 14 = .ok (.iload_n 2, 1) := by decide +kernel
theorem dX7_sumOf_15 : decode cX7_sumOf 15 = .ok (.aload_n 0, 1) := by decide +kernel
theorem dX7_sumOf_16 : decode cX7_sumOf 16 = .ok (.iload_n 3, 1) := by decide +kernel
theorem dX7_sumOf_17 : decode cX7_sumOf 17 = .ok (.iload_n 1, 1) := by decide +kernel
theorem dX7_sumOf_18 : decode cX7_sumOf 18 = .ok (.invokevirtual 70, 3) := by decide +kernel
theorem dX7_sumOf_21 : decode cX7_sumOf 21 = .ok (.iadd, 1) := by decide +kernel
theorem dX7_sumOf_22 : decode cX7_sumOf 22 = .ok (.istore_n 2, 1) := by decide +kernel
theorem dX7_sumOf_23 : decode cX7_sumOf 23 = .ok (.iinc 3 1, 3) := by decide +kernel
theorem dX7_sumOf_26 : decode cX7_sumOf 26 = .ok (.goto (-22), 3) := by decide +kernel
theorem dX7_sumOf_29 : decode cX7_sumOf 29 = .ok (.iload_n 2, 1) := by decide +kernel
theorem dX7_sumOf_30 : decode cX7_sumOf 30 = .ok (.ireturn, 1) := by decide +kernel
theorem dX7_shownPrice_0 : decode cX7_shownPrice 0 = .ok (.aload_n 0, 1) := by decide +kernel
theorem dX7_shownPrice_1 : decode cX7_shownPrice 1 = .ok (.getfield 7, 3) := by decide +kernel
theorem dX7_shownPrice_4 : decode cX7_shownPrice 4 = .ok (.iconst 4, 1) := by decide +kernel
theorem dX7_shownPrice_5 : decode cX7_shownPrice 5 = .ok (.iaload, 1) := by decide +kernel
theorem dX7_shownPrice_6 : decode cX7_shownPrice 6 = .ok (.ifCond .ne 13, 3) := by decide +kernel
theorem dX7_shownPrice_9 : decode cX7_shownPrice 9 = .ok (.aload_n 0, 1) := by decide +kernel
theorem dX7_shownPrice_10 : decode cX7_shownPrice 10 = .ok (.getfield 7, 3) := by decide +kernel
theorem dX7_shownPrice_13 : decode cX7_shownPrice 13 = .ok (.bipush 6, 2) := by decide +kernel
theorem dX7_shownPrice_15 : decode cX7_shownPrice 15 = .ok (.iaload, 1) := by decide +kernel
theorem dX7_shownPrice_16 : decode cX7_shownPrice 16 = .ok (.goto 24, 3) := by decide +kernel
theorem dX7_shownPrice_19 : decode cX7_shownPrice 19 = .ok (.aload_n 0, 1) := by decide +kernel
theorem dX7_shownPrice_20 : decode cX7_shownPrice 20 = .ok (.getfield 7, 3) := by decide +kernel
theorem dX7_shownPrice_23 : decode cX7_shownPrice 23 = .ok (.iconst 4, 1) := by decide +kernel
theorem dX7_shownPrice_24 : decode cX7_shownPrice 24 = .ok (.iaload, 1) := by decide +kernel
theorem dX7_shownPrice_25 : decode cX7_shownPrice 25 = .ok (.iconst 2, 1) := by decide +kernel
theorem dX7_shownPrice_26 : decode cX7_shownPrice 26 = .ok (.if_icmp .ne 12, 3) := by decide +kernel
theorem dX7_shownPrice_29 : decode cX7_shownPrice 29 = .ok (.aload_n 0, 1) := by decide +kernel
theorem dX7_shownPrice_30 : decode cX7_shownPrice 30 = .ok (.getfield 7, 3) := by decide +kernel
theorem dX7_shownPrice_33 : decode cX7_shownPrice 33 = .ok (.iconst 5, 1) := by decide +kernel
theorem dX7_shownPrice_34 : decode cX7_shownPrice 34 = .ok (.iaload, 1) := by decide +kernel
theorem dX7_shownPrice_35 : decode cX7_shownPrice 35 = .ok (.goto 5, 3) := by decide +kernel
theorem dX7_shownPrice_38 : decode cX7_shownPrice 38 = .ok (.bipush (-6), 2) := by decide +kernel
theorem dX7_shownPrice_40 : decode cX7_shownPrice 40 = .ok (.ireturn, 1) := by decide +kernel
theorem dX7_ofAuction_0 : decode cX7_ofAuction 0 = .ok (.iload_n 1, 1) := by decide +kernel
theorem dX7_ofAuction_1 : decode cX7_ofAuction 1 = .ok (.tableswitch 73 5 8 #[31, 38, 43, 65], 31) := by decide +kernel
theorem dX7_ofAuction_32 : decode cX7_ofAuction 32 = .ok (.aload_n 0, 1) := by decide +kernel
theorem dX7_ofAuction_33 : decode cX7_ofAuction 33 = .ok (.getfield 7, 3) := by decide +kernel
theorem dX7_ofAuction_36 : decode cX7_ofAuction 36 = .ok (.iconst 4, 1) := by decide +kernel
theorem dX7_ofAuction_37 : decode cX7_ofAuction 37 = .ok (.iaload, 1) := by decide +kernel
theorem dX7_ofAuction_38 : decode cX7_ofAuction 38 = .ok (.ireturn, 1) := by decide +kernel
theorem dX7_ofAuction_39 : decode cX7_ofAuction 39 = .ok (.aload_n 0, 1) := by decide +kernel
theorem dX7_ofAuction_40 : decode cX7_ofAuction 40 = .ok (.invokevirtual 169, 3) := by decide +kernel
theorem dX7_ofAuction_43 : decode cX7_ofAuction 43 = .ok (.ireturn, 1) := by decide +kernel
theorem dX7_ofAuction_44 : decode cX7_ofAuction 44 = .ok (.aload_n 0, 1) := by decide +kernel
theorem dX7_ofAuction_45 : decode cX7_ofAuction 45 = .ok (.getfield 7, 3) := by decide +kernel
theorem dX7_ofAuction_48 : decode cX7_ofAuction 48 = .ok (.iconst 4, 1) := by decide +kernel
theorem dX7_ofAuction_49 : decode cX7_ofAuction 49 = .ok (.iaload, 1) := by decide +kernel
theorem dX7_ofAuction_50 : decode cX7_ofAuction 50 = .ok (.ifCond .ne 13, 3) := by decide +kernel
theorem dX7_ofAuction_53 : decode cX7_ofAuction 53 = .ok (.aload_n 0, 1) := by decide +kernel
theorem dX7_ofAuction_54 : decode cX7_ofAuction 54 = .ok (.getfield 7, 3) := by decide +kernel
theorem dX7_ofAuction_57 : decode cX7_ofAuction 57 = .ok (.bipush 7, 2) := by decide +kernel
