theorem dX7_ofAuction_59 : decode cX7_ofAuction 59 = .ok (.iaload, 1) := by decide +kernel
theorem dX7_ofAuction_60 : decode cX7_ofAuction 60 = .ok (.goto 5, 3) := by decide +kernel
theorem dX7_ofAuction_63 : decode cX7_ofAuction 63 = .ok (.bipush (-6), 2) := by decide +kernel
theorem dX7_ofAuction_65 : decode cX7_ofAuction 65 = .ok (.ireturn, 1) := by decide +kernel
theorem dX7_ofAuction_66 : decode cX7_ofAuction 66 = .ok (.aload_n 0, 1) := by decide +kernel
theorem dX7_ofAuction_67 : decode cX7_ofAuction 67 = .ok (.getfield 7, 3) := by decide +kernel
theorem dX7_ofAuction_70 : decode cX7_ofAuction 70 = .ok (.bipush 8, 2) := by decide +kernel
theorem dX7_ofAuction_72 : decode cX7_ofAuction 72 = .ok (.iaload, 1) := by decide +kernel
theorem dX7_ofAuction_73 : decode cX7_ofAuction 73 = .ok (.ireturn, 1) := by decide +kernel
theorem dX7_ofAuction_74 : decode cX7_ofAuction 74 = .ok (.aload_n 0, 1) := by decide +kernel
theorem dX7_ofAuction_75 : decode cX7_ofAuction 75 = .ok (.getfield 7, 3) := by decide +kernel
theorem dX7_ofAuction_78 : decode cX7_ofAuction 78 = .ok (.bipush 9, 2) := by decide +kernel
theorem dX7_ofAuction_80 : decode cX7_ofAuction 80 = .ok (.iaload, 1) := by decide +kernel
theorem dX7_ofAuction_81 : decode cX7_ofAuction 81 = .ok (.ireturn, 1) := by decide +kernel
theorem dX7_count_0 : decode cX7_count 0 = .ok (.iload_n 1, 1) := by decide +kernel
theorem dX7_count_1 : decode cX7_count 1 = .ok (.iconst 5, 1) := by decide +kernel
theorem dX7_count_2 : decode cX7_count 2 = .ok (.bipush 9, 2) := by decide +kernel
theorem dX7_count_4 : decode cX7_count 4 = .ok (.invokestatic 43, 3) := by decide +kernel
theorem dX7_count_7 : decode cX7_count 7 = .ok (.ifCond .eq 21, 3) := by decide +kernel
theorem dX7_count_10 : decode cX7_count 10 = .ok (.aload_n 0, 1) := by decide +kernel
theorem dX7_count_11 : decode cX7_count 11 = .ok (.invokevirtual 62, 3) := by decide +kernel
theorem dX7_count_14 : decode cX7_count 14 = .ok (.ifCond .eq 11, 3) := by decide +kernel
theorem dX7_count_17 : decode cX7_count 17 = .ok (.aload_n 0, 1) := by decide +kernel
theorem dX7_count_18 : decode cX7_count 18 = .ok (.iload_n 1, 1) := by decide +kernel
theorem dX7_count_19 : decode cX7_count 19 = .ok (.invokevirtual 172, 3) := by decide +kernel
theorem dX7_count_22 : decode cX7_count 22 = .ok (.goto 5, 3) := by decide +kernel
theorem dX7_count_25 : decode cX7_count 25 = .ok (.bipush (-6), 2) := by decide +kernel
theorem dX7_count_27 : decode cX7_count 27 = .ok (.ireturn, 1) := by decide +kernel
theorem dX7_count_28 : decode cX7_count 28 = .ok (.iload_n 1, 1) := by decide +kernel
theorem dX7_count_29 : decode cX7_count 29 = .ok (.bipush 13, 2) := by decide +kernel
theorem dX7_count_31 : decode cX7_count 31 = .ok (.bipush 18, 2) := by decide +kernel
theorem dX7_count_33 : decode cX7_count 33 = .ok (.invokestatic 43, 3) := by decide +kernel
theorem dX7_count_36 : decode cX7_count 36 = .ok (.ifCond .eq 12, 3) := by decide +kernel
theorem dX7_count_39 : decode cX7_count 39 = .ok (.aload_n 0, 1) := by decide +kernel
theorem dX7_count_40 : decode cX7_count 40 = .ok (.iload_n 1, 1) := by decide +kernel
theorem dX7_count_41 : decode cX7_count 41 = .ok (.bipush 13, 2) := by decide +kernel
theorem dX7_count_43 : decode cX7_count 43 = .ok (.isub, 1) := by decide +kernel
theorem dX7_count_44 : decode cX7_count 44 = .ok (.invokevirtual 51, 3) := by decide +kernel
theorem dX7_count_47 : decode cX7_count 47 = .ok (.ireturn, 1) := by decide +kernel
theorem dX7_count_48 : decode cX7_count 48 = .ok (.iload_n 1, 1) := by decide +kernel
theorem dX7_count_49 : decode cX7_count 49 = .ok (.tableswitch 115 0 12 #[67, 74, 81, 86, 91, 115, 115, 115, 115, 115, 98, 104, 110], 67) := by decide +kernel
theorem dX7_count_116 : decode cX7_count 116 = .ok (.aload_n 0, 1) := by decide +kernel
theorem dX7_count_117 : decode cX7_count 117 = .ok (.getfield 7, 3) := by decide +kernel
theorem dX7_count_120 : decode cX7_count 120 = .ok (.iconst 0, 1) := by decide +kernel
theorem dX7_count_121 : decode cX7_count 121 = .ok (.iaload, 1) := by decide +kernel
theorem dX7_count_122 : decode cX7_count 122 = .ok (.ireturn, 1) := by decide +kernel
theorem dX7_count_123 : decode cX7_count 123 = .ok (.aload_n 0, 1) := by decide +kernel
theorem dX7_count_124 : decode cX7_count 124 = .ok (.getfield 7, 3) := by decide +kernel
theorem dX7_count_127 : decode cX7_count 127 = .ok (.iconst 1, 1) := by decide +kernel
theorem dX7_count_128 : decode cX7_count 128 = .ok (.iaload, 1) := by decide +kernel
theorem dX7_count_129 : decode cX7_count 129 = .ok (.ireturn, 1) := by decide +kernel
theorem dX7_count_130 : decode cX7_count 130 = .ok (.aload_n 0, 1) := by decide +kernel
theorem dX7_count_131 : decode cX7_count 131 = .ok (.invokevirtual 89, 3) := by decide +kernel
theorem dX7_count_134 : decode cX7_count 134 = .ok (.ireturn, 1) := by decide +kernel
theorem dX7_count_135 : decode cX7_count 135 = .ok (.aload_n 0, 1) := by decide +kernel
theorem dX7_count_136 : decode cX7_count 136 = .ok (.invokevirtual 93, 3) := by decide +kernel
theorem dX7_count_139 : decode cX7_count 139 = .ok (.ireturn, 1) := by decide +kernel
theorem dX7_count_140 : decode cX7_count 140 = .ok (.aload_n 0, 1) := by decide +kernel
theorem dX7_count_141 : decode cX7_count 141 = .ok (.getfield 7, 3) := by decide +kernel
theorem dX7_count_144 : decode cX7_count 144 = .ok (.iconst 3, 1) := by decide +kernel
theorem dX7_count_145 : decode cX7_count 145 = .ok (.iaload, 1) := by decide +kernel
theorem dX7_count_146 : decode cX7_count 146 = .ok (.ireturn, 1) := by decide +kernel
theorem dX7_count_147 : decode cX7_count 147 = .ok (.aload_n 0, 1) := by decide +kernel
theorem dX7_count_148 : decode cX7_count 148 = .ok (.iconst 0, 1) := by decide +kernel
theorem dX7_count_149 : decode cX7_count 149 = .ok (.invokevirtual 175, 3) := by decide +kernel
theorem dX7_count_152 : decode cX7_count 152 = .ok (.ireturn, 1) := by decide +kernel
theorem dX7_count_153 : decode cX7_count 153 = .ok (.aload_n 0, 1) := by decide +kernel
theorem dX7_count_154 : decode cX7_count 154 = .ok (.iconst 2, 1) := by decide +kernel
theorem dX7_count_155 : decode cX7_count 155 = .ok (.invokevirtual 175, 3) := by decide +kernel
theorem dX7_count_158 : decode cX7_count 158 = .ok (.ireturn, 1) := by decide +kernel
theorem dX7_count_159 : decode cX7_count 159 = .ok (.aload_n 0, 1) := by decide +kernel
theorem dX7_count_160 : decode cX7_count 160 = .ok (.getfield 178, 3) := by decide +kernel
theorem dX7_count_163 : decode cX7_count 163 = .ok (.ireturn, 1) := by decide +kernel
theorem dX7_count_164 : decode cX7_count 164 = .ok (.bipush (-2), 2) := by decide +kernel
theorem dX7_count_166 : decode cX7_count 166 = .ok (.ireturn, 1) := by decide +kernel
theorem dX7_layWays_0 : decode cX7_layWays 0 = .ok (.iconst 0, 1) := by decide +kernel
theorem dX7_layWays_1 : decode cX7_layWays 1 = .ok (.istore_n 2, 1) := by decide +kernel
theorem dX7_layWays_2 : decode cX7_layWays 2 = .ok (.iload_n 2, 1) := by decide +kernel
theorem dX7_layWays_3 : decode cX7_layWays 3 = .ok (.sipush 1801, 3) := by decide +kernel
theorem dX7_layWays_6 : decode cX7_layWays 6 = .ok (.if_icmp .ge 24, 3) := by decide +kernel
theorem dX7_layWays_9 : decode cX7_layWays 9 = .ok (.aload_n 0, 1) := by decide +kernel
theorem dX7_layWays_10 : decode cX7_layWays 10 = .ok (.getfield 29, 3) := by decide +kernel
theorem dX7_layWays_13 : decode cX7_layWays 13 = .ok (.iload_n 2, 1) := by decide +kernel
theorem dX7_layWays_14 : decode cX7_layWays 14 = .ok (.iload_n 2, 1) := by decide +kernel
theorem dX7_layWays_15 : decode cX7_layWays 15 = .ok (.ifCond .ne 7, 3) := by decide +kernel
theorem dX7_layWays_18 : decode cX7_layWays 18 = .ok (.lconst 1, 1) := by decide +kernel
theorem dX7_layWays_19 : decode cX7_layWays 19 = .ok (.goto 4, 3) := by decide +kernel
theorem dX7_layWays_22 : decode cX7_layWays 22 = .ok (.lconst 0, 1) := by decide +kernel
theorem dX7_layWays_23 : decode cX7_layWays 23 = .ok (.lastore, 1) := by decide +kernel
theorem dX7_layWays_24 : decode cX7_layWays 24 = .ok (.iinc 2 1, 3) := by decide +kernel
theorem dX7_layWays_27 : decode cX7_layWays 27 = .ok (.goto (-25), 3) := by decide +kernel
theorem dX7_layWays_30 : decode cX7_layWays 30 = .ok (.iconst 0, 1) := by decide +kernel
theorem dX7_layWays_31 : decode cX7_layWays 31 = .ok (.istore_n 2, 1) := by decide +kernel
theorem dX7_layWays_32 : decode cX7_layWays 32 = .ok (.iload_n 2, 1) := by decide +kernel
theorem dX7_layWays_33 : decode cX7_layWays 33 = .ok (.aload_n 0, 1) := by decide +kernel
theorem dX7_layWays_34 : decode cX7_layWays 34 = .ok (.getfield 7, 3) := by decide +kernel
theorem dX7_layWays_37 : decode cX7_layWays 37 = .ok (.iconst 0, 1) := by decide +kernel
theorem dX7_layWays_38 : decode cX7_layWays 38 = .ok (.iaload, 1) := by decide +kernel
theorem dX7_layWays_39 : decode cX7_layWays 39 = .ok (.if_icmp .ge 30, 3) := by decide +kernel
theorem dX7_layWays_42 : decode cX7_layWays 42 = .ok (.iload_n 2, 1) := by decide +kernel
theorem dX7_layWays_43 : decode cX7_layWays 43 = .ok (.iload_n 1, 1) := by decide +kernel
theorem dX7_layWays_44 : decode cX7_layWays 44 = .ok (.if_icmp .eq 19, 3) := by decide +kernel
theorem dX7_layWays_47 : decode cX7_layWays 47 = .ok (.aload_n 0, 1) := by decide +kernel
theorem dX7_layWays_48 : decode cX7_layWays 48 = .ok (.aload_n 0, 1) := by decide +kernel
theorem dX7_layWays_49 : decode cX7_layWays 49 = .ok (.iload_n 2, 1) := by decide +kernel
theorem dX7_layWays_50 : decode cX7_layWays 50 = .ok (.iconst 3, 1) := by decide +kernel
theorem dX7_layWays_51 : decode cX7_layWays 51 = .ok (.invokevirtual 70, 3) := by decide +kernel
theorem dX7_layWays_54 : decode cX7_layWays 54 = .ok (.aload_n 0, 1) := by decide +kernel
theorem dX7_layWays_55 : decode cX7_layWays 55 = .ok (.iload_n 2, 1) := by decide +kernel
theorem dX7_layWays_56 : decode cX7_layWays 56 = .ok (.iconst 4, 1) := by decide +kernel
theorem dX7_layWays_57 : decode cX7_layWays 57 = .ok (.invokevirtual 70, 3) := by decide +kernel
theorem dX7_layWays_60 : decode cX7_layWays 60 = .ok (.invokevirtual 182, 3) := by decide +kernel
theorem dX7_layWays_63 : decode cX7_layWays 63 = .ok (.iinc 2 1, 3) := by decide +kernel
theorem dX7_layWays_66 : decode cX7_layWays 66 = .ok (.goto (-34), 3) := by decide +kernel
theorem dX7_layWays_69 : decode cX7_layWays 69 = .ok (.return_, 1) := by decide +kernel
theorem dX7_addPurse_0 : decode cX7_addPurse 0 = .ok (.iconst 0, 1) := by decide +kernel
theorem dX7_addPurse_1 : decode cX7_addPurse 1 = .ok (.istore_n 3, 1) := by decide +kernel
theorem dX7_addPurse_2 : decode cX7_addPurse 2 = .ok (.iload_n 3, 1) := by decide +kernel
theorem dX7_addPurse_3 : decode cX7_addPurse 3 = .ok (.sipush 1801, 3) := by decide +kernel
theorem dX7_addPurse_6 : decode cX7_addPurse 6 = .ok (.if_icmp .ge 21, 3) := by decide +kernel
theorem dX7_addPurse_9 : decode cX7_addPurse 9 = .ok (.aload_n 0, 1) := by decide +kernel
theorem dX7_addPurse_10 : decode cX7_addPurse 10 = .ok (.getfield 33, 3) := by decide +kernel
theorem dX7_addPurse_13 : decode cX7_addPurse 13 = .ok (.iload_n 3, 1) := by decide +kernel
theorem dX7_addPurse_14 : decode cX7_addPurse 14 = .ok (.aload_n 0, 1) := by decide +kernel
theorem dX7_addPurse_15 : decode cX7_addPurse 15 = .ok (.getfield 29, 3) := by decide +kernel
theorem dX7_addPurse_18 : decode cX7_addPurse 18 = .ok (.iload_n 3, 1) := by decide +kernel
theorem dX7_addPurse_19 : decode cX7_addPurse 19 = .ok (.laload, 1) := by decide +kernel
theorem dX7_addPurse_20 : decode cX7_addPurse 20 = .ok (.lastore, 1) := by decide +kernel
theorem dX7_addPurse_21 : decode cX7_addPurse 21 = .ok (.iinc 3 1, 3) := by decide +kernel
theorem dX7_addPurse_24 : decode cX7_addPurse 24 = .ok (.goto (-22), 3) := by decide +kernel
theorem dX7_addPurse_27 : decode cX7_addPurse 27 = .ok (.lconst 0, 1) := by decide +kernel
theorem dX7_addPurse_28 : decode cX7_addPurse 28 = .ok (.lstore_n 3, 1) := by decide +kernel
theorem dX7_addPurse_29 : decode cX7_addPurse 29 = .ok (.iconst 0, 1) := by decide +kernel
theorem dX7_addPurse_30 : decode cX7_addPurse 30 = .ok (.istore 5, 2) := by decide +kernel
theorem dX7_addPurse_32 : decode cX7_addPurse 32 = .ok (.iload 5, 2) := by decide +kernel
theorem dX7_addPurse_34 : decode cX7_addPurse 34 = .ok (.sipush 1801, 3) := by decide +kernel
theorem dX7_addPurse_37 : decode cX7_addPurse 37 = .ok (.if_icmp .ge 63, 3) := by decide +kernel
theorem dX7_addPurse_40 : decode cX7_addPurse 40 = .ok (.lload_n 3, 1) := by decide +kernel
theorem dX7_addPurse_41 : decode cX7_addPurse 41 = .ok (.iload 5, 2) := by decide +kernel
theorem dX7_addPurse_43 : decode cX7_addPurse 43 = .ok (.iload_n 1, 1) := by decide +kernel
theorem dX7_addPurse_44 : decode cX7_addPurse 44 = .ok (.if_icmp .lt 15, 3) := by decide +kernel
theorem dX7_addPurse_47 : decode cX7_addPurse 47 = .ok (.aload_n 0, 1) := by decide +kernel
theorem dX7_addPurse_48 : decode cX7_addPurse 48 = .ok (.getfield 33, 3) := by decide +kernel
theorem dX7_addPurse_51 : decode cX7_addPurse 51 = .ok (.iload 5, 2) := by decide +kernel
theorem dX7_addPurse_53 : decode cX7_addPurse 53 = .ok (.iload_n 1, 1) := by decide +kernel
theorem dX7_addPurse_54 : decode cX7_addPurse 54 = .ok (.isub, 1) := by decide +kernel
theorem dX7_addPurse_55 : decode cX7_addPurse 55 = .ok (.laload, 1) := by decide +kernel
theorem dX7_addPurse_56 : decode cX7_addPurse 56 = .ok (.goto 4, 3) := by decide +kernel
theorem dX7_addPurse_59 : decode cX7_addPurse 59 = .ok (.lconst 0, 1) := by decide +kernel
theorem dX7_addPurse_60 : decode cX7_addPurse 60 = .ok (.ladd, 1) := by decide +kernel
theorem dX7_addPurse_61 : decode cX7_addPurse 61 = .ok (.lstore_n 3, 1) := by decide +kernel
theorem dX7_addPurse_62 : decode cX7_addPurse 62 = .ok (.lload_n 3, 1) := by decide +kernel
theorem dX7_addPurse_63 : decode cX7_addPurse 63 = .ok (.iload 5, 2) := by decide +kernel
theorem dX7_addPurse_65 : decode cX7_addPurse 65 = .ok (.iload_n 2, 1) := by decide +kernel
theorem dX7_addPurse_66 : decode cX7_addPurse 66 = .ok (.if_icmp .le 17, 3) := by decide +kernel
theorem dX7_addPurse_69 : decode cX7_addPurse 69 = .ok (.aload_n 0, 1) := by decide +kernel
theorem dX7_addPurse_70 : decode cX7_addPurse 70 = .ok (.getfield 33, 3) := by decide +kernel
theorem dX7_addPurse_73 : decode cX7_addPurse 73 = .ok (.iload 5, 2) := by decide +kernel
theorem dX7_addPurse_75 : decode cX7_addPurse 75 = .ok (.iload_n 2, 1) := by decide +kernel
theorem dX7_addPurse_76 : decode cX7_addPurse 76 = .ok (.isub, 1) := by decide +kernel
theorem dX7_addPurse_77 : decode cX7_addPurse 77 = .ok (.iconst 1, 1) := by decide +kernel
theorem dX7_addPurse_78 : decode cX7_addPurse 78 = .ok (.isub, 1) := by decide +kernel
theorem dX7_addPurse_79 : decode cX7_addPurse 79 = .ok (.laload, 1) := by decide +kernel
theorem dX7_addPurse_80 : decode cX7_addPurse 80 = .ok (.goto 4, 3) := by decide +kernel
theorem dX7_addPurse_83 : decode cX7_addPurse 83 = .ok (.lconst 0, 1) := by decide +kernel
theorem dX7_addPurse_84 : decode cX7_addPurse 84 = .ok (.lsub, 1) := by decide +kernel
theorem dX7_addPurse_85 : decode cX7_addPurse 85 = .ok (.lstore_n 3, 1) := by decide +kernel
theorem dX7_addPurse_86 : decode cX7_addPurse 86 = .ok (.aload_n 0, 1) := by decide +kernel
theorem dX7_addPurse_87 : decode cX7_addPurse 87 = .ok (.getfield 29, 3) := by decide +kernel
theorem dX7_addPurse_90 : decode cX7_addPurse 90 = .ok (.iload 5, 2) := by decide +kernel
theorem dX7_addPurse_92 : decode cX7_addPurse 92 = .ok (.lload_n 3, 1) := by decide +kernel
theorem dX7_addPurse_93 : decode cX7_addPurse 93 = .ok (.lastore, 1) := by decide +kernel
theorem dX7_addPurse_94 : decode cX7_addPurse 94 = .ok (.iinc 5 1, 3) := by decide +kernel
theorem dX7_addPurse_97 : decode cX7_addPurse 97 = .ok (.goto (-65), 3) := by decide +kernel
theorem dX7_addPurse_100 : decode cX7_addPurse 100 = .ok (.return_, 1) := by decide +kernel
theorem dX7_ways_0 : decode cX7_ways 0 = .ok (.aload_n 0, 1) := by decide +kernel
theorem dX7_ways_1 : decode cX7_ways 1 = .ok (.bipush (-6), 2) := by decide +kernel
theorem dX7_ways_3 : decode cX7_ways 3 = .ok (.invokevirtual 185, 3) := by decide +kernel
theorem dX7_ways_6 : decode cX7_ways 6 = .ok (.aload_n 0, 1) := by decide +kernel
theorem dX7_ways_7 : decode cX7_ways 7 = .ok (.getfield 29, 3) := by decide +kernel
theorem dX7_ways_10 : decode cX7_ways 10 = .ok (.aload_n 0, 1) := by decide +kernel
theorem dX7_ways_11 : decode cX7_ways 11 = .ok (.iconst 0, 1) := by decide +kernel
theorem dX7_ways_12 : decode cX7_ways 12 = .ok (.invokevirtual 175, 3) := by decide +kernel
theorem dX7_ways_15 : decode cX7_ways 15 = .ok (.laload, 1) := by decide +kernel
theorem dX7_ways_16 : decode cX7_ways 16 = .ok (.lreturn, 1) := by decide +kernel
theorem dX7_extreme_0 : decode cX7_extreme 0 = .ok (.aload_n 0, 1) := by decide +kernel
theorem dX7_extreme_1 : decode cX7_extreme 1 = .ok (.iconst 0, 1) := by decide +kernel
theorem dX7_extreme_2 : decode cX7_extreme 2 = .ok (.invokevirtual 175, 3) := by decide +kernel
theorem dX7_extreme_5 : decode cX7_extreme 5 = .ok (.istore_n 3, 1) := by decide +kernel
theorem dX7_extreme_6 : decode cX7_extreme 6 = .ok (.iconst 0, 1) := by decide +kernel
theorem dX7_extreme_7 : decode cX7_extreme 7 = .ok (.istore 4, 2) := by decide +kernel
theorem dX7_extreme_9 : decode cX7_extreme 9 = .ok (.iload 4, 2) := by decide +kernel
theorem dX7_extreme_11 : decode cX7_extreme 11 = .ok (.aload_n 0, 1) := by decide +kernel
theorem dX7_extreme_12 : decode cX7_extreme 12 = .ok (.getfield 7, 3) := by decide +kernel
theorem dX7_extreme_15 : decode cX7_extreme 15 = .ok (.iconst 0, 1) := by decide +kernel
theorem dX7_extreme_16 : decode cX7_extreme 16 = .ok (.iaload, 1) := by decide +kernel
theorem dX7_extreme_17 : decode cX7_extreme 17 = .ok (.if_icmp .ge 37, 3) := by decide +kernel
theorem dX7_extreme_20 : decode cX7_extreme 20 = .ok (.iload_n 3, 1) := by decide +kernel
theorem dX7_extreme_21 : decode cX7_extreme 21 = .ok (.iload 4, 2) := by decide +kernel
theorem dX7_extreme_23 : decode cX7_extreme 23 = .ok (.iload_n 1, 1) := by decide +kernel
theorem dX7_extreme_24 : decode cX7_extreme 24 = .ok (.if_icmp .ne 7, 3) := by decide +kernel
theorem dX7_extreme_27 : decode cX7_extreme 27 = .ok (.iconst 0, 1) := by decide +kernel
theorem dX7_extreme_28 : decode cX7_extreme 28 = .ok (.goto 18, 3) := by decide +kernel
theorem dX7_extreme_31 : decode cX7_extreme 31 = .ok (.aload_n 0, 1) := by decide +kernel
theorem dX7_extreme_32 : decode cX7_extreme 32 = .ok (.iload 4, 2) := by decide +kernel
theorem dX7_extreme_34 : decode cX7_extreme 34 = .ok (.iload_n 2, 1) := by decide +kernel
theorem dX7_extreme_35 : decode cX7_extreme 35 = .ok (.ifCond .eq 7, 3) := by decide +kernel
theorem dX7_extreme_38 : decode cX7_extreme 38 = .ok (.iconst 4, 1) := by decide +kernel
theorem dX7_extreme_39 : decode cX7_extreme 39 = .ok (.goto 4, 3) := by decide +kernel
theorem dX7_extreme_42 : decode cX7_extreme 42 = .ok (.iconst 3, 1) := by decide +kernel
theorem dX7_extreme_43 : decode cX7_extreme 43 = .ok (.invokevirtual 70, 3) := by decide +kernel
theorem dX7_extreme_46 : decode cX7_extreme 46 = .ok (.isub, 1) := by decide +kernel
theorem dX7_extreme_47 : decode cX7_extreme 47 = .ok (.istore_n 3, 1) := by decide +kernel
theorem dX7_extreme_48 : decode cX7_extreme 48 = .ok (.iinc 4 1, 3) := by decide +kernel
theorem dX7_extreme_51 : decode cX7_extreme 51 = .ok (.goto (-42), 3) := by decide +kernel
theorem dX7_extreme_54 : decode cX7_extreme 54 = .ok (.aload_n 0, 1) := by decide +kernel
theorem dX7_extreme_55 : decode cX7_extreme 55 = .ok (.iload_n 1, 1) := by decide +kernel
theorem dX7_extreme_56 : decode cX7_extreme 56 = .ok (.iload_n 2, 1) := by decide +kernel
theorem dX7_extreme_57 : decode cX7_extreme 57 = .ok (.ifCond .eq 7, 3) := by decide +kernel
theorem dX7_extreme_60 : decode cX7_extreme 60 = .ok (.iconst 3, 1) := by decide +kernel
theorem dX7_extreme_61 : decode cX7_extreme 61 = .ok (.goto 4, 3) := by decide +kernel
theorem dX7_extreme_64 : decode cX7_extreme 64 = .ok (.iconst 4, 1) := by decide +kernel
theorem dX7_extreme_65 : decode cX7_extreme 65 = .ok (.invokevirtual 70, 3) := by decide +kernel
theorem dX7_extreme_68 : decode cX7_extreme 68 = .ok (.istore 4, 2) := by decide +kernel
theorem dX7_extreme_70 : decode cX7_extreme 70 = .ok (.iload_n 2, 1) := by decide +kernel
theorem dX7_extreme_71 : decode cX7_extreme 71 = .ok (.ifCond .eq 18, 3) := by decide +kernel
theorem dX7_extreme_74 : decode cX7_extreme 74 = .ok (.iload_n 3, 1) := by decide +kernel
theorem dX7_extreme_75 : decode cX7_extreme 75 = .ok (.iload 4, 2) := by decide +kernel
theorem dX7_extreme_77 : decode cX7_extreme 77 = .ok (.if_icmp .le 7, 3) := by decide +kernel
theorem dX7_extreme_80 : decode cX7_extreme 80 = .ok (.iload_n 3, 1) := by decide +kernel
theorem dX7_extreme_81 : decode cX7_extreme 81 = .ok (.goto 20, 3) := by decide +kernel
theorem dX7_extreme_84 : decode cX7_extreme 84 = .ok (.iload 4, 2) := by decide +kernel
theorem dX7_extreme_86 : decode cX7_extreme 86 = .ok (.goto 15, 3) := by decide +kernel
theorem dX7_extreme_89 : decode cX7_extreme 89 = .ok (.iload_n 3, 1) := by decide +kernel
theorem dX7_extreme_90 : decode cX7_extreme 90 = .ok (.iload 4, 2) := by decide +kernel
theorem dX7_extreme_92 : decode cX7_extreme 92 = .ok (.if_icmp .ge 7, 3) := by decide +kernel
theorem dX7_extreme_95 : decode cX7_extreme 95 = .ok (.iload_n 3, 1) := by decide +kernel
theorem dX7_extreme_96 : decode cX7_extreme 96 = .ok (.goto 5, 3) := by decide +kernel
theorem dX7_extreme_99 : decode cX7_extreme 99 = .ok (.iload 4, 2) := by decide +kernel
theorem dX7_extreme_101 : decode cX7_extreme 101 = .ok (.ireturn, 1) := by decide +kernel
theorem dX7_average_0 : decode cX7_average 0 = .ok (.aload_n 0, 1) := by decide +kernel
theorem dX7_average_1 : decode cX7_average 1 = .ok (.iload_n 1, 1) := by decide +kernel
theorem dX7_average_2 : decode cX7_average 2 = .ok (.invokevirtual 185, 3) := by decide +kernel
theorem dX7_average_5 : decode cX7_average 5 = .ok (.aload_n 0, 1) := by decide +kernel
theorem dX7_average_6 : decode cX7_average 6 = .ok (.iconst 0, 1) := by decide +kernel
theorem dX7_average_7 : decode cX7_average 7 = .ok (.invokevirtual 175, 3) := by decide +kernel
theorem dX7_average_10 : decode cX7_average 10 = .ok (.istore_n 2, 1) := by decide +kernel
theorem dX7_average_11 : decode cX7_average 11 = .ok (.lconst 0, 1) := by decide +kernel
theorem dX7_average_12 : decode cX7_average 12 = .ok (.lstore_n 3, 1) := by decide +kernel
theorem dX7_average_13 : decode cX7_average 13 = .ok (.lconst 0, 1) := by decide +kernel
theorem dX7_average_14 : decode cX7_average 14 = .ok (.lstore 5, 2) := by decide +kernel
theorem dX7_average_16 : decode cX7_average 16 = .ok (.aload_n 0, 1) := by decide +kernel
theorem dX7_average_17 : decode cX7_average 17 = .ok (.iload_n 1, 1) := by decide +kernel
theorem dX7_average_18 : decode cX7_average 18 = .ok (.iconst 3, 1) := by decide +kernel
theorem dX7_average_19 : decode cX7_average 19 = .ok (.invokevirtual 70, 3) := by decide +kernel
theorem dX7_average_22 : decode cX7_average 22 = .ok (.istore 7, 2) := by decide +kernel
theorem dX7_average_24 : decode cX7_average 24 = .ok (.iload 7, 2) := by decide +kernel
theorem dX7_average_26 : decode cX7_average 26 = .ok (.aload_n 0, 1) := by decide +kernel
theorem dX7_average_27 : decode cX7_average 27 = .ok (.iload_n 1, 1) := by decide +kernel
theorem dX7_average_28 : decode cX7_average 28 = .ok (.iconst 4, 1) := by decide +kernel
theorem dX7_average_29 : decode cX7_average 29 = .ok (.invokevirtual 70, 3) := by decide +kernel
theorem dX7_average_32 : decode cX7_average 32 = .ok (.if_icmp .gt 45, 3) := by decide +kernel
theorem dX7_average_35 : decode cX7_average 35 = .ok (.iload 7, 2) := by decide +kernel
theorem dX7_average_37 : decode cX7_average 37 = .ok (.iload_n 2, 1) := by decide +kernel
theorem dX7_average_38 : decode cX7_average 38 = .ok (.if_icmp .gt 39, 3) := by decide +kernel
theorem dX7_average_41 : decode cX7_average 41 = .ok (.lload_n 3, 1) := by decide +kernel
theorem dX7_average_42 : decode cX7_average 42 = .ok (.aload_n 0, 1) := by decide +kernel
theorem dX7_average_43 : decode cX7_average 43 = .ok (.getfield 29, 3) := by decide +kernel
theorem dX7_average_46 : decode cX7_average 46 = .ok (.iload_n 2, 1) := by decide +kernel
theorem dX7_average_47 : decode cX7_average 47 = .ok (.iload 7, 2) := by decide +kernel
theorem dX7_average_49 : decode cX7_average 49 = .ok (.isub, 1) := by decide +kernel
theorem dX7_average_50 : decode cX7_average 50 = .ok (.laload, 1) := by decide +kernel
theorem dX7_average_51 : decode cX7_average 51 = .ok (.ladd, 1) := by decide +kernel
theorem dX7_average_52 : decode cX7_average 52 = .ok (.lstore_n 3, 1) := by decide +kernel
theorem dX7_average_53 : decode cX7_average 53 = .ok (.lload 5, 2) := by decide +kernel
theorem dX7_average_55 : decode cX7_average 55 = .ok (.iload 7, 2) := by decide +kernel
theorem dX7_average_57 : decode cX7_average 57 = .ok (.i2l, 1) := by decide +kernel
theorem dX7_average_58 : decode cX7_average 58 = .ok (.aload_n 0, 1) := by decide +kernel
theorem dX7_average_59 : decode cX7_average 59 = .ok (.getfield 29, 3) := by decide +kernel
theorem dX7_average_62 : decode cX7_average 62 = .ok (.iload_n 2, 1) := by decide +kernel
theorem dX7_average_63 : decode cX7_average 63 = .ok (.iload 7, 2) := by decide +kernel
theorem dX7_average_65 : decode cX7_average 65 = .ok (.isub, 1) := by decide +kernel
theorem dX7_average_66 : decode cX7_average 66 = .ok (.laload, 1) := by decide +kernel
theorem dX7_average_67 : decode cX7_average 67 = .ok (.lmul, 1) := by decide +kernel
theorem dX7_average_68 : decode cX7_average 68 = .ok (.ladd, 1) := by decide +kernel
theorem dX7_average_69 : decode cX7_average 69 = .ok (.lstore 5, 2) := by decide +kernel
theorem dX7_average_71 : decode cX7_average 71 = .ok (.iinc 7 1, 3) := by decide +kernel
theorem dX7_average_74 : decode cX7_average 74 = .ok (.goto (-50), 3) := by decide +kernel
theorem dX7_average_77 : decode cX7_average 77 = .ok (.lload 5, 2) := by decide +kernel
theorem dX7_average_79 : decode cX7_average 79 = .ok (.lload_n 3, 1) := by decide +kernel
theorem dX7_average_80 : decode cX7_average 80 = .ok (.ldiv, 1) := by decide +kernel
theorem dX7_average_81 : decode cX7_average 81 = .ok (.l2i, 1) := by decide +kernel
theorem dX7_average_82 : decode cX7_average 82 = .ok (.ireturn, 1) := by decide +kernel
theorem dX7_known_0 : decode cX7_known 0 = .ok (.aload_n 0, 1) := by decide +kernel
theorem dX7_known_1 : decode cX7_known 1 = .ok (.iload_n 1, 1) := by decide +kernel
theorem dX7_known_2 : decode cX7_known 2 = .ok (.invokevirtual 66, 3) := by decide +kernel
theorem dX7_known_5 : decode cX7_known 5 = .ok (.ifCond .ne 5, 3) := by decide +kernel
theorem dX7_known_8 : decode cX7_known 8 = .ok (.iconst (-1), 1) := by decide +kernel
theorem dX7_known_9 : decode cX7_known 9 = .ok (.ireturn, 1) := by decide +kernel
theorem dX7_known_10 : decode cX7_known 10 = .ok (.iload_n 2, 1) := by decide +kernel
theorem dX7_known_11 : decode cX7_known 11 = .ok (.tableswitch 67 0 4 #[33, 40, 47, 54, 61], 33) := by decide +kernel
theorem dX7_known_44 : decode cX7_known 44 = .ok (.aload_n 0, 1) := by decide +kernel
theorem dX7_known_45 : decode cX7_known 45 = .ok (.iload_n 1, 1) := by decide +kernel
theorem dX7_known_46 : decode cX7_known 46 = .ok (.iconst 3, 1) := by decide +kernel
theorem dX7_known_47 : decode cX7_known 47 = .ok (.invokevirtual 70, 3) := by decide +kernel
theorem dX7_known_50 : decode cX7_known 50 = .ok (.ireturn, 1) := by decide +kernel
theorem dX7_known_51 : decode cX7_known 51 = .ok (.aload_n 0, 1) := by decide +kernel
theorem dX7_known_52 : decode cX7_known 52 = .ok (.iload_n 1, 1) := by decide +kernel
theorem dX7_known_53 : decode cX7_known 53 = .ok (.iconst 4, 1) := by decide +kernel
theorem dX7_known_54 : decode cX7_known 54 = .ok (.invokevirtual 70, 3) := by decide +kernel
theorem dX7_known_57 : decode cX7_known 57 = .ok (.ireturn, 1) := by decide +kernel
theorem dX7_known_58 : decode cX7_known 58 = .ok (.aload_n 0, 1) := by decide +kernel
theorem dX7_known_59 : decode cX7_known 59 = .ok (.iload_n 1, 1) := by decide +kernel
theorem dX7_known_60 : decode cX7_known 60 = .ok (.iconst 1, 1) := by decide +kernel
theorem dX7_known_61 : decode cX7_known 61 = .ok (.invokevirtual 188, 3) := by decide +kernel
theorem dX7_known_64 : decode cX7_known 64 = .ok (.ireturn, 1) := by decide +kernel
theorem dX7_known_65 : decode cX7_known 65 = .ok (.aload_n 0, 1) := by decide +kernel
theorem dX7_known_66 : decode cX7_known 66 = .ok (.iload_n 1, 1) := by decide +kernel
theorem dX7_known_67 : decode cX7_known 67 = .ok (.iconst 0, 1) := by decide +kernel
theorem dX7_known_68 : decode cX7_known 68 = .ok (.invokevirtual 188, 3) := by decide +kernel
theorem dX7_known_71 : decode cX7_known 71 = .ok (.ireturn, 1) := by decide +kernel
theorem dX7_known_72 : decode cX7_known 72 = .ok (.aload_n 0, 1) := by decide +kernel
theorem dX7_known_73 : decode cX7_known 73 = .ok (.iload_n 1, 1) := by decide +kernel
theorem dX7_known_74 : decode cX7_known 74 = .ok (.invokevirtual 192, 3) := by decide +kernel
theorem dX7_known_77 : decode cX7_known 77 = .ok (.ireturn, 1) := by decide +kernel
theorem dX7_known_78 : decode cX7_known 78 = .ok (.bipush (-2), 2) := by decide +kernel
theorem dX7_known_80 : decode cX7_known 80 = .ok (.ireturn, 1) := by decide +kernel
theorem dX7_canPay_0 : decode cX7_canPay 0 = .ok (.aload_n 0, 1) := by decide +kernel
theorem dX7_canPay_1 : decode cX7_canPay 1 = .ok (.iload_n 1, 1) := by decide +kernel
theorem dX7_canPay_2 : decode cX7_canPay 2 = .ok (.invokevirtual 66, 3) := by decide +kernel
theorem dX7_canPay_5 : decode cX7_canPay 5 = .ok (.ifCond .ne 7, 3) := by decide +kernel
theorem dX7_canPay_8 : decode cX7_canPay 8 = .ok (.ldc2_w 195, 3) := by decide +kernel
theorem dX7_canPay_11 : decode cX7_canPay 11 = .ok (.lreturn, 1) := by decide +kernel
theorem dX7_canPay_12 : decode cX7_canPay 12 = .ok (.iload_n 2, 1) := by decide +kernel
theorem dX7_canPay_13 : decode cX7_canPay 13 = .ok (.iconst 0, 1) := by decide +kernel
theorem dX7_canPay_14 : decode cX7_canPay 14 = .ok (.sipush 300, 3) := by decide +kernel
theorem dX7_canPay_17 : decode cX7_canPay 17 = .ok (.invokestatic 43, 3) := by decide +kernel
theorem dX7_canPay_20 : decode cX7_canPay 20 = .ok (.ifCond .ne 7, 3) := by decide +kernel
theorem dX7_canPay_23 : decode cX7_canPay 23 = .ok (.ldc2_w 197, 3) := by decide +kernel
theorem dX7_canPay_26 : decode cX7_canPay 26 = .ok (.lreturn, 1) := by decide +kernel
theorem dX7_canPay_27 : decode cX7_canPay 27 = .ok (.aload_n 0, 1) := by decide +kernel
theorem dX7_canPay_28 : decode cX7_canPay 28 = .ok (.iload_n 1, 1) := by decide +kernel
theorem dX7_canPay_29 : decode cX7_canPay 29 = .ok (.invokevirtual 185, 3) := by decide +kernel
theorem dX7_canPay_32 : decode cX7_canPay 32 = .ok (.aload_n 0, 1) := by decide +kernel
theorem dX7_canPay_33 : decode cX7_canPay 33 = .ok (.iconst 0, 1) := by decide +kernel
theorem dX7_canPay_34 : decode cX7_canPay 34 = .ok (.invokevirtual 175, 3) := by decide +kernel
theorem dX7_canPay_37 : decode cX7_canPay 37 = .ok (.istore_n 3, 1) := by decide +kernel
theorem dX7_canPay_38 : decode cX7_canPay 38 = .ok (.lconst 0, 1) := by decide +kernel
theorem dX7_canPay_39 : decode cX7_canPay 39 = .ok (.lstore 4, 2) := by decide +kernel
theorem dX7_canPay_41 : decode cX7_canPay 41 = .ok (.aload_n 0, 1) := by decide +kernel
theorem dX7_canPay_42 : decode cX7_canPay 42 = .ok (.iload_n 1, 1) := by decide +kernel
theorem dX7_canPay_43 : decode cX7_canPay 43 = .ok (.iconst 3, 1) := by decide +kernel
theorem dX7_canPay_44 : decode cX7_canPay 44 = .ok (.invokevirtual 70, 3) := by decide +kernel
theorem dX7_canPay_47 : decode cX7_canPay 47 = .ok (.istore 6, 2) := by decide +kernel
theorem dX7_canPay_49 : decode cX7_canPay 49 = .ok (.iload 6, 2) := by decide +kernel
theorem dX7_canPay_51 : decode cX7_canPay 51 = .ok (.aload_n 0, 1) := by decide +kernel
theorem dX7_canPay_52 : decode cX7_canPay 52 = .ok (.iload_n 1, 1) := by decide +kernel
theorem dX7_canPay_53 : decode cX7_canPay 53 = .ok (.iconst 4, 1) := by decide +kernel
theorem dX7_canPay_54 : decode cX7_canPay 54 = .ok (.invokevirtual 70, 3) := by decide +kernel
theorem dX7_canPay_57 : decode cX7_canPay 57 = .ok (.if_icmp .gt 39, 3) := by decide +kernel
theorem dX7_canPay_60 : decode cX7_canPay 60 = .ok (.iload 6, 2) := by decide +kernel
theorem dX7_canPay_62 : decode cX7_canPay 62 = .ok (.iload_n 3, 1) := by decide +kernel
theorem dX7_canPay_63 : decode cX7_canPay 63 = .ok (.if_icmp .gt 33, 3) := by decide +kernel
theorem dX7_canPay_66 : decode cX7_canPay 66 = .ok (.lload 4, 2) := by decide +kernel
theorem dX7_canPay_68 : decode cX7_canPay 68 = .ok (.iload 6, 2) := by decide +kernel
theorem dX7_canPay_70 : decode cX7_canPay 70 = .ok (.iload_n 2, 1) := by decide +kernel
theorem dX7_canPay_71 : decode cX7_canPay 71 = .ok (.if_icmp .lt 15, 3) := by decide +kernel
theorem dX7_canPay_74 : decode cX7_canPay 74 = .ok (.aload_n 0, 1) := by decide +kernel
theorem dX7_canPay_75 : decode cX7_canPay 75 = .ok (.getfield 29, 3) := by decide +kernel
theorem dX7_canPay_78 : decode cX7_canPay 78 = .ok (.iload_n 3, 1) := by decide +kernel
theorem dX7_canPay_79 : decode cX7_canPay 79 = .ok (.iload 6, 2) := by decide +kernel
theorem dX7_canPay_81 : decode cX7_canPay 81 = .ok (.isub, 1) := by decide +kernel
theorem dX7_canPay_82 : decode cX7_canPay 82 = .ok (.laload, 1) := by decide +kernel
theorem dX7_canPay_83 : decode cX7_canPay 83 = .ok (.goto 4, 3) := by decide +kernel
theorem dX7_canPay_86 : decode cX7_canPay 86 = .ok (.lconst 0, 1) := by decide +kernel
theorem dX7_canPay_87 : decode cX7_canPay 87 = .ok (.ladd, 1) := by decide +kernel
theorem dX7_canPay_88 : decode cX7_canPay 88 = .ok (.lstore 4, 2) := by decide +kernel
theorem dX7_canPay_90 : decode cX7_canPay 90 = .ok (.iinc 6 1, 3) := by decide +kernel
theorem dX7_canPay_93 : decode cX7_canPay 93 = .ok (.goto (-44), 3) := by decide +kernel
theorem dX7_canPay_96 : decode cX7_canPay 96 = .ok (.lload 4, 2) := by decide +kernel
theorem dX7_canPay_98 : decode cX7_canPay 98 = .ok (.lreturn, 1) := by decide +kernel
theorem dX7_putAside_0 : decode cX7_putAside 0 = .ok (.iconst 0, 1) := by decide +kernel
theorem dX7_putAside_1 : decode cX7_putAside 1 = .ok (.istore_n 1, 1) := by decide +kernel
theorem dX7_putAside_2 : decode cX7_putAside 2 = .ok (.iload_n 1, 1) := by decide +kernel
theorem dX7_putAside_3 : decode cX7_putAside 3 = .ok (.bipush 118, 2) := by decide +kernel
theorem dX7_putAside_5 : decode cX7_putAside 5 = .ok (.if_icmp .ge 21, 3) := by decide +kernel
theorem dX7_putAside_8 : decode cX7_putAside 8 = .ok (.aload_n 0, 1) := by decide +kernel
theorem dX7_putAside_9 : decode cX7_putAside 9 = .ok (.getfield 13, 3) := by decide +kernel
theorem dX7_putAside_12 : decode cX7_putAside 12 = .ok (.iload_n 1, 1) := by decide +kernel
theorem dX7_putAside_13 : decode cX7_putAside 13 = .ok (.aload_n 0, 1) := by decide +kernel
theorem dX7_putAside_14 : decode cX7_putAside 14 = .ok (.getfield 7, 3) := by decide +kernel
theorem dX7_putAside_17 : decode cX7_putAside 17 = .ok (.iload_n 1, 1) := by decide +kernel
theorem dX7_putAside_18 : decode cX7_putAside 18 = .ok (.iaload, 1) := by decide +kernel
theorem dX7_putAside_19 : decode cX7_putAside 19 = .ok (.iastore, 1) := by decide +kernel
theorem dX7_putAside_20 : decode cX7_putAside 20 = .ok (.iinc 1 1, 3) := by decide +kernel
theorem dX7_putAside_23 : decode cX7_putAside 23 = .ok (.goto (-21), 3) := by decide +kernel
theorem dX7_putAside_26 : decode cX7_putAside 26 = .ok (.return_, 1) := by decide +kernel
theorem dX7_putBack_0 : decode cX7_putBack 0 = .ok (.iconst 0, 1) := by decide +kernel
theorem dX7_putBack_1 : decode cX7_putBack 1 = .ok (.istore_n 1, 1) := by decide +kernel
theorem dX7_putBack_2 : decode cX7_putBack 2 = .ok (.iload_n 1, 1) := by decide +kernel
theorem dX7_putBack_3 : decode cX7_putBack 3 = .ok (.bipush 118, 2) := by decide +kernel
theorem dX7_putBack_5 : decode cX7_putBack 5 = .ok (.if_icmp .ge 21, 3) := by decide +kernel
theorem dX7_putBack_8 : decode cX7_putBack 8 = .ok (.aload_n 0, 1) := by decide +kernel
theorem dX7_putBack_9 : decode cX7_putBack 9 = .ok (.getfield 7, 3) := by decide +kernel
theorem dX7_putBack_12 : decode cX7_putBack 12 = .ok (.iload_n 1, 1) := by decide +kernel
theorem dX7_putBack_13 : decode cX7_putBack 13 = .ok (.aload_n 0, 1) := by decide +kernel
theorem dX7_putBack_14 : decode cX7_putBack 14 = .ok (.getfield 13, 3) := by decide +kernel
theorem dX7_putBack_17 : decode cX7_putBack 17 = .ok (.iload_n 1, 1) := by decide +kernel
theorem dX7_putBack_18 : decode cX7_putBack 18 = .ok (.iaload, 1) := by decide +kernel
theorem dX7_putBack_19 : decode cX7_putBack 19 = .ok (.iastore, 1) := by decide +kernel
theorem dX7_putBack_20 : decode cX7_putBack 20 = .ok (.iinc 1 1, 3) := by decide +kernel
theorem dX7_putBack_23 : decode cX7_putBack 23 = .ok (.goto (-21), 3) := by decide +kernel
theorem dX7_putBack_26 : decode cX7_putBack 26 = .ok (.return_, 1) := by decide +kernel
theorem dX7_scoreAtEnd_0 : decode cX7_scoreAtEnd 0 = .ok (.aload_n 0, 1) := by decide +kernel
theorem dX7_scoreAtEnd_1 : decode cX7_scoreAtEnd 1 = .ok (.invokevirtual 199, 3) := by decide +kernel
theorem dX7_scoreAtEnd_4 : decode cX7_scoreAtEnd 4 = .ok (.iconst 0, 1) := by decide +kernel
theorem dX7_scoreAtEnd_5 : decode cX7_scoreAtEnd 5 = .ok (.istore 4, 2) := by decide +kernel
theorem dX7_scoreAtEnd_7 : decode cX7_scoreAtEnd 7 = .ok (.aload_n 0, 1) := by decide +kernel
theorem dX7_scoreAtEnd_8 : decode cX7_scoreAtEnd 8 = .ok (.invokevirtual 89, 3) := by decide +kernel
theorem dX7_scoreAtEnd_11 : decode cX7_scoreAtEnd 11 = .ok (.ifCond .lt 45, 3) := by decide +kernel
theorem dX7_scoreAtEnd_14 : decode cX7_scoreAtEnd 14 = .ok (.iload 4, 2) := by decide +kernel
theorem dX7_scoreAtEnd_16 : decode cX7_scoreAtEnd 16 = .ok (.aload_n 0, 1) := by decide +kernel
theorem dX7_scoreAtEnd_17 : decode cX7_scoreAtEnd 17 = .ok (.invokevirtual 62, 3) := by decide +kernel
theorem dX7_scoreAtEnd_20 : decode cX7_scoreAtEnd 20 = .ok (.ifCond .eq 10, 3) := by decide +kernel
theorem dX7_scoreAtEnd_23 : decode cX7_scoreAtEnd 23 = .ok (.aload_n 0, 1) := by decide +kernel
theorem dX7_scoreAtEnd_24 : decode cX7_scoreAtEnd 24 = .ok (.invokevirtual 157, 3) := by decide +kernel
theorem dX7_scoreAtEnd_27 : decode cX7_scoreAtEnd 27 = .ok (.goto 23, 3) := by decide +kernel
theorem dX7_scoreAtEnd_30 : decode cX7_scoreAtEnd 30 = .ok (.aload_n 0, 1) := by decide +kernel
theorem dX7_scoreAtEnd_31 : decode cX7_scoreAtEnd 31 = .ok (.invokevirtual 96, 3) := by decide +kernel
theorem dX7_scoreAtEnd_34 : decode cX7_scoreAtEnd 34 = .ok (.ifCond .eq 10, 3) := by decide +kernel
theorem dX7_scoreAtEnd_37 : decode cX7_scoreAtEnd 37 = .ok (.aload_n 0, 1) := by decide +kernel
theorem dX7_scoreAtEnd_38 : decode cX7_scoreAtEnd 38 = .ok (.invokevirtual 160, 3) := by decide +kernel
theorem dX7_scoreAtEnd_41 : decode cX7_scoreAtEnd 41 = .ok (.goto 9, 3) := by decide +kernel
theorem dX7_scoreAtEnd_44 : decode cX7_scoreAtEnd 44 = .ok (.aload_n 0, 1) := by decide +kernel
theorem dX7_scoreAtEnd_45 : decode cX7_scoreAtEnd 45 = .ok (.iload_n 1, 1) := by decide +kernel
theorem dX7_scoreAtEnd_46 : decode cX7_scoreAtEnd 46 = .ok (.iload_n 2, 1) := by decide +kernel
theorem dX7_scoreAtEnd_47 : decode cX7_scoreAtEnd 47 = .ok (.invokevirtual 99, 3) := by decide +kernel
theorem dX7_scoreAtEnd_50 : decode cX7_scoreAtEnd 50 = .ok (.iadd, 1) := by decide +kernel
theorem dX7_scoreAtEnd_51 : decode cX7_scoreAtEnd 51 = .ok (.istore 4, 2) := by decide +kernel
theorem dX7_scoreAtEnd_53 : decode cX7_scoreAtEnd 53 = .ok (.goto (-46), 3) := by decide +kernel
theorem dX7_scoreAtEnd_56 : decode cX7_scoreAtEnd 56 = .ok (.aload_n 0, 1) := by decide +kernel
theorem dX7_scoreAtEnd_57 : decode cX7_scoreAtEnd 57 = .ok (.iload_n 3, 1) := by decide +kernel
theorem dX7_scoreAtEnd_58 : decode cX7_scoreAtEnd 58 = .ok (.invokevirtual 86, 3) := by decide +kernel
theorem dX7_scoreAtEnd_61 : decode cX7_scoreAtEnd 61 = .ok (.istore 4, 2) := by decide +kernel
theorem dX7_scoreAtEnd_63 : decode cX7_scoreAtEnd 63 = .ok (.aload_n 0, 1) := by decide +kernel
theorem dX7_scoreAtEnd_64 : decode cX7_scoreAtEnd 64 = .ok (.invokevirtual 202, 3) := by decide +kernel
theorem dX7_scoreAtEnd_67 : decode cX7_scoreAtEnd 67 = .ok (.iload 4, 2) := by decide +kernel
theorem dX7_scoreAtEnd_69 : decode cX7_scoreAtEnd 69 = .ok (.ireturn, 1) := by decide +kernel
theorem dX7_forecast_0 : decode cX7_forecast 0 = .ok (.aload_n 0, 1) := by decide +kernel
theorem dX7_forecast_1 : decode cX7_forecast 1 = .ok (.iload_n 3, 1) := by decide +kernel
theorem dX7_forecast_2 : decode cX7_forecast 2 = .ok (.invokevirtual 66, 3) := by decide +kernel
theorem dX7_forecast_5 : decode cX7_forecast 5 = .ok (.ifCond .ne 5, 3) := by decide +kernel
theorem dX7_forecast_8 : decode cX7_forecast 8 = .ok (.iconst (-1), 1) := by decide +kernel
theorem dX7_forecast_9 : decode cX7_forecast 9 = .ok (.ireturn, 1) := by decide +kernel
theorem dX7_forecast_10 : decode cX7_forecast 10 = .ok (.iload_n 1, 1) := by decide +kernel
theorem dX7_forecast_11 : decode cX7_forecast 11 = .ok (.iconst 0, 1) := by decide +kernel
theorem dX7_forecast_12 : decode cX7_forecast 12 = .ok (.iconst 2, 1) := by decide +kernel
theorem dX7_forecast_13 : decode cX7_forecast 13 = .ok (.invokestatic 43, 3) := by decide +kernel
theorem dX7_forecast_16 : decode cX7_forecast 16 = .ok (.ifCond .eq 24, 3) := by decide +kernel
theorem dX7_forecast_19 : decode cX7_forecast 19 = .ok (.iload_n 2, 1) := by decide +kernel
theorem dX7_forecast_20 : decode cX7_forecast 20 = .ok (.iconst 1, 1) := by decide +kernel
theorem dX7_forecast_21 : decode cX7_forecast 21 = .ok (.sipush 300, 3) := by decide +kernel
theorem dX7_forecast_24 : decode cX7_forecast 24 = .ok (.invokestatic 43, 3) := by decide +kernel
theorem dX7_forecast_27 : decode cX7_forecast 27 = .ok (.ifCond .eq 13, 3) := by decide +kernel
theorem dX7_forecast_30 : decode cX7_forecast 30 = .ok (.aload_n 0, 1) := by decide +kernel
theorem dX7_forecast_31 : decode cX7_forecast 31 = .ok (.iload_n 1, 1) := by decide +kernel
theorem dX7_forecast_32 : decode cX7_forecast 32 = .ok (.iload_n 2, 1) := by decide +kernel
theorem dX7_forecast_33 : decode cX7_forecast 33 = .ok (.iload_n 3, 1) := by decide +kernel
theorem dX7_forecast_34 : decode cX7_forecast 34 = .ok (.invokevirtual 205, 3) := by decide +kernel
theorem dX7_forecast_37 : decode cX7_forecast 37 = .ok (.goto 5, 3) := by decide +kernel
theorem dX7_forecast_40 : decode cX7_forecast 40 = .ok (.bipush (-2), 2) := by decide +kernel
theorem dX7_forecast_42 : decode cX7_forecast 42 = .ok (.ireturn, 1) := by decide +kernel
theorem dX7_bestMode_0 : decode cX7_bestMode 0 = .ok (.aload_n 0, 1) := by decide +kernel
theorem dX7_bestMode_1 : decode cX7_bestMode 1 = .ok (.iload_n 1, 1) := by decide +kernel
theorem dX7_bestMode_2 : decode cX7_bestMode 2 = .ok (.invokevirtual 66, 3) := by decide +kernel
theorem dX7_bestMode_5 : decode cX7_bestMode 5 = .ok (.ifCond .ne 5, 3) := by decide +kernel
theorem dX7_bestMode_8 : decode cX7_bestMode 8 = .ok (.iconst (-1), 1) := by decide +kernel
theorem dX7_bestMode_9 : decode cX7_bestMode 9 = .ok (.ireturn, 1) := by decide +kernel
theorem dX7_bestMode_10 : decode cX7_bestMode 10 = .ok (.iload_n 2, 1) := by decide +kernel
theorem dX7_bestMode_11 : decode cX7_bestMode 11 = .ok (.iconst 1, 1) := by decide +kernel
theorem dX7_bestMode_12 : decode cX7_bestMode 12 = .ok (.sipush 300, 3) := by decide +kernel
theorem dX7_bestMode_15 : decode cX7_bestMode 15 = .ok (.invokestatic 43, 3) := by decide +kernel
theorem dX7_bestMode_18 : decode cX7_bestMode 18 = .ok (.ifCond .ne 6, 3) := by decide +kernel
theorem dX7_bestMode_21 : decode cX7_bestMode 21 = .ok (.bipush (-2), 2) := by decide +kernel
theorem dX7_bestMode_23 : decode cX7_bestMode 23 = .ok (.ireturn, 1) := by decide +kernel
theorem dX7_bestMode_24 : decode cX7_bestMode 24 = .ok (.iconst 0, 1) := by decide +kernel
theorem dX7_bestMode_25 : decode cX7_bestMode 25 = .ok (.istore_n 3, 1) := by decide +kernel
theorem dX7_bestMode_26 : decode cX7_bestMode 26 = .ok (.aload_n 0, 1) := by decide +kernel
theorem dX7_bestMode_27 : decode cX7_bestMode 27 = .ok (.iconst 0, 1) := by decide +kernel
theorem dX7_bestMode_28 : decode cX7_bestMode 28 = .ok (.iload_n 2, 1) := by decide +kernel
theorem dX7_bestMode_29 : decode cX7_bestMode 29 = .ok (.iload_n 1, 1) := by decide +kernel
theorem dX7_bestMode_30 : decode cX7_bestMode 30 = .ok (.invokevirtual 205, 3) := by decide +kernel
theorem dX7_bestMode_33 : decode cX7_bestMode 33 = .ok (.istore 4, 2) := by decide +kernel
theorem dX7_bestMode_35 : decode cX7_bestMode 35 = .ok (.iconst 1, 1) := by decide +kernel
theorem dX7_bestMode_36 : decode cX7_bestMode 36 = .ok (.istore 5, 2) := by decide +kernel
theorem dX7_bestMode_38 : decode cX7_bestMode 38 = .ok (.iload 5, 2) := by decide +kernel
theorem dX7_bestMode_40 : decode cX7_bestMode 40 = .ok (.iconst 2, 1) := by decide +kernel
theorem dX7_bestMode_41 : decode cX7_bestMode 41 = .ok (.if_icmp .gt 49, 3) := by decide +kernel
theorem dX7_bestMode_44 : decode cX7_bestMode 44 = .ok (.aload_n 0, 1) := by decide +kernel
theorem dX7_bestMode_45 : decode cX7_bestMode 45 = .ok (.iload 5, 2) := by decide +kernel
theorem dX7_bestMode_47 : decode cX7_bestMode 47 = .ok (.iload_n 2, 1) := by decide +kernel
theorem dX7_bestMode_48 : decode cX7_bestMode 48 = .ok (.iload_n 1, 1) := by decide +kernel
theorem dX7_bestMode_49 : decode cX7_bestMode 49 = .ok (.invokevirtual 205, 3) := by decide +kernel
theorem dX7_bestMode_52 : decode cX7_bestMode 52 = .ok (.istore 6, 2) := by decide +kernel
theorem dX7_bestMode_54 : decode cX7_bestMode 54 = .ok (.iload 6, 2) := by decide +kernel
theorem dX7_bestMode_56 : decode cX7_bestMode 56 = .ok (.iload 4, 2) := by decide +kernel
theorem dX7_bestMode_58 : decode cX7_bestMode 58 = .ok (.if_icmp .le 8, 3) := by decide +kernel
theorem dX7_bestMode_61 : decode cX7_bestMode 61 = .ok (.iload 5, 2) := by decide +kernel
theorem dX7_bestMode_63 : decode cX7_bestMode 63 = .ok (.goto 4, 3) := by decide +kernel
theorem dX7_bestMode_66 : decode cX7_bestMode 66 = .ok (.iload_n 3, 1) := by decide +kernel
theorem dX7_bestMode_67 : decode cX7_bestMode 67 = .ok (.istore_n 3, 1) := by decide +kernel
theorem dX7_bestMode_68 : decode cX7_bestMode 68 = .ok (.iload 6, 2) := by decide +kernel
theorem dX7_bestMode_70 : decode cX7_bestMode 70 = .ok (.iload 4, 2) := by decide +kernel
theorem dX7_bestMode_72 : decode cX7_bestMode 72 = .ok (.if_icmp .le 8, 3) := by decide +kernel
theorem dX7_bestMode_75 : decode cX7_bestMode 75 = .ok (.iload 6, 2) := by decide +kernel
theorem dX7_bestMode_77 : decode cX7_bestMode 77 = .ok (.goto 5, 3) := by decide +kernel
theorem dX7_bestMode_80 : decode cX7_bestMode 80 = .ok (.iload 4, 2) := by decide +kernel
theorem dX7_bestMode_82 : decode cX7_bestMode 82 = .ok (.istore 4, 2) := by decide +kernel
theorem dX7_bestMode_84 : decode cX7_bestMode 84 = .ok (.iinc 5 1, 3) := by decide +kernel
theorem dX7_bestMode_87 : decode cX7_bestMode 87 = .ok (.goto (-49), 3) := by decide +kernel
theorem dX7_bestMode_90 : decode cX7_bestMode 90 = .ok (.iload_n 3, 1) := by decide +kernel
theorem dX7_bestMode_91 : decode cX7_bestMode 91 = .ok (.ireturn, 1) := by decide +kernel
theorem dX7_leastBid_0 : decode cX7_leastBid 0 = .ok (.aload_n 0, 1) := by decide +kernel
theorem dX7_leastBid_1 : decode cX7_leastBid 1 = .ok (.iload_n 1, 1) := by decide +kernel
theorem dX7_leastBid_2 : decode cX7_leastBid 2 = .ok (.invokevirtual 66, 3) := by decide +kernel
theorem dX7_leastBid_5 : decode cX7_leastBid 5 = .ok (.ifCond .ne 5, 3) := by decide +kernel
theorem dX7_leastBid_8 : decode cX7_leastBid 8 = .ok (.iconst (-1), 1) := by decide +kernel
theorem dX7_leastBid_9 : decode cX7_leastBid 9 = .ok (.ireturn, 1) := by decide +kernel
theorem dX7_leastBid_10 : decode cX7_leastBid 10 = .ok (.iload_n 2, 1) := by decide +kernel
theorem dX7_leastBid_11 : decode cX7_leastBid 11 = .ok (.iconst 1, 1) := by decide +kernel
theorem dX7_leastBid_12 : decode cX7_leastBid 12 = .ok (.sipush 300, 3) := by decide +kernel
theorem dX7_leastBid_15 : decode cX7_leastBid 15 = .ok (.invokestatic 43, 3) := by decide +kernel
theorem dX7_leastBid_18 : decode cX7_leastBid 18 = .ok (.ifCond .ne 6, 3) := by decide +kernel
theorem dX7_leastBid_21 : decode cX7_leastBid 21 = .ok (.bipush (-2), 2) := by decide +kernel
theorem dX7_leastBid_23 : decode cX7_leastBid 23 = .ok (.ireturn, 1) := by decide +kernel
theorem dX7_leastBid_24 : decode cX7_leastBid 24 = .ok (.aload_n 0, 1) := by decide +kernel
theorem dX7_leastBid_25 : decode cX7_leastBid 25 = .ok (.invokevirtual 62, 3) := by decide +kernel
theorem dX7_leastBid_28 : decode cX7_leastBid 28 = .ok (.ifCond .ne 17, 3) := by decide +kernel
theorem dX7_leastBid_31 : decode cX7_leastBid 31 = .ok (.aload_n 0, 1) := by decide +kernel
theorem dX7_leastBid_32 : decode cX7_leastBid 32 = .ok (.invokevirtual 89, 3) := by decide +kernel
theorem dX7_leastBid_35 : decode cX7_leastBid 35 = .ok (.ifCond .lt 10, 3) := by decide +kernel
theorem dX7_leastBid_38 : decode cX7_leastBid 38 = .ok (.aload_n 0, 1) := by decide +kernel
theorem dX7_leastBid_39 : decode cX7_leastBid 39 = .ok (.invokevirtual 96, 3) := by decide +kernel
theorem dX7_leastBid_42 : decode cX7_leastBid 42 = .ok (.ifCond .eq 6, 3) := by decide +kernel
theorem dX7_leastBid_45 : decode cX7_leastBid 45 = .ok (.bipush (-5), 2) := by decide +kernel
theorem dX7_leastBid_47 : decode cX7_leastBid 47 = .ok (.ireturn, 1) := by decide +kernel
theorem dX7_leastBid_48 : decode cX7_leastBid 48 = .ok (.iload_n 2, 1) := by decide +kernel
theorem dX7_leastBid_49 : decode cX7_leastBid 49 = .ok (.istore_n 3, 1) := by decide +kernel
theorem dX7_leastBid_50 : decode cX7_leastBid 50 = .ok (.iconst 0, 1) := by decide +kernel
theorem dX7_leastBid_51 : decode cX7_leastBid 51 = .ok (.istore 4, 2) := by decide +kernel
theorem dX7_leastBid_53 : decode cX7_leastBid 53 = .ok (.iload 4, 2) := by decide +kernel
theorem dX7_leastBid_55 : decode cX7_leastBid 55 = .ok (.aload_n 0, 1) := by decide +kernel
theorem dX7_leastBid_56 : decode cX7_leastBid 56 = .ok (.getfield 7, 3) := by decide +kernel
theorem dX7_leastBid_59 : decode cX7_leastBid 59 = .ok (.iconst 0, 1) := by decide +kernel
theorem dX7_leastBid_60 : decode cX7_leastBid 60 = .ok (.iaload, 1) := by decide +kernel
theorem dX7_leastBid_61 : decode cX7_leastBid 61 = .ok (.if_icmp .ge 41, 3) := by decide +kernel
theorem dX7_leastBid_64 : decode cX7_leastBid 64 = .ok (.iload 4, 2) := by decide +kernel
theorem dX7_leastBid_66 : decode cX7_leastBid 66 = .ok (.iload_n 1, 1) := by decide +kernel
theorem dX7_leastBid_67 : decode cX7_leastBid 67 = .ok (.if_icmp .ne 7, 3) := by decide +kernel
theorem dX7_leastBid_70 : decode cX7_leastBid 70 = .ok (.iconst 0, 1) := by decide +kernel
theorem dX7_leastBid_71 : decode cX7_leastBid 71 = .ok (.goto 10, 3) := by decide +kernel
theorem dX7_leastBid_74 : decode cX7_leastBid 74 = .ok (.aload_n 0, 1) := by decide +kernel
theorem dX7_leastBid_75 : decode cX7_leastBid 75 = .ok (.iload 4, 2) := by decide +kernel
theorem dX7_leastBid_77 : decode cX7_leastBid 77 = .ok (.iload_n 2, 1) := by decide +kernel
theorem dX7_leastBid_78 : decode cX7_leastBid 78 = .ok (.invokevirtual 148, 3) := by decide +kernel
theorem dX7_leastBid_81 : decode cX7_leastBid 81 = .ok (.istore 5, 2) := by decide +kernel
theorem dX7_leastBid_83 : decode cX7_leastBid 83 = .ok (.iload 5, 2) := by decide +kernel
theorem dX7_leastBid_85 : decode cX7_leastBid 85 = .ok (.iload_n 3, 1) := by decide +kernel
theorem dX7_leastBid_86 : decode cX7_leastBid 86 = .ok (.if_icmp .le 8, 3) := by decide +kernel
theorem dX7_leastBid_89 : decode cX7_leastBid 89 = .ok (.iload 5, 2) := by decide +kernel
theorem dX7_leastBid_91 : decode cX7_leastBid 91 = .ok (.goto 4, 3) := by decide +kernel
theorem dX7_leastBid_94 : decode cX7_leastBid 94 = .ok (.iload_n 3, 1) := by decide +kernel
theorem dX7_leastBid_95 : decode cX7_leastBid 95 = .ok (.istore_n 3, 1) := by decide +kernel
theorem dX7_leastBid_96 : decode cX7_leastBid 96 = .ok (.iinc 4 1, 3) := by decide +kernel
theorem dX7_leastBid_99 : decode cX7_leastBid 99 = .ok (.goto (-46), 3) := by decide +kernel
theorem dX7_leastBid_102 : decode cX7_leastBid 102 = .ok (.iload_n 3, 1) := by decide +kernel
theorem dX7_leastBid_103 : decode cX7_leastBid 103 = .ok (.aload_n 0, 1) := by decide +kernel
theorem dX7_leastBid_104 : decode cX7_leastBid 104 = .ok (.iload_n 1, 1) := by decide +kernel
theorem dX7_leastBid_105 : decode cX7_leastBid 105 = .ok (.iconst 0, 1) := by decide +kernel
theorem dX7_leastBid_106 : decode cX7_leastBid 106 = .ok (.invokevirtual 70, 3) := by decide +kernel
theorem dX7_leastBid_109 : decode cX7_leastBid 109 = .ok (.if_icmp .gt 7, 3) := by decide +kernel
theorem dX7_leastBid_112 : decode cX7_leastBid 112 = .ok (.iload_n 3, 1) := by decide +kernel
theorem dX7_leastBid_113 : decode cX7_leastBid 113 = .ok (.goto 5, 3) := by decide +kernel
theorem dX7_leastBid_116 : decode cX7_leastBid 116 = .ok (.bipush (-6), 2) := by decide +kernel
theorem dX7_leastBid_118 : decode cX7_leastBid 118 = .ok (.ireturn, 1) := by decide +kernel
theorem dX7_put_0 : decode cX7_put 0 = .ok (.iconst 0, 1) := by decide +kernel
theorem dX7_put_1 : decode cX7_put 1 = .ok (.istore_n 3, 1) := by decide +kernel
theorem dX7_put_2 : decode cX7_put 2 = .ok (.lload_n 1, 1) := by decide +kernel
theorem dX7_put_3 : decode cX7_put 3 = .ok (.lstore 4, 2) := by decide +kernel
theorem dX7_put_5 : decode cX7_put 5 = .ok (.iload_n 3, 1) := by decide +kernel
theorem dX7_put_6 : decode cX7_put 6 = .ok (.bipush 8, 2) := by decide +kernel
theorem dX7_put_8 : decode cX7_put 8 = .ok (.if_icmp .ge 47, 3) := by decide +kernel
theorem dX7_put_11 : decode cX7_put 11 = .ok (.lload 4, 2) := by decide +kernel
theorem dX7_put_13 : decode cX7_put 13 = .ok (.ldc2_w 209, 3) := by decide +kernel
theorem dX7_put_16 : decode cX7_put 16 = .ok (.land, 1) := by decide +kernel
theorem dX7_put_17 : decode cX7_put 17 = .ok (.lconst 0, 1) := by decide +kernel
theorem dX7_put_18 : decode cX7_put 18 = .ok (.lcmp, 1) := by decide +kernel
theorem dX7_put_19 : decode cX7_put 19 = .ok (.ifCond .eq 36, 3) := by decide +kernel
theorem dX7_put_22 : decode cX7_put 22 = .ok (.lload 4, 2) := by decide +kernel
theorem dX7_put_24 : decode cX7_put 24 = .ok (.ldc2_w 209, 3) := by decide +kernel
theorem dX7_put_27 : decode cX7_put 27 = .ok (.land, 1) := by decide +kernel
theorem dX7_put_28 : decode cX7_put 28 = .ok (.l2i, 1) := by decide +kernel
theorem dX7_put_29 : decode cX7_put 29 = .ok (.bipush 33, 2) := by decide +kernel
theorem dX7_put_31 : decode cX7_put 31 = .ok (.bipush 126, 2) := by decide +kernel
theorem dX7_put_33 : decode cX7_put 33 = .ok (.invokestatic 43, 3) := by decide +kernel
theorem dX7_put_36 : decode cX7_put 36 = .ok (.ifCond .ne 6, 3) := by decide +kernel
theorem dX7_put_39 : decode cX7_put 39 = .ok (.bipush (-2), 2) := by decide +kernel
theorem dX7_put_41 : decode cX7_put 41 = .ok (.ireturn, 1) := by decide +kernel
theorem dX7_put_42 : decode cX7_put 42 = .ok (.iinc 3 1, 3) := by decide +kernel
theorem dX7_put_45 : decode cX7_put 45 = .ok (.lload 4, 2) := by decide +kernel
theorem dX7_put_47 : decode cX7_put 47 = .ok (.bipush 8, 2) := by decide +kernel
theorem dX7_put_49 : decode cX7_put 49 = .ok (.lushr, 1) := by decide +kernel
theorem dX7_put_50 : decode cX7_put 50 = .ok (.lstore 4, 2) := by decide +kernel
theorem dX7_put_52 : decode cX7_put 52 = .ok (.goto (-47), 3) := by decide +kernel
theorem dX7_put_55 : decode cX7_put 55 = .ok (.iload_n 3, 1) := by decide +kernel
theorem dX7_put_56 : decode cX7_put 56 = .ok (.ifCond .eq 10, 3) := by decide +kernel
theorem dX7_put_59 : decode cX7_put 59 = .ok (.lload 4, 2) := by decide +kernel
theorem dX7_put_61 : decode cX7_put 61 = .ok (.lconst 0, 1) := by decide +kernel
theorem dX7_put_62 : decode cX7_put 62 = .ok (.lcmp, 1) := by decide +kernel
theorem dX7_put_63 : decode cX7_put 63 = .ok (.ifCond .eq 6, 3) := by decide +kernel
theorem dX7_put_66 : decode cX7_put 66 = .ok (.bipush (-2), 2) := by decide +kernel
theorem dX7_put_68 : decode cX7_put 68 = .ok (.ireturn, 1) := by decide +kernel
theorem dX7_put_69 : decode cX7_put 69 = .ok (.aload_n 0, 1) := by decide +kernel
theorem dX7_put_70 : decode cX7_put 70 = .ok (.getfield 178, 3) := by decide +kernel
theorem dX7_put_73 : decode cX7_put 73 = .ok (.iload_n 3, 1) := by decide +kernel
theorem dX7_put_74 : decode cX7_put 74 = .ok (.iadd, 1) := by decide +kernel
theorem dX7_put_75 : decode cX7_put 75 = .ok (.bipush 60, 2) := by decide +kernel
theorem dX7_put_77 : decode cX7_put 77 = .ok (.if_icmp .le 6, 3) := by decide +kernel
theorem dX7_put_80 : decode cX7_put 80 = .ok (.bipush (-4), 2) := by decide +kernel
theorem dX7_put_82 : decode cX7_put 82 = .ok (.ireturn, 1) := by decide +kernel
theorem dX7_put_83 : decode cX7_put 83 = .ok (.iconst 0, 1) := by decide +kernel
theorem dX7_put_84 : decode cX7_put 84 = .ok (.istore 6, 2) := by decide +kernel
theorem dX7_put_86 : decode cX7_put 86 = .ok (.iload 6, 2) := by decide +kernel
theorem dX7_put_88 : decode cX7_put 88 = .ok (.iload_n 3, 1) := by decide +kernel
theorem dX7_put_89 : decode cX7_put 89 = .ok (.if_icmp .ge 37, 3) := by decide +kernel
theorem dX7_put_92 : decode cX7_put 92 = .ok (.aload_n 0, 1) := by decide +kernel
theorem dX7_put_93 : decode cX7_put 93 = .ok (.getfield 23, 3) := by decide +kernel
theorem dX7_put_96 : decode cX7_put 96 = .ok (.aload_n 0, 1) := by decide +kernel
theorem dX7_put_97 : decode cX7_put 97 = .ok (.getfield 178, 3) := by decide +kernel
theorem dX7_put_100 : decode cX7_put 100 = .ok (.iload 6, 2) := by decide +kernel
theorem dX7_put_102 : decode cX7_put 102 = .ok (.iadd, 1) := by decide +kernel
theorem dX7_put_103 : decode cX7_put 103 = .ok (.lload_n 1, 1) := by decide +kernel
theorem dX7_put_104 : decode cX7_put 104 = .ok (.bipush 8, 2) := by decide +kernel
theorem dX7_put_106 : decode cX7_put 106 = .ok (.iload_n 3, 1) := by decide +kernel
theorem dX7_put_107 : decode cX7_put 107 = .ok (.iconst 1, 1) := by decide +kernel
theorem dX7_put_108 : decode cX7_put 108 = .ok (.isub, 1) := by decide +kernel
theorem dX7_put_109 : decode cX7_put 109 = .ok (.iload 6, 2) := by decide +kernel
theorem dX7_put_111 : decode cX7_put 111 = .ok (.isub, 1) := by decide +kernel
theorem dX7_put_112 : decode cX7_put 112 = .ok (.imul, 1) := by decide +kernel
theorem dX7_put_113 : decode cX7_put 113 = .ok (.lshr, 1) := by decide +kernel
theorem dX7_put_114 : decode cX7_put 114 = .ok (.ldc2_w 209, 3) := by decide +kernel
theorem dX7_put_117 : decode cX7_put 117 = .ok (.land, 1) := by decide +kernel
theorem dX7_put_118 : decode cX7_put 118 = .ok (.l2i, 1) := by decide +kernel
theorem dX7_put_119 : decode cX7_put 119 = .ok (.iastore, 1) := by decide +kernel
theorem dX7_put_120 : decode cX7_put 120 = .ok (.iinc 6 1, 3) := by decide +kernel
theorem dX7_put_123 : decode cX7_put 123 = .ok (.goto (-37), 3) := by decide +kernel
theorem dX7_put_126 : decode cX7_put 126 = .ok (.aload_n 0, 1) := by decide +kernel
theorem dX7_put_127 : decode cX7_put 127 = .ok (.dup, 1) := by decide +kernel
theorem dX7_put_128 : decode cX7_put 128 = .ok (.getfield 178, 3) := by decide +kernel
theorem dX7_put_131 : decode cX7_put 131 = .ok (.iload_n 3, 1) := by decide +kernel
theorem dX7_put_132 : decode cX7_put 132 = .ok (.iadd, 1) := by decide +kernel
theorem dX7_put_133 : decode cX7_put 133 = .ok (.putfield 178, 3) := by decide +kernel
theorem dX7_put_136 : decode cX7_put 136 = .ok (.aload_n 0, 1) := by decide +kernel
theorem dX7_put_137 : decode cX7_put 137 = .ok (.getfield 178, 3) := by decide +kernel
theorem dX7_put_140 : decode cX7_put 140 = .ok (.ireturn, 1) := by decide +kernel
theorem dX7_wipe_0 : decode cX7_wipe 0 = .ok (.aload_n 0, 1) := by decide +kernel
theorem dX7_wipe_1 : decode cX7_wipe 1 = .ok (.getfield 178, 3) := by decide +kernel
theorem dX7_wipe_4 : decode cX7_wipe 4 = .ok (.istore_n 1, 1) := by decide +kernel
theorem dX7_wipe_5 : decode cX7_wipe 5 = .ok (.aload_n 0, 1) := by decide +kernel
theorem dX7_wipe_6 : decode cX7_wipe 6 = .ok (.iconst 0, 1) := by decide +kernel
theorem dX7_wipe_7 : decode cX7_wipe 7 = .ok (.putfield 178, 3) := by decide +kernel
theorem dX7_wipe_10 : decode cX7_wipe 10 = .ok (.iload_n 1, 1) := by decide +kernel
theorem dX7_wipe_11 : decode cX7_wipe 11 = .ok (.ireturn, 1) := by decide +kernel
theorem dX7_next_0 : decode cX7_next 0 = .ok (.aload_n 0, 1) := by decide +kernel
theorem dX7_next_1 : decode cX7_next 1 = .ok (.getfield 211, 3) := by decide +kernel
theorem dX7_next_4 : decode cX7_next 4 = .ok (.aload_n 0, 1) := by decide +kernel
theorem dX7_next_5 : decode cX7_next 5 = .ok (.getfield 178, 3) := by decide +kernel
theorem dX7_next_8 : decode cX7_next 8 = .ok (.if_icmp .ge 15, 3) := by decide +kernel
theorem dX7_next_11 : decode cX7_next 11 = .ok (.aload_n 0, 1) := by decide +kernel
theorem dX7_next_12 : decode cX7_next 12 = .ok (.getfield 23, 3) := by decide +kernel
theorem dX7_next_15 : decode cX7_next 15 = .ok (.aload_n 0, 1) := by decide +kernel
theorem dX7_next_16 : decode cX7_next 16 = .ok (.getfield 211, 3) := by decide +kernel
theorem dX7_next_19 : decode cX7_next 19 = .ok (.iaload, 1) := by decide +kernel
theorem dX7_next_20 : decode cX7_next 20 = .ok (.goto 4, 3) := by decide +kernel
theorem dX7_next_23 : decode cX7_next 23 = .ok (.iconst 0, 1) := by decide +kernel
theorem dX7_next_24 : decode cX7_next 24 = .ok (.ireturn, 1) := by decide +kernel
theorem dX7_takeNumber_0 : decode cX7_takeNumber 0 = .ok (.aload_n 0, 1) := by decide +kernel
theorem dX7_takeNumber_1 : decode cX7_takeNumber 1 = .ok (.aload_n 0, 1) := by decide +kernel
theorem dX7_takeNumber_2 : decode cX7_takeNumber 2 = .ok (.getfield 214, 3) := by decide +kernel
theorem dX7_takeNumber_5 : decode cX7_takeNumber 5 = .ok (.ifCond .ne 32, 3) := by decide +kernel
theorem dX7_takeNumber_8 : decode cX7_takeNumber 8 = .ok (.aload_n 0, 1) := by decide +kernel
theorem dX7_takeNumber_9 : decode cX7_takeNumber 9 = .ok (.invokevirtual 218, 3) := by decide +kernel
theorem dX7_takeNumber_12 : decode cX7_takeNumber 12 = .ok (.bipush 48, 2) := by decide +kernel
theorem dX7_takeNumber_14 : decode cX7_takeNumber 14 = .ok (.iload_n 1, 1) := by decide +kernel
theorem dX7_takeNumber_15 : decode cX7_takeNumber 15 = .ok (.iadd, 1) := by decide +kernel
theorem dX7_takeNumber_16 : decode cX7_takeNumber 16 = .ok (.iload_n 2, 1) := by decide +kernel
theorem dX7_takeNumber_17 : decode cX7_takeNumber 17 = .ok (.bipush 9, 2) := by decide +kernel
theorem dX7_takeNumber_19 : decode cX7_takeNumber 19 = .ok (.if_icmp .ge 10, 3) := by decide +kernel
theorem dX7_takeNumber_22 : decode cX7_takeNumber 22 = .ok (.bipush 48, 2) := by decide +kernel
theorem dX7_takeNumber_24 : decode cX7_takeNumber 24 = .ok (.iload_n 2, 1) := by decide +kernel
theorem dX7_takeNumber_25 : decode cX7_takeNumber 25 = .ok (.iadd, 1) := by decide +kernel
theorem dX7_takeNumber_26 : decode cX7_takeNumber 26 = .ok (.goto 5, 3) := by decide +kernel
theorem dX7_takeNumber_29 : decode cX7_takeNumber 29 = .ok (.bipush 57, 2) := by decide +kernel
theorem dX7_takeNumber_31 : decode cX7_takeNumber 31 = .ok (.invokestatic 43, 3) := by decide +kernel
theorem dX7_takeNumber_34 : decode cX7_takeNumber 34 = .ok (.ifCond .ne 7, 3) := by decide +kernel
theorem dX7_takeNumber_37 : decode cX7_takeNumber 37 = .ok (.iconst 1, 1) := by decide +kernel
theorem dX7_takeNumber_38 : decode cX7_takeNumber 38 = .ok (.goto 4, 3) := by decide +kernel
theorem dX7_takeNumber_41 : decode cX7_takeNumber 41 = .ok (.iconst 0, 1) := by decide +kernel
theorem dX7_takeNumber_42 : decode cX7_takeNumber 42 = .ok (.putfield 214, 3) := by decide +kernel
theorem dX7_takeNumber_45 : decode cX7_takeNumber 45 = .ok (.aload_n 0, 1) := by decide +kernel
theorem dX7_takeNumber_46 : decode cX7_takeNumber 46 = .ok (.getfield 214, 3) := by decide +kernel
theorem dX7_takeNumber_49 : decode cX7_takeNumber 49 = .ok (.ifCond .eq 5, 3) := by decide +kernel
theorem dX7_takeNumber_52 : decode cX7_takeNumber 52 = .ok (.iconst 0, 1) := by decide +kernel
theorem dX7_takeNumber_53 : decode cX7_takeNumber 53 = .ok (.ireturn, 1) := by decide +kernel
theorem dX7_takeNumber_54 : decode cX7_takeNumber 54 = .ok (.aload_n 0, 1) := by decide +kernel
theorem dX7_takeNumber_55 : decode cX7_takeNumber 55 = .ok (.invokevirtual 218, 3) := by decide +kernel
theorem dX7_takeNumber_58 : decode cX7_takeNumber 58 = .ok (.bipush 48, 2) := by decide +kernel
theorem dX7_takeNumber_60 : decode cX7_takeNumber 60 = .ok (.isub, 1) := by decide +kernel
theorem dX7_takeNumber_61 : decode cX7_takeNumber 61 = .ok (.istore_n 3, 1) := by decide +kernel
theorem dX7_takeNumber_62 : decode cX7_takeNumber 62 = .ok (.aload_n 0, 1) := by decide +kernel
theorem dX7_takeNumber_63 : decode cX7_takeNumber 63 = .ok (.dup, 1) := by decide +kernel
theorem dX7_takeNumber_64 : decode cX7_takeNumber 64 = .ok (.getfield 211, 3) := by decide +kernel
theorem dX7_takeNumber_67 : decode cX7_takeNumber 67 = .ok (.iconst 1, 1) := by decide +kernel
theorem dX7_takeNumber_68 : decode cX7_takeNumber 68 = .ok (.iadd, 1) := by decide +kernel
theorem dX7_takeNumber_69 : decode cX7_takeNumber 69 = .ok (.putfield 211, 3) := by decide +kernel
theorem dX7_takeNumber_72 : decode cX7_takeNumber 72 = .ok (.iload_n 3, 1) := by decide +kernel
theorem dX7_takeNumber_73 : decode cX7_takeNumber 73 = .ok (.ifCond .le 59, 3) := by decide +kernel
theorem dX7_takeNumber_76 : decode cX7_takeNumber 76 = .ok (.aload_n 0, 1) := by decide +kernel
theorem dX7_takeNumber_77 : decode cX7_takeNumber 77 = .ok (.invokevirtual 218, 3) := by decide +kernel
theorem dX7_takeNumber_80 : decode cX7_takeNumber 80 = .ok (.bipush 48, 2) := by decide +kernel
theorem dX7_takeNumber_82 : decode cX7_takeNumber 82 = .ok (.bipush 57, 2) := by decide +kernel
theorem dX7_takeNumber_84 : decode cX7_takeNumber 84 = .ok (.invokestatic 43, 3) := by decide +kernel
theorem dX7_takeNumber_87 : decode cX7_takeNumber 87 = .ok (.ifCond .eq 45, 3) := by decide +kernel
theorem dX7_takeNumber_90 : decode cX7_takeNumber 90 = .ok (.bipush 10, 2) := by decide +kernel
theorem dX7_takeNumber_92 : decode cX7_takeNumber 92 = .ok (.iload_n 3, 1) := by decide +kernel
theorem dX7_takeNumber_93 : decode cX7_takeNumber 93 = .ok (.imul, 1) := by decide +kernel
theorem dX7_takeNumber_94 : decode cX7_takeNumber 94 = .ok (.aload_n 0, 1) := by decide +kernel
theorem dX7_takeNumber_95 : decode cX7_takeNumber 95 = .ok (.invokevirtual 218, 3) := by decide +kernel
theorem dX7_takeNumber_98 : decode cX7_takeNumber 98 = .ok (.iadd, 1) := by decide +kernel
theorem dX7_takeNumber_99 : decode cX7_takeNumber 99 = .ok (.bipush 48, 2) := by decide +kernel
theorem dX7_takeNumber_101 : decode cX7_takeNumber 101 = .ok (.isub, 1) := by decide +kernel
theorem dX7_takeNumber_102 : decode cX7_takeNumber 102 = .ok (.iload_n 2, 1) := by decide +kernel
theorem dX7_takeNumber_103 : decode cX7_takeNumber 103 = .ok (.if_icmp .gt 29, 3) := by decide +kernel
theorem dX7_takeNumber_106 : decode cX7_takeNumber 106 = .ok (.bipush 10, 2) := by decide +kernel
theorem dX7_takeNumber_108 : decode cX7_takeNumber 108 = .ok (.iload_n 3, 1) := by decide +kernel
theorem dX7_takeNumber_109 : decode cX7_takeNumber 109 = .ok (.imul, 1) := by decide +kernel
theorem dX7_takeNumber_110 : decode cX7_takeNumber 110 = .ok (.aload_n 0, 1) := by decide +kernel
theorem dX7_takeNumber_111 : decode cX7_takeNumber 111 = .ok (.invokevirtual 218, 3) := by decide +kernel
theorem dX7_takeNumber_114 : decode cX7_takeNumber 114 = .ok (.iadd, 1) := by decide +kernel
theorem dX7_takeNumber_115 : decode cX7_takeNumber 115 = .ok (.bipush 48, 2) := by decide +kernel
theorem dX7_takeNumber_117 : decode cX7_takeNumber 117 = .ok (.isub, 1) := by decide +kernel
theorem dX7_takeNumber_118 : decode cX7_takeNumber 118 = .ok (.istore_n 3, 1) := by decide +kernel
theorem dX7_takeNumber_119 : decode cX7_takeNumber 119 = .ok (.aload_n 0, 1) := by decide +kernel
theorem dX7_takeNumber_120 : decode cX7_takeNumber 120 = .ok (.dup, 1) := by decide +kernel
theorem dX7_takeNumber_121 : decode cX7_takeNumber 121 = .ok (.getfield 211, 3) := by decide +kernel
theorem dX7_takeNumber_124 : decode cX7_takeNumber 124 = .ok (.iconst 1, 1) := by decide +kernel
theorem dX7_takeNumber_125 : decode cX7_takeNumber 125 = .ok (.iadd, 1) := by decide +kernel
theorem dX7_takeNumber_126 : decode cX7_takeNumber 126 = .ok (.putfield 211, 3) := by decide +kernel
theorem dX7_takeNumber_129 : decode cX7_takeNumber 129 = .ok (.goto (-57), 3) := by decide +kernel
theorem dX7_takeNumber_132 : decode cX7_takeNumber 132 = .ok (.iload_n 3, 1) := by decide +kernel
theorem dX7_takeNumber_133 : decode cX7_takeNumber 133 = .ok (.ireturn, 1) := by decide +kernel
theorem dX7_need_0 : decode cX7_need 0 = .ok (.aload_n 0, 1) := by decide +kernel
theorem dX7_need_1 : decode cX7_need 1 = .ok (.aload_n 0, 1) := by decide +kernel
theorem dX7_need_2 : decode cX7_need 2 = .ok (.getfield 214, 3) := by decide +kernel
theorem dX7_need_5 : decode cX7_need 5 = .ok (.ifCond .ne 11, 3) := by decide +kernel
theorem dX7_need_8 : decode cX7_need 8 = .ok (.aload_n 0, 1) := by decide +kernel
theorem dX7_need_9 : decode cX7_need 9 = .ok (.invokevirtual 218, 3) := by decide +kernel
theorem dX7_need_12 : decode cX7_need 12 = .ok (.iload_n 1, 1) := by decide +kernel
theorem dX7_need_13 : decode cX7_need 13 = .ok (.if_icmp .eq 7, 3) := by decide +kernel
theorem dX7_need_16 : decode cX7_need 16 = .ok (.iconst 1, 1) := by decide +kernel
theorem dX7_need_17 : decode cX7_need 17 = .ok (.goto 4, 3) := by decide +kernel
theorem dX7_need_20 : decode cX7_need 20 = .ok (.iconst 0, 1) := by decide +kernel
theorem dX7_need_21 : decode cX7_need 21 = .ok (.putfield 214, 3) := by decide +kernel
theorem dX7_need_24 : decode cX7_need 24 = .ok (.aload_n 0, 1) := by decide +kernel
theorem dX7_need_25 : decode cX7_need 25 = .ok (.dup, 1) := by decide +kernel
theorem dX7_need_26 : decode cX7_need 26 = .ok (.getfield 211, 3) := by decide +kernel
theorem dX7_need_29 : decode cX7_need 29 = .ok (.aload_n 0, 1) := by decide +kernel
theorem dX7_need_30 : decode cX7_need 30 = .ok (.getfield 214, 3) := by decide +kernel
theorem dX7_need_33 : decode cX7_need 33 = .ok (.ifCond .eq 7, 3) := by decide +kernel
theorem dX7_need_36 : decode cX7_need 36 = .ok (.iconst 0, 1) := by decide +kernel
theorem dX7_need_37 : decode cX7_need 37 = .ok (.goto 4, 3) := by decide +kernel
theorem dX7_need_40 : decode cX7_need 40 = .ok (.iconst 1, 1) := by decide +kernel
theorem dX7_need_41 : decode cX7_need 41 = .ok (.iadd, 1) := by decide +kernel
theorem dX7_need_42 : decode cX7_need 42 = .ok (.putfield 211, 3) := by decide +kernel
theorem dX7_need_45 : decode cX7_need 45 = .ok (.return_, 1) := by decide +kernel
theorem dX7_takeAct_0 : decode cX7_takeAct 0 = .ok (.aload_n 0, 1) := by decide +kernel
theorem dX7_takeAct_1 : decode cX7_takeAct 1 = .ok (.invokevirtual 218, 3) := by decide +kernel
theorem dX7_takeAct_4 : decode cX7_takeAct 4 = .ok (.istore_n 1, 1) := by decide +kernel
theorem dX7_takeAct_5 : decode cX7_takeAct 5 = .ok (.iconst 3, 1) := by decide +kernel
theorem dX7_takeAct_6 : decode cX7_takeAct 6 = .ok (.aload_n 0, 1) := by decide +kernel
theorem dX7_takeAct_7 : decode cX7_takeAct 7 = .ok (.getfield 221, 3) := by decide +kernel
theorem dX7_takeAct_10 : decode cX7_takeAct 10 = .ok (.imul, 1) := by decide +kernel
theorem dX7_takeAct_11 : decode cX7_takeAct 11 = .ok (.istore_n 2, 1) := by decide +kernel
theorem dX7_takeAct_12 : decode cX7_takeAct 12 = .ok (.iload_n 1, 1) := by decide +kernel
theorem dX7_takeAct_13 : decode cX7_takeAct 13 = .ok (.bipush 115, 2) := by decide +kernel
theorem dX7_takeAct_15 : decode cX7_takeAct 15 = .ok (.if_icmp .eq 33, 3) := by decide +kernel
theorem dX7_takeAct_18 : decode cX7_takeAct 18 = .ok (.iload_n 1, 1) := by decide +kernel
theorem dX7_takeAct_19 : decode cX7_takeAct 19 = .ok (.bipush 98, 2) := by decide +kernel
theorem dX7_takeAct_21 : decode cX7_takeAct 21 = .ok (.if_icmp .eq 27, 3) := by decide +kernel
theorem dX7_takeAct_24 : decode cX7_takeAct 24 = .ok (.iload_n 1, 1) := by decide +kernel
theorem dX7_takeAct_25 : decode cX7_takeAct 25 = .ok (.bipush 112, 2) := by decide +kernel
theorem dX7_takeAct_27 : decode cX7_takeAct 27 = .ok (.if_icmp .eq 21, 3) := by decide +kernel
theorem dX7_takeAct_30 : decode cX7_takeAct 30 = .ok (.iload_n 1, 1) := by decide +kernel
theorem dX7_takeAct_31 : decode cX7_takeAct 31 = .ok (.bipush 109, 2) := by decide +kernel
theorem dX7_takeAct_33 : decode cX7_takeAct 33 = .ok (.if_icmp .eq 15, 3) := by decide +kernel
theorem dX7_takeAct_36 : decode cX7_takeAct 36 = .ok (.iload_n 1, 1) := by decide +kernel
theorem dX7_takeAct_37 : decode cX7_takeAct 37 = .ok (.bipush 102, 2) := by decide +kernel
theorem dX7_takeAct_39 : decode cX7_takeAct 39 = .ok (.if_icmp .eq 9, 3) := by decide +kernel
theorem dX7_takeAct_42 : decode cX7_takeAct 42 = .ok (.aload_n 0, 1) := by decide +kernel
theorem dX7_takeAct_43 : decode cX7_takeAct 43 = .ok (.iconst 1, 1) := by decide +kernel
theorem dX7_takeAct_44 : decode cX7_takeAct 44 = .ok (.putfield 214, 3) := by decide +kernel
theorem dX7_takeAct_47 : decode cX7_takeAct 47 = .ok (.return_, 1) := by decide +kernel
theorem dX7_takeAct_48 : decode cX7_takeAct 48 = .ok (.aload_n 0, 1) := by decide +kernel
theorem dX7_takeAct_49 : decode cX7_takeAct 49 = .ok (.dup, 1) := by decide +kernel
theorem dX7_takeAct_50 : decode cX7_takeAct 50 = .ok (.getfield 211, 3) := by decide +kernel
theorem dX7_takeAct_53 : decode cX7_takeAct 53 = .ok (.iconst 1, 1) := by decide +kernel
theorem dX7_takeAct_54 : decode cX7_takeAct 54 = .ok (.iadd, 1) := by decide +kernel
theorem dX7_takeAct_55 : decode cX7_takeAct 55 = .ok (.putfield 211, 3) := by decide +kernel
theorem dX7_takeAct_58 : decode cX7_takeAct 58 = .ok (.aload_n 0, 1) := by decide +kernel
theorem dX7_takeAct_59 : decode cX7_takeAct 59 = .ok (.getfield 36, 3) := by decide +kernel
theorem dX7_takeAct_62 : decode cX7_takeAct 62 = .ok (.iload_n 2, 1) := by decide +kernel
theorem dX7_takeAct_63 : decode cX7_takeAct 63 = .ok (.iload_n 1, 1) := by decide +kernel
theorem dX7_takeAct_64 : decode cX7_takeAct 64 = .ok (.iastore, 1) := by decide +kernel
theorem dX7_takeAct_65 : decode cX7_takeAct 65 = .ok (.aload_n 0, 1) := by decide +kernel
theorem dX7_takeAct_66 : decode cX7_takeAct 66 = .ok (.getfield 36, 3) := by decide +kernel
theorem dX7_takeAct_69 : decode cX7_takeAct 69 = .ok (.iload_n 2, 1) := by decide +kernel
theorem dX7_takeAct_70 : decode cX7_takeAct 70 = .ok (.iconst 1, 1) := by decide +kernel
theorem dX7_takeAct_71 : decode cX7_takeAct 71 = .ok (.iadd, 1) := by decide +kernel
theorem dX7_takeAct_72 : decode cX7_takeAct 72 = .ok (.iload_n 1, 1) := by decide +kernel
theorem dX7_takeAct_73 : decode cX7_takeAct 73 = .ok (.bipush 115, 2) := by decide +kernel
theorem dX7_takeAct_75 : decode cX7_takeAct 75 = .ok (.if_icmp .ne 12, 3) := by decide +kernel
theorem dX7_takeAct_78 : decode cX7_takeAct 78 = .ok (.aload_n 0, 1) := by decide +kernel
theorem dX7_takeAct_79 : decode cX7_takeAct 79 = .ok (.iconst 0, 1) := by decide +kernel
theorem dX7_takeAct_80 : decode cX7_takeAct 80 = .ok (.iconst 2, 1) := by decide +kernel
theorem dX7_takeAct_81 : decode cX7_takeAct 81 = .ok (.invokevirtual 224, 3) := by decide +kernel
theorem dX7_takeAct_84 : decode cX7_takeAct 84 = .ok (.goto 25, 3) := by decide +kernel
theorem dX7_takeAct_87 : decode cX7_takeAct 87 = .ok (.iload_n 1, 1) := by decide +kernel
theorem dX7_takeAct_88 : decode cX7_takeAct 88 = .ok (.bipush 98, 2) := by decide +kernel
theorem dX7_takeAct_90 : decode cX7_takeAct 90 = .ok (.if_icmp .eq 9, 3) := by decide +kernel
theorem dX7_takeAct_93 : decode cX7_takeAct 93 = .ok (.iload_n 1, 1) := by decide +kernel
theorem dX7_takeAct_94 : decode cX7_takeAct 94 = .ok (.bipush 112, 2) := by decide +kernel
theorem dX7_takeAct_96 : decode cX7_takeAct 96 = .ok (.if_icmp .ne 12, 3) := by decide +kernel
theorem dX7_takeAct_99 : decode cX7_takeAct 99 = .ok (.aload_n 0, 1) := by decide +kernel
theorem dX7_takeAct_100 : decode cX7_takeAct 100 = .ok (.iconst 0, 1) := by decide +kernel
theorem dX7_takeAct_101 : decode cX7_takeAct 101 = .ok (.iconst 5, 1) := by decide +kernel
theorem dX7_takeAct_102 : decode cX7_takeAct 102 = .ok (.invokevirtual 224, 3) := by decide +kernel
theorem dX7_takeAct_105 : decode cX7_takeAct 105 = .ok (.goto 4, 3) := by decide +kernel
theorem dX7_takeAct_108 : decode cX7_takeAct 108 = .ok (.iconst 0, 1) := by decide +kernel
theorem dX7_takeAct_109 : decode cX7_takeAct 109 = .ok (.iastore, 1) := by decide +kernel
theorem dX7_takeAct_110 : decode cX7_takeAct 110 = .ok (.iload_n 1, 1) := by decide +kernel
theorem dX7_takeAct_111 : decode cX7_takeAct 111 = .ok (.bipush 115, 2) := by decide +kernel
theorem dX7_takeAct_113 : decode cX7_takeAct 113 = .ok (.if_icmp .eq 9, 3) := by decide +kernel
theorem dX7_takeAct_116 : decode cX7_takeAct 116 = .ok (.iload_n 1, 1) := by decide +kernel
theorem dX7_takeAct_117 : decode cX7_takeAct 117 = .ok (.bipush 98, 2) := by decide +kernel
theorem dX7_takeAct_119 : decode cX7_takeAct 119 = .ok (.if_icmp .ne 35, 3) := by decide +kernel
theorem dX7_takeAct_122 : decode cX7_takeAct 122 = .ok (.aload_n 0, 1) := by decide +kernel
theorem dX7_takeAct_123 : decode cX7_takeAct 123 = .ok (.bipush 58, 2) := by decide +kernel
theorem dX7_takeAct_125 : decode cX7_takeAct 125 = .ok (.invokevirtual 227, 3) := by decide +kernel
theorem dX7_takeAct_128 : decode cX7_takeAct 128 = .ok (.aload_n 0, 1) := by decide +kernel
theorem dX7_takeAct_129 : decode cX7_takeAct 129 = .ok (.getfield 36, 3) := by decide +kernel
theorem dX7_takeAct_132 : decode cX7_takeAct 132 = .ok (.iload_n 2, 1) := by decide +kernel
theorem dX7_takeAct_133 : decode cX7_takeAct 133 = .ok (.iconst 2, 1) := by decide +kernel
theorem dX7_takeAct_134 : decode cX7_takeAct 134 = .ok (.iadd, 1) := by decide +kernel
theorem dX7_takeAct_135 : decode cX7_takeAct 135 = .ok (.aload_n 0, 1) := by decide +kernel
theorem dX7_takeAct_136 : decode cX7_takeAct 136 = .ok (.iload_n 1, 1) := by decide +kernel
theorem dX7_takeAct_137 : decode cX7_takeAct 137 = .ok (.bipush 115, 2) := by decide +kernel
theorem dX7_takeAct_139 : decode cX7_takeAct 139 = .ok (.if_icmp .ne 7, 3) := by decide +kernel
theorem dX7_takeAct_142 : decode cX7_takeAct 142 = .ok (.iconst 1, 1) := by decide +kernel
theorem dX7_takeAct_143 : decode cX7_takeAct 143 = .ok (.goto 4, 3) := by decide +kernel
theorem dX7_takeAct_146 : decode cX7_takeAct 146 = .ok (.iconst 0, 1) := by decide +kernel
theorem dX7_takeAct_147 : decode cX7_takeAct 147 = .ok (.sipush 300, 3) := by decide +kernel
theorem dX7_takeAct_150 : decode cX7_takeAct 150 = .ok (.invokevirtual 224, 3) := by decide +kernel
theorem dX7_takeAct_153 : decode cX7_takeAct 153 = .ok (.iastore, 1) := by decide +kernel
theorem dX7_takeAct_154 : decode cX7_takeAct 154 = .ok (.aload_n 0, 1) := by decide +kernel
theorem dX7_takeAct_155 : decode cX7_takeAct 155 = .ok (.dup, 1) := by decide +kernel
theorem dX7_takeAct_156 : decode cX7_takeAct 156 = .ok (.getfield 221, 3) := by decide +kernel
theorem dX7_takeAct_159 : decode cX7_takeAct 159 = .ok (.iconst 1, 1) := by decide +kernel
theorem dX7_takeAct_160 : decode cX7_takeAct 160 = .ok (.iadd, 1) := by decide +kernel
theorem dX7_takeAct_161 : decode cX7_takeAct 161 = .ok (.putfield 221, 3) := by decide +kernel
theorem dX7_takeAct_164 : decode cX7_takeAct 164 = .ok (.return_, 1) := by decide +kernel
theorem dX7_fault_0 : decode cX7_fault 0 = .ok (.aload_n 0, 1) := by decide +kernel
theorem dX7_fault_1 : decode cX7_fault 1 = .ok (.iconst 0, 1) := by decide +kernel
theorem dX7_fault_2 : decode cX7_fault 2 = .ok (.putfield 211, 3) := by decide +kernel
theorem dX7_fault_5 : decode cX7_fault 5 = .ok (.aload_n 0, 1) := by decide +kernel
theorem dX7_fault_6 : decode cX7_fault 6 = .ok (.iconst 0, 1) := by decide +kernel
theorem dX7_fault_7 : decode cX7_fault 7 = .ok (.putfield 214, 3) := by decide +kernel
theorem dX7_fault_10 : decode cX7_fault 10 = .ok (.aload_n 0, 1) := by decide +kernel
theorem dX7_fault_11 : decode cX7_fault 11 = .ok (.iconst 0, 1) := by decide +kernel
theorem dX7_fault_12 : decode cX7_fault 12 = .ok (.putfield 221, 3) := by decide +kernel
theorem dX7_fault_15 : decode cX7_fault 15 = .ok (.aload_n 0, 1) := by decide +kernel
theorem dX7_fault_16 : decode cX7_fault 16 = .ok (.invokevirtual 230, 3) := by decide +kernel
theorem dX7_fault_19 : decode cX7_fault 19 = .ok (.aload_n 0, 1) := by decide +kernel
theorem dX7_fault_20 : decode cX7_fault 20 = .ok (.getfield 214, 3) := by decide +kernel
theorem dX7_fault_23 : decode cX7_fault 23 = .ok (.ifCond .ne 29, 3) := by decide +kernel
theorem dX7_fault_26 : decode cX7_fault 26 = .ok (.aload_n 0, 1) := by decide +kernel
theorem dX7_fault_27 : decode cX7_fault 27 = .ok (.invokevirtual 218, 3) := by decide +kernel
theorem dX7_fault_30 : decode cX7_fault 30 = .ok (.bipush 44, 2) := by decide +kernel
theorem dX7_fault_32 : decode cX7_fault 32 = .ok (.if_icmp .ne 20, 3) := by decide +kernel
theorem dX7_fault_35 : decode cX7_fault 35 = .ok (.aload_n 0, 1) := by decide +kernel
theorem dX7_fault_36 : decode cX7_fault 36 = .ok (.dup, 1) := by decide +kernel
theorem dX7_fault_37 : decode cX7_fault 37 = .ok (.getfield 211, 3) := by decide +kernel
theorem dX7_fault_40 : decode cX7_fault 40 = .ok (.iconst 1, 1) := by decide +kernel
theorem dX7_fault_41 : decode cX7_fault 41 = .ok (.iadd, 1) := by decide +kernel
theorem dX7_fault_42 : decode cX7_fault 42 = .ok (.putfield 211, 3) := by decide +kernel
theorem dX7_fault_45 : decode cX7_fault 45 = .ok (.aload_n 0, 1) := by decide +kernel
theorem dX7_fault_46 : decode cX7_fault 46 = .ok (.invokevirtual 230, 3) := by decide +kernel
theorem dX7_fault_49 : decode cX7_fault 49 = .ok (.goto (-30), 3) := by decide +kernel
theorem dX7_fault_52 : decode cX7_fault 52 = .ok (.aload_n 0, 1) := by decide +kernel
theorem dX7_fault_53 : decode cX7_fault 53 = .ok (.getfield 214, 3) := by decide +kernel
theorem dX7_fault_56 : decode cX7_fault 56 = .ok (.ifCond .ne 14, 3) := by decide +kernel
theorem dX7_fault_59 : decode cX7_fault 59 = .ok (.aload_n 0, 1) := by decide +kernel
theorem dX7_fault_60 : decode cX7_fault 60 = .ok (.getfield 211, 3) := by decide +kernel
theorem dX7_fault_63 : decode cX7_fault 63 = .ok (.aload_n 0, 1) := by decide +kernel
theorem dX7_fault_64 : decode cX7_fault 64 = .ok (.getfield 178, 3) := by decide +kernel
theorem dX7_fault_67 : decode cX7_fault 67 = .ok (.if_icmp .ge 10, 3) := by decide +kernel
theorem dX7_fault_70 : decode cX7_fault 70 = .ok (.aload_n 0, 1) := by decide +kernel
theorem dX7_fault_71 : decode cX7_fault 71 = .ok (.getfield 211, 3) := by decide +kernel
theorem dX7_fault_74 : decode cX7_fault 74 = .ok (.goto 5, 3) := by decide +kernel
theorem dX7_fault_77 : decode cX7_fault 77 = .ok (.bipush (-6), 2) := by decide +kernel
theorem dX7_fault_79 : decode cX7_fault 79 = .ok (.ireturn, 1) := by decide +kernel
theorem dX7_does_0 : decode cX7_does 0 = .ok (.aload_n 0, 1) := by decide +kernel
theorem dX7_does_1 : decode cX7_does 1 = .ok (.getfield 36, 3) := by decide +kernel
theorem dX7_does_4 : decode cX7_does 4 = .ok (.iload_n 1, 1) := by decide +kernel
theorem dX7_does_5 : decode cX7_does 5 = .ok (.iaload, 1) := by decide +kernel
theorem dX7_does_6 : decode cX7_does 6 = .ok (.lookupswitch 102 #[(98, 63), (109, 97), (112, 84), (115, 42)], 42) := by decide +kernel
theorem dX7_does_48 : decode cX7_does 48 = .ok (.aload_n 0, 1) := by decide +kernel
theorem dX7_does_49 : decode cX7_does 49 = .ok (.aload_n 0, 1) := by decide +kernel
theorem dX7_does_50 : decode cX7_does 50 = .ok (.getfield 36, 3) := by decide +kernel
theorem dX7_does_53 : decode cX7_does 53 = .ok (.iload_n 1, 1) := by decide +kernel
theorem dX7_does_54 : decode cX7_does 54 = .ok (.iconst 1, 1) := by decide +kernel
theorem dX7_does_55 : decode cX7_does 55 = .ok (.iadd, 1) := by decide +kernel
theorem dX7_does_56 : decode cX7_does 56 = .ok (.iaload, 1) := by decide +kernel
theorem dX7_does_57 : decode cX7_does 57 = .ok (.aload_n 0, 1) := by decide +kernel
theorem dX7_does_58 : decode cX7_does 58 = .ok (.getfield 36, 3) := by decide +kernel
theorem dX7_does_61 : decode cX7_does 61 = .ok (.iload_n 1, 1) := by decide +kernel
theorem dX7_does_62 : decode cX7_does 62 = .ok (.iconst 2, 1) := by decide +kernel
theorem dX7_does_63 : decode cX7_does 63 = .ok (.iadd, 1) := by decide +kernel
theorem dX7_does_64 : decode cX7_does 64 = .ok (.iaload, 1) := by decide +kernel
theorem dX7_does_65 : decode cX7_does 65 = .ok (.invokevirtual 233, 3) := by decide +kernel
theorem dX7_does_68 : decode cX7_does 68 = .ok (.ireturn, 1) := by decide +kernel
theorem dX7_does_69 : decode cX7_does 69 = .ok (.aload_n 0, 1) := by decide +kernel
theorem dX7_does_70 : decode cX7_does 70 = .ok (.aload_n 0, 1) := by decide +kernel
theorem dX7_does_71 : decode cX7_does 71 = .ok (.getfield 36, 3) := by decide +kernel
theorem dX7_does_74 : decode cX7_does 74 = .ok (.iload_n 1, 1) := by decide +kernel
theorem dX7_does_75 : decode cX7_does 75 = .ok (.iconst 1, 1) := by decide +kernel
theorem dX7_does_76 : decode cX7_does 76 = .ok (.iadd, 1) := by decide +kernel
theorem dX7_does_77 : decode cX7_does 77 = .ok (.iaload, 1) := by decide +kernel
theorem dX7_does_78 : decode cX7_does 78 = .ok (.aload_n 0, 1) := by decide +kernel
theorem dX7_does_79 : decode cX7_does 79 = .ok (.getfield 36, 3) := by decide +kernel
theorem dX7_does_82 : decode cX7_does 82 = .ok (.iload_n 1, 1) := by decide +kernel
theorem dX7_does_83 : decode cX7_does 83 = .ok (.iconst 2, 1) := by decide +kernel
theorem dX7_does_84 : decode cX7_does 84 = .ok (.iadd, 1) := by decide +kernel
theorem dX7_does_85 : decode cX7_does 85 = .ok (.iaload, 1) := by decide +kernel
theorem dX7_does_86 : decode cX7_does 86 = .ok (.invokevirtual 236, 3) := by decide +kernel
theorem dX7_does_89 : decode cX7_does 89 = .ok (.ireturn, 1) := by decide +kernel
theorem dX7_does_90 : decode cX7_does 90 = .ok (.aload_n 0, 1) := by decide +kernel
theorem dX7_does_91 : decode cX7_does 91 = .ok (.aload_n 0, 1) := by decide +kernel
theorem dX7_does_92 : decode cX7_does 92 = .ok (.getfield 36, 3) := by decide +kernel
theorem dX7_does_95 : decode cX7_does 95 = .ok (.iload_n 1, 1) := by decide +kernel
theorem dX7_does_96 : decode cX7_does 96 = .ok (.iconst 1, 1) := by decide +kernel
theorem dX7_does_97 : decode cX7_does 97 = .ok (.iadd, 1) := by decide +kernel
theorem dX7_does_98 : decode cX7_does 98 = .ok (.iaload, 1) := by decide +kernel
theorem dX7_does_99 : decode cX7_does 99 = .ok (.invokevirtual 239, 3) := by decide +kernel
theorem dX7_does_102 : decode cX7_does 102 = .ok (.ireturn, 1) := by decide +kernel
theorem dX7_does_103 : decode cX7_does 103 = .ok (.aload_n 0, 1) := by decide +kernel
theorem dX7_does_104 : decode cX7_does 104 = .ok (.invokevirtual 242, 3) := by decide +kernel
theorem dX7_does_107 : decode cX7_does 107 = .ok (.ireturn, 1) := by decide +kernel
theorem dX7_does_108 : decode cX7_does 108 = .ok (.aload_n 0, 1) := by decide +kernel
theorem dX7_does_109 : decode cX7_does 109 = .ok (.invokevirtual 245, 3) := by decide +kernel
theorem dX7_does_112 : decode cX7_does 112 = .ok (.ireturn, 1) := by decide +kernel
theorem dX7_carryOut_0 : decode cX7_carryOut 0 = .ok (.aload_n 0, 1) := by decide +kernel
theorem dX7_carryOut_1 : decode cX7_carryOut 1 = .ok (.invokevirtual 248, 3) := by decide +kernel
theorem dX7_carryOut_4 : decode cX7_carryOut 4 = .ok (.bipush (-6), 2) := by decide +kernel
theorem dX7_carryOut_6 : decode cX7_carryOut 6 = .ok (.if_icmp .eq 6, 3) := by decide +kernel
theorem dX7_carryOut_9 : decode cX7_carryOut 9 = .ok (.bipush (-3), 2) := by decide +kernel
theorem dX7_carryOut_11 : decode cX7_carryOut 11 = .ok (.ireturn, 1) := by decide +kernel
theorem dX7_carryOut_12 : decode cX7_carryOut 12 = .ok (.iconst 0, 1) := by decide +kernel
theorem dX7_carryOut_13 : decode cX7_carryOut 13 = .ok (.istore_n 1, 1) := by decide +kernel
theorem dX7_carryOut_14 : decode cX7_carryOut 14 = .ok (.iconst 1, 1) := by decide +kernel
theorem dX7_carryOut_15 : decode cX7_carryOut 15 = .ok (.istore_n 2, 1) := by decide +kernel
theorem dX7_carryOut_16 : decode cX7_carryOut 16 = .ok (.iload_n 2, 1) := by decide +kernel
theorem dX7_carryOut_17 : decode cX7_carryOut 17 = .ok (.ifCond .eq 50, 3) := by decide +kernel
theorem dX7_carryOut_20 : decode cX7_carryOut 20 = .ok (.iload_n 1, 1) := by decide +kernel
theorem dX7_carryOut_21 : decode cX7_carryOut 21 = .ok (.aload_n 0, 1) := by decide +kernel
theorem dX7_carryOut_22 : decode cX7_carryOut 22 = .ok (.getfield 221, 3) := by decide +kernel
theorem dX7_carryOut_25 : decode cX7_carryOut 25 = .ok (.if_icmp .ge 42, 3) := by decide +kernel
theorem dX7_carryOut_28 : decode cX7_carryOut 28 = .ok (.aload_n 0, 1) := by decide +kernel
theorem dX7_carryOut_29 : decode cX7_carryOut 29 = .ok (.iconst 3, 1) := by decide +kernel
theorem dX7_carryOut_30 : decode cX7_carryOut 30 = .ok (.iload_n 1, 1) := by decide +kernel
theorem dX7_carryOut_31 : decode cX7_carryOut 31 = .ok (.imul, 1) := by decide +kernel
theorem dX7_carryOut_32 : decode cX7_carryOut 32 = .ok (.invokevirtual 251, 3) := by decide +kernel
theorem dX7_carryOut_35 : decode cX7_carryOut 35 = .ok (.istore_n 3, 1) := by decide +kernel
theorem dX7_carryOut_36 : decode cX7_carryOut 36 = .ok (.iload_n 3, 1) := by decide +kernel
theorem dX7_carryOut_37 : decode cX7_carryOut 37 = .ok (.ifCond .ge 9, 3) := by decide +kernel
theorem dX7_carryOut_40 : decode cX7_carryOut 40 = .ok (.iload_n 3, 1) := by decide +kernel
theorem dX7_carryOut_41 : decode cX7_carryOut 41 = .ok (.bipush (-6), 2) := by decide +kernel
theorem dX7_carryOut_43 : decode cX7_carryOut 43 = .ok (.if_icmp .ne 7, 3) := by decide +kernel
theorem dX7_carryOut_46 : decode cX7_carryOut 46 = .ok (.iconst 1, 1) := by decide +kernel
theorem dX7_carryOut_47 : decode cX7_carryOut 47 = .ok (.goto 4, 3) := by decide +kernel
theorem dX7_carryOut_50 : decode cX7_carryOut 50 = .ok (.iconst 0, 1) := by decide +kernel
theorem dX7_carryOut_51 : decode cX7_carryOut 51 = .ok (.istore_n 2, 1) := by decide +kernel
theorem dX7_carryOut_52 : decode cX7_carryOut 52 = .ok (.iload_n 1, 1) := by decide +kernel
theorem dX7_carryOut_53 : decode cX7_carryOut 53 = .ok (.iload_n 2, 1) := by decide +kernel
theorem dX7_carryOut_54 : decode cX7_carryOut 54 = .ok (.ifCond .eq 7, 3) := by decide +kernel
theorem dX7_carryOut_57 : decode cX7_carryOut 57 = .ok (.iconst 1, 1) := by decide +kernel
theorem dX7_carryOut_58 : decode cX7_carryOut 58 = .ok (.goto 4, 3) := by decide +kernel
theorem dX7_carryOut_61 : decode cX7_carryOut 61 = .ok (.iconst 0, 1) := by decide +kernel
theorem dX7_carryOut_62 : decode cX7_carryOut 62 = .ok (.iadd, 1) := by decide +kernel
theorem dX7_carryOut_63 : decode cX7_carryOut 63 = .ok (.istore_n 1, 1) := by decide +kernel
theorem dX7_carryOut_64 : decode cX7_carryOut 64 = .ok (.goto (-48), 3) := by decide +kernel
theorem dX7_carryOut_67 : decode cX7_carryOut 67 = .ok (.aload_n 0, 1) := by decide +kernel
theorem dX7_carryOut_68 : decode cX7_carryOut 68 = .ok (.iconst 0, 1) := by decide +kernel
theorem dX7_carryOut_69 : decode cX7_carryOut 69 = .ok (.putfield 178, 3) := by decide +kernel
theorem dX7_carryOut_72 : decode cX7_carryOut 72 = .ok (.iload_n 1, 1) := by decide +kernel
theorem dX7_carryOut_73 : decode cX7_carryOut 73 = .ok (.ireturn, 1) := by decide +kernel
theorem dX7_save_0 : decode cX7_save 0 = .ok (.iload_n 1, 1) := by decide +kernel
theorem dX7_save_1 : decode cX7_save 1 = .ok (.iconst 0, 1) := by decide +kernel
theorem dX7_save_2 : decode cX7_save 2 = .ok (.iconst 1, 1) := by decide +kernel
theorem dX7_save_3 : decode cX7_save 3 = .ok (.invokestatic 43, 3) := by decide +kernel
theorem dX7_save_6 : decode cX7_save 6 = .ok (.ifCond .ne 6, 3) := by decide +kernel
theorem dX7_save_9 : decode cX7_save 9 = .ok (.bipush (-2), 2) := by decide +kernel
theorem dX7_save_11 : decode cX7_save 11 = .ok (.ireturn, 1) := by decide +kernel
theorem dX7_save_12 : decode cX7_save 12 = .ok (.iconst 0, 1) := by decide +kernel
theorem dX7_save_13 : decode cX7_save 13 = .ok (.istore_n 2, 1) := by decide +kernel
theorem dX7_save_14 : decode cX7_save 14 = .ok (.iload_n 2, 1) := by decide +kernel
theorem dX7_save_15 : decode cX7_save 15 = .ok (.bipush 118, 2) := by decide +kernel
theorem dX7_save_17 : decode cX7_save 17 = .ok (.if_icmp .ge 26, 3) := by decide +kernel
theorem dX7_save_20 : decode cX7_save 20 = .ok (.aload_n 0, 1) := by decide +kernel
theorem dX7_save_21 : decode cX7_save 21 = .ok (.getfield 16, 3) := by decide +kernel
theorem dX7_save_24 : decode cX7_save 24 = .ok (.bipush 118, 2) := by decide +kernel
theorem dX7_save_26 : decode cX7_save 26 = .ok (.iload_n 1, 1) := by decide +kernel
theorem dX7_save_27 : decode cX7_save 27 = .ok (.imul, 1) := by decide +kernel
theorem dX7_save_28 : decode cX7_save 28 = .ok (.iload_n 2, 1) := by decide +kernel
theorem dX7_save_29 : decode cX7_save 29 = .ok (.iadd, 1) := by decide +kernel
theorem dX7_save_30 : decode cX7_save 30 = .ok (.aload_n 0, 1) := by decide +kernel
theorem dX7_save_31 : decode cX7_save 31 = .ok (.getfield 7, 3) := by decide +kernel
theorem dX7_save_34 : decode cX7_save 34 = .ok (.iload_n 2, 1) := by decide +kernel
theorem dX7_save_35 : decode cX7_save 35 = .ok (.iaload, 1) := by decide +kernel
theorem dX7_save_36 : decode cX7_save 36 = .ok (.iastore, 1) := by decide +kernel
theorem dX7_save_37 : decode cX7_save 37 = .ok (.iinc 2 1, 3) := by decide +kernel
theorem dX7_save_40 : decode cX7_save 40 = .ok (.goto (-26), 3) := by decide +kernel
theorem dX7_save_43 : decode cX7_save 43 = .ok (.aload_n 0, 1) := by decide +kernel
theorem dX7_save_44 : decode cX7_save 44 = .ok (.getfield 19, 3) := by decide +kernel
theorem dX7_save_47 : decode cX7_save 47 = .ok (.iload_n 1, 1) := by decide +kernel
theorem dX7_save_48 : decode cX7_save 48 = .ok (.iconst 1, 1) := by decide +kernel
theorem dX7_save_49 : decode cX7_save 49 = .ok (.bastore, 1) := by decide +kernel
theorem dX7_save_50 : decode cX7_save 50 = .ok (.aload_n 0, 1) := by decide +kernel
theorem dX7_save_51 : decode cX7_save 51 = .ok (.getfield 7, 3) := by decide +kernel
theorem dX7_save_54 : decode cX7_save 54 = .ok (.iconst 2, 1) := by decide +kernel
theorem dX7_save_55 : decode cX7_save 55 = .ok (.iaload, 1) := by decide +kernel
theorem dX7_save_56 : decode cX7_save 56 = .ok (.ireturn, 1) := by decide +kernel
theorem dX7_restore_0 : decode cX7_restore 0 = .ok (.iload_n 1, 1) := by decide +kernel
theorem dX7_restore_1 : decode cX7_restore 1 = .ok (.iconst 0, 1) := by decide +kernel
theorem dX7_restore_2 : decode cX7_restore 2 = .ok (.iconst 1, 1) := by decide +kernel
theorem dX7_restore_3 : decode cX7_restore 3 = .ok (.invokestatic 43, 3) := by decide +kernel
theorem dX7_restore_6 : decode cX7_restore 6 = .ok (.ifCond .ne 6, 3) := by decide +kernel
theorem dX7_restore_9 : decode cX7_restore 9 = .ok (.bipush (-2), 2) := by decide +kernel
theorem dX7_restore_11 : decode cX7_restore 11 = .ok (.ireturn, 1) := by decide +kernel
theorem dX7_restore_12 : decode cX7_restore 12 = .ok (.aload_n 0, 1) := by decide +kernel
theorem dX7_restore_13 : decode cX7_restore 13 = .ok (.getfield 19, 3) := by decide +kernel
theorem dX7_restore_16 : decode cX7_restore 16 = .ok (.iload_n 1, 1) := by decide +kernel
theorem dX7_restore_17 : decode cX7_restore 17 = .ok (.baload, 1) := by decide +kernel
theorem dX7_restore_18 : decode cX7_restore 18 = .ok (.ifCond .ne 6, 3) := by decide +kernel
theorem dX7_restore_21 : decode cX7_restore 21 = .ok (.bipush (-5), 2) := by decide +kernel
theorem dX7_restore_23 : decode cX7_restore 23 = .ok (.ireturn, 1) := by decide +kernel
theorem dX7_restore_24 : decode cX7_restore 24 = .ok (.iconst 0, 1) := by decide +kernel
theorem dX7_restore_25 : decode cX7_restore 25 = .ok (.istore_n 2, 1) := by decide +kernel
theorem dX7_restore_26 : decode cX7_restore 26 = .ok (.iload_n 2, 1) := by decide +kernel
theorem dX7_restore_27 : decode cX7_restore 27 = .ok (.bipush 118, 2) := by decide +kernel
theorem dX7_restore_29 : decode cX7_restore 29 = .ok (.if_icmp .ge 26, 3) := by decide +kernel
theorem dX7_restore_32 : decode cX7_restore 32 = .ok (.aload_n 0, 1) := by decide +kernel
theorem dX7_restore_33 : decode cX7_restore 33 = .ok (.getfield 7, 3) := by decide +kernel
theorem dX7_restore_36 : decode cX7_restore 36 = .ok (.iload_n 2, 1) := by decide +kernel
theorem dX7_restore_37 : decode cX7_restore 37 = .ok (.aload_n 0, 1) := by decide +kernel
theorem dX7_restore_38 : decode cX7_restore 38 = .ok (.getfield 16, 3) := by decide +kernel
theorem dX7_restore_41 : decode cX7_restore 41 = .ok (.bipush 118, 2) := by decide +kernel
theorem dX7_restore_43 : decode cX7_restore 43 = .ok (.iload_n 1, 1) := by decide +kernel
theorem dX7_restore_44 : decode cX7_restore 44 = .ok (.imul, 1) := by decide +kernel
theorem dX7_restore_45 : decode cX7_restore 45 = .ok (.iload_n 2, 1) := by decide +kernel
theorem dX7_restore_46 : decode cX7_restore 46 = .ok (.iadd, 1) := by decide +kernel
theorem dX7_restore_47 : decode cX7_restore 47 = .ok (.iaload, 1) := by decide +kernel
theorem dX7_restore_48 : decode cX7_restore 48 = .ok (.iastore, 1) := by decide +kernel
theorem dX7_restore_49 : decode cX7_restore 49 = .ok (.iinc 2 1, 3) := by decide +kernel
theorem dX7_restore_52 : decode cX7_restore 52 = .ok (.goto (-26), 3) := by decide +kernel
theorem dX7_restore_55 : decode cX7_restore 55 = .ok (.aload_n 0, 1) := by decide +kernel
theorem dX7_restore_56 : decode cX7_restore 56 = .ok (.getfield 7, 3) := by decide +kernel
theorem dX7_restore_59 : decode cX7_restore 59 = .ok (.iconst 2, 1) := by decide +kernel
theorem dX7_restore_60 : decode cX7_restore 60 = .ok (.iaload, 1) := by decide +kernel
theorem dX7_restore_61 : decode cX7_restore 61 = .ok (.ireturn, 1) := by decide +kernel
theorem dJ6_bitCount_0f7a4_0 : decode cJ6_bitCount_0f7a4 0 = .ok (.iload_n 0, 1) := by decide +kernel
theorem dJ6_bitCount_0f7a4_1 : decode cJ6_bitCount_0f7a4 1 = .ok (.iload_n 0, 1) := by decide +kernel
theorem dJ6_bitCount_0f7a4_2 : decode cJ6_bitCount_0f7a4 2 = .ok (.iconst 1, 1) := by decide +kernel
theorem dJ6_bitCount_0f7a4_3 : decode cJ6_bitCount_0f7a4 3 = .ok (.iushr, 1) := by decide +kernel
theorem dJ6_bitCount_0f7a4_4 : decode cJ6_bitCount_0f7a4 4 = .ok (.ldc_w 265, 3) := by decide +kernel
theorem dJ6_bitCount_0f7a4_7 : decode cJ6_bitCount_0f7a4 7 = .ok (.iand, 1) := by decide +kernel
theorem dJ6_bitCount_0f7a4_8 : decode cJ6_bitCount_0f7a4 8 = .ok (.isub, 1) := by decide +kernel
theorem dJ6_bitCount_0f7a4_9 : decode cJ6_bitCount_0f7a4 9 = .ok (.istore_n 0, 1) := by decide +kernel
theorem dJ6_bitCount_0f7a4_10 : decode cJ6_bitCount_0f7a4 10 = .ok (.iload_n 0, 1) := by decide +kernel
theorem dJ6_bitCount_0f7a4_11 : decode cJ6_bitCount_0f7a4 11 = .ok (.ldc_w 266, 3) := by decide +kernel
theorem dJ6_bitCount_0f7a4_14 : decode cJ6_bitCount_0f7a4 14 = .ok (.iand, 1) := by decide +kernel
theorem dJ6_bitCount_0f7a4_15 : decode cJ6_bitCount_0f7a4 15 = .ok (.iload_n 0, 1) := by decide +kernel
theorem dJ6_bitCount_0f7a4_16 : decode cJ6_bitCount_0f7a4 16 = .ok (.iconst 2, 1) := by decide +kernel
theorem dJ6_bitCount_0f7a4_17 : decode cJ6_bitCount_0f7a4 17 = .ok (.iushr, 1) := by decide +kernel
theorem dJ6_bitCount_0f7a4_18 : decode cJ6_bitCount_0f7a4 18 = .ok (.ldc_w 266, 3) := by decide +kernel
theorem dJ6_bitCount_0f7a4_21 : decode cJ6_bitCount_0f7a4 21 = .ok (.iand, 1) := by decide +kernel
theorem dJ6_bitCount_0f7a4_22 : decode cJ6_bitCount_0f7a4 22 = .ok (.iadd, 1) := by decide +kernel
theorem dJ6_bitCount_0f7a4_23 : decode cJ6_bitCount_0f7a4 23 = .ok (.istore_n 0, 1) := by decide +kernel
theorem dJ6_bitCount_0f7a4_24 : decode cJ6_bitCount_0f7a4 24 = .ok (.iload_n 0, 1) := by decide +kernel
theorem dJ6_bitCount_0f7a4_25 : decode cJ6_bitCount_0f7a4 25 = .ok (.iload_n 0, 1) := by decide +kernel
theorem dJ6_bitCount_0f7a4_26 : decode cJ6_bitCount_0f7a4 26 = .ok (.iconst 4, 1) := by decide +kernel
theorem dJ6_bitCount_0f7a4_27 : decode cJ6_bitCount_0f7a4 27 = .ok (.iushr, 1) := by decide +kernel
theorem dJ6_bitCount_0f7a4_28 : decode cJ6_bitCount_0f7a4 28 = .ok (.iadd, 1) := by decide +kernel
theorem dJ6_bitCount_0f7a4_29 : decode cJ6_bitCount_0f7a4 29 = .ok (.ldc_w 267, 3) := by decide +kernel
theorem dJ6_bitCount_0f7a4_32 : decode cJ6_bitCount_0f7a4 32 = .ok (.iand, 1) := by decide +kernel
theorem dJ6_bitCount_0f7a4_33 : decode cJ6_bitCount_0f7a4 33 = .ok (.istore_n 0, 1) := by decide +kernel
theorem dJ6_bitCount_0f7a4_34 : decode cJ6_bitCount_0f7a4 34 = .ok (.iload_n 0, 1) := by decide +kernel
theorem dJ6_bitCount_0f7a4_35 : decode cJ6_bitCount_0f7a4 35 = .ok (.iload_n 0, 1) := by decide +kernel
theorem dJ6_bitCount_0f7a4_36 : decode cJ6_bitCount_0f7a4 36 = .ok (.bipush 8, 2) := by decide +kernel
theorem dJ6_bitCount_0f7a4_38 : decode cJ6_bitCount_0f7a4 38 = .ok (.iushr, 1) := by decide +kernel
theorem dJ6_bitCount_0f7a4_39 : decode cJ6_bitCount_0f7a4 39 = .ok (.iadd, 1) := by decide +kernel
theorem dJ6_bitCount_0f7a4_40 : decode cJ6_bitCount_0f7a4 40 = .ok (.istore_n 0, 1) := by decide +kernel
theorem dJ6_bitCount_0f7a4_41 : decode cJ6_bitCount_0f7a4 41 = .ok (.iload_n 0, 1) := by decide +kernel
theorem dJ6_bitCount_0f7a4_42 : decode cJ6_bitCount_0f7a4 42 = .ok (.iload_n 0, 1) := by decide +kernel
theorem dJ6_bitCount_0f7a4_43 : decode cJ6_bitCount_0f7a4 43 = .ok (.bipush 16, 2) := by decide +kernel
theorem dJ6_bitCount_0f7a4_45 : decode cJ6_bitCount_0f7a4 45 = .ok (.iushr, 1) := by decide +kernel
theorem dJ6_bitCount_0f7a4_46 : decode cJ6_bitCount_0f7a4 46 = .ok (.iadd, 1) := by decide +kernel
theorem dJ6_bitCount_0f7a4_47 : decode cJ6_bitCount_0f7a4 47 = .ok (.istore_n 0, 1) := by decide +kernel
theorem dJ6_bitCount_0f7a4_48 : decode cJ6_bitCount_0f7a4 48 = .ok (.iload_n 0, 1) := by decide +kernel
theorem dJ6_bitCount_0f7a4_49 : decode cJ6_bitCount_0f7a4 49 = .ok (.bipush 63, 2) := by decide +kernel
theorem dJ6_bitCount_0f7a4_51 : decode cJ6_bitCount_0f7a4 51 = .ok (.iand, 1) := by decide +kernel
theorem dJ6_bitCount_0f7a4_52 : decode cJ6_bitCount_0f7a4 52 = .ok (.ireturn, 1) := by decide +kernel
theorem dL_law_0 : decode cL_law 0 = .ok (.new 7, 3) := by decide +kernel
theorem dL_law_3 : decode cL_law 3 = .ok (.dup, 1) := by decide +kernel
theorem dL_law_4 : decode cL_law 4 = .ok (.invokespecial 9, 3) := by decide +kernel
theorem dL_law_7 : decode cL_law 7 = .ok (.astore_n 1, 1) := by decide +kernel
theorem dL_law_8 : decode cL_law 8 = .ok (.new 10, 3) := by decide +kernel
theorem dL_law_11 : decode cL_law 11 = .ok (.dup, 1) := by decide +kernel
theorem dL_law_12 : decode cL_law 12 = .ok (.invokespecial 12, 3) := by decide +kernel
theorem dL_law_15 : decode cL_law 15 = .ok (.astore_n 2, 1) := by decide +kernel
theorem dL_law_16 : decode cL_law 16 = .ok (.iconst 0, 1) := by decide +kernel
theorem dL_law_17 : decode cL_law 17 = .ok (.istore_n 3, 1) := by decide +kernel
theorem dL_law_18 : decode cL_law 18 = .ok (.iload_n 3, 1) := by decide +kernel
theorem dL_law_19 : decode cL_law 19 = .ok (.aload_n 0, 1) := by decide +kernel
theorem dL_law_20 : decode cL_law 20 = .ok (.arraylength, 1) := by decide +kernel
theorem dL_law_21 : decode cL_law 21 = .ok (.iconst 4, 1) := by decide +kernel
theorem dL_law_22 : decode cL_law 22 = .ok (.isub, 1) := by decide +kernel
theorem dL_law_23 : decode cL_law 23 = .ok (.if_icmp .gt 855, 3) := by decide +kernel
theorem dL_law_26 : decode cL_law 26 = .ok (.aload_n 0, 1) := by decide +kernel
theorem dL_law_27 : decode cL_law 27 = .ok (.iload_n 3, 1) := by decide +kernel
theorem dL_law_28 : decode cL_law 28 = .ok (.iaload, 1) := by decide +kernel
theorem dL_law_29 : decode cL_law 29 = .ok (.bipush 31, 2) := by decide +kernel
theorem dL_law_31 : decode cL_law 31 = .ok (.iand, 1) := by decide +kernel
theorem dL_law_32 : decode cL_law 32 = .ok (.tableswitch 840 0 25 #[120, 143, 176, 209, 242, 275, 308, 341, 364, 377, 390, 423, 456, 489, 512, 545, 559, 593, 636, 669, 702, 755, 768, 781, 794, 817], 120) := by decide +kernel
theorem dL_law_152 : decode cL_law 152 = .ok (.aload_n 1, 1) := by decide +kernel
theorem dL_law_153 : decode cL_law 153 = .ok (.aload_n 0, 1) := by decide +kernel
theorem dL_law_154 : decode cL_law 154 = .ok (.iload_n 3, 1) := by decide +kernel
theorem dL_law_155 : decode cL_law 155 = .ok (.iconst 1, 1) := by decide +kernel
theorem dL_law_156 : decode cL_law 156 = .ok (.iadd, 1) := by decide +kernel
theorem dL_law_157 : decode cL_law 157 = .ok (.iaload, 1) := by decide +kernel
theorem dL_law_158 : decode cL_law 158 = .ok (.invokevirtual 13, 3) := by decide +kernel
theorem dL_law_161 : decode cL_law 161 = .ok (.aload_n 2, 1) := by decide +kernel
theorem dL_law_162 : decode cL_law 162 = .ok (.aload_n 0, 1) := by decide +kernel
theorem dL_law_163 : decode cL_law 163 = .ok (.iload_n 3, 1) := by decide +kernel
theorem dL_law_164 : decode cL_law 164 = .ok (.iconst 1, 1) := by decide +kernel
theorem dL_law_165 : decode cL_law 165 = .ok (.iadd, 1) := by decide +kernel
theorem dL_law_166 : decode cL_law 166 = .ok (.iaload, 1) := by decide +kernel
theorem dL_law_167 : decode cL_law 167 = .ok (.invokevirtual 17, 3) := by decide +kernel
theorem dL_law_170 : decode cL_law 170 = .ok (.if_icmp .eq 702, 3) := by decide +kernel
theorem dL_law_173 : decode cL_law 173 = .ok (.iconst 0, 1) := by decide +kernel
theorem dL_law_174 : decode cL_law 174 = .ok (.ireturn, 1) := by decide +kernel
theorem dL_law_175 : decode cL_law 175 = .ok (.aload_n 1, 1) := by decide +kernel
theorem dL_law_176 : decode cL_law 176 = .ok (.aload_n 0, 1) := by decide +kernel
theorem dL_law_177 : decode cL_law 177 = .ok (.iload_n 3, 1) := by decide +kernel
theorem dL_law_178 : decode cL_law 178 = .ok (.iconst 1, 1) := by decide +kernel
theorem dL_law_179 : decode cL_law 179 = .ok (.iadd, 1) := by decide +kernel
theorem dL_law_180 : decode cL_law 180 = .ok (.iaload, 1) := by decide +kernel
theorem dL_law_181 : decode cL_law 181 = .ok (.aload_n 0, 1) := by decide +kernel
theorem dL_law_182 : decode cL_law 182 = .ok (.iload_n 3, 1) := by decide +kernel
theorem dL_law_183 : decode cL_law 183 = .ok (.iconst 2, 1) := by decide +kernel
theorem dL_law_184 : decode cL_law 184 = .ok (.iadd, 1) := by decide +kernel
theorem dL_law_185 : decode cL_law 185 = .ok (.iaload, 1) := by decide +kernel
theorem dL_law_186 : decode cL_law 186 = .ok (.invokevirtual 18, 3) := by decide +kernel
theorem dL_law_189 : decode cL_law 189 = .ok (.aload_n 2, 1) := by decide +kernel
theorem dL_law_190 : decode cL_law 190 = .ok (.aload_n 0, 1) := by decide +kernel
theorem dL_law_191 : decode cL_law 191 = .ok (.iload_n 3, 1) := by decide +kernel
theorem dL_law_192 : decode cL_law 192 = .ok (.iconst 1, 1) := by decide +kernel
theorem dL_law_193 : decode cL_law 193 = .ok (.iadd, 1) := by decide +kernel
theorem dL_law_194 : decode cL_law 194 = .ok (.iaload, 1) := by decide +kernel
theorem dL_law_195 : decode cL_law 195 = .ok (.aload_n 0, 1) := by decide +kernel
theorem dL_law_196 : decode cL_law 196 = .ok (.iload_n 3, 1) := by decide +kernel
theorem dL_law_197 : decode cL_law 197 = .ok (.iconst 2, 1) := by decide +kernel
theorem dL_law_198 : decode cL_law 198 = .ok (.iadd, 1) := by decide +kernel
theorem dL_law_199 : decode cL_law 199 = .ok (.iaload, 1) := by decide +kernel
theorem dL_law_200 : decode cL_law 200 = .ok (.invokevirtual 22, 3) := by decide +kernel
theorem dL_law_203 : decode cL_law 203 = .ok (.if_icmp .eq 669, 3) := by decide +kernel
theorem dL_law_206 : decode cL_law 206 = .ok (.iconst 0, 1) := by decide +kernel
theorem dL_law_207 : decode cL_law 207 = .ok (.ireturn, 1) := by decide +kernel
theorem dL_law_208 : decode cL_law 208 = .ok (.aload_n 1, 1) := by decide +kernel
theorem dL_law_209 : decode cL_law 209 = .ok (.aload_n 0, 1) := by decide +kernel
theorem dL_law_210 : decode cL_law 210 = .ok (.iload_n 3, 1) := by decide +kernel
theorem dL_law_211 : decode cL_law 211 = .ok (.iconst 1, 1) := by decide +kernel
theorem dL_law_212 : decode cL_law 212 = .ok (.iadd, 1) := by decide +kernel
theorem dL_law_213 : decode cL_law 213 = .ok (.iaload, 1) := by decide +kernel
theorem dL_law_214 : decode cL_law 214 = .ok (.aload_n 0, 1) := by decide +kernel
theorem dL_law_215 : decode cL_law 215 = .ok (.iload_n 3, 1) := by decide +kernel
theorem dL_law_216 : decode cL_law 216 = .ok (.iconst 2, 1) := by decide +kernel
theorem dL_law_217 : decode cL_law 217 = .ok (.iadd, 1) := by decide +kernel
theorem dL_law_218 : decode cL_law 218 = .ok (.iaload, 1) := by decide +kernel
theorem dL_law_219 : decode cL_law 219 = .ok (.invokevirtual 23, 3) := by decide +kernel
theorem dL_law_222 : decode cL_law 222 = .ok (.aload_n 2, 1) := by decide +kernel
theorem dL_law_223 : decode cL_law 223 = .ok (.aload_n 0, 1) := by decide +kernel
theorem dL_law_224 : decode cL_law 224 = .ok (.iload_n 3, 1) := by decide +kernel
theorem dL_law_225 : decode cL_law 225 = .ok (.iconst 1, 1) := by decide +kernel
theorem dL_law_226 : decode cL_law 226 = .ok (.iadd, 1) := by decide +kernel
theorem dL_law_227 : decode cL_law 227 = .ok (.iaload, 1) := by decide +kernel
theorem dL_law_228 : decode cL_law 228 = .ok (.aload_n 0, 1) := by decide +kernel
theorem dL_law_229 : decode cL_law 229 = .ok (.iload_n 3, 1) := by decide +kernel
theorem dL_law_230 : decode cL_law 230 = .ok (.iconst 2, 1) := by decide +kernel
theorem dL_law_231 : decode cL_law 231 = .ok (.iadd, 1) := by decide +kernel
theorem dL_law_232 : decode cL_law 232 = .ok (.iaload, 1) := by decide +kernel
theorem dL_law_233 : decode cL_law 233 = .ok (.invokevirtual 26, 3) := by decide +kernel
theorem dL_law_236 : decode cL_law 236 = .ok (.if_icmp .eq 636, 3) := by decide +kernel
theorem dL_law_239 : decode cL_law 239 = .ok (.iconst 0, 1) := by decide +kernel
theorem dL_law_240 : decode cL_law 240 = .ok (.ireturn, 1) := by decide +kernel
theorem dL_law_241 : decode cL_law 241 = .ok (.aload_n 1, 1) := by decide +kernel
theorem dL_law_242 : decode cL_law 242 = .ok (.aload_n 0, 1) := by decide +kernel
theorem dL_law_243 : decode cL_law 243 = .ok (.iload_n 3, 1) := by decide +kernel
theorem dL_law_244 : decode cL_law 244 = .ok (.iconst 1, 1) := by decide +kernel
theorem dL_law_245 : decode cL_law 245 = .ok (.iadd, 1) := by decide +kernel
theorem dL_law_246 : decode cL_law 246 = .ok (.iaload, 1) := by decide +kernel
theorem dL_law_247 : decode cL_law 247 = .ok (.aload_n 0, 1) := by decide +kernel
theorem dL_law_248 : decode cL_law 248 = .ok (.iload_n 3, 1) := by decide +kernel
theorem dL_law_249 : decode cL_law 249 = .ok (.iconst 2, 1) := by decide +kernel
theorem dL_law_250 : decode cL_law 250 = .ok (.iadd, 1) := by decide +kernel
theorem dL_law_251 : decode cL_law 251 = .ok (.iaload, 1) := by decide +kernel
theorem dL_law_252 : decode cL_law 252 = .ok (.invokevirtual 27, 3) := by decide +kernel
theorem dL_law_255 : decode cL_law 255 = .ok (.aload_n 2, 1) := by decide +kernel
theorem dL_law_256 : decode cL_law 256 = .ok (.aload_n 0, 1) := by decide +kernel
theorem dL_law_257 : decode cL_law 257 = .ok (.iload_n 3, 1) := by decide +kernel
theorem dL_law_258 : decode cL_law 258 = .ok (.iconst 1, 1) := by decide +kernel
theorem dL_law_259 : decode cL_law 259 = .ok (.iadd, 1) := by decide +kernel
theorem dL_law_260 : decode cL_law 260 = .ok (.iaload, 1) := by decide +kernel
theorem dL_law_261 : decode cL_law 261 = .ok (.aload_n 0, 1) := by decide +kernel
theorem dL_law_262 : decode cL_law 262 = .ok (.iload_n 3, 1) := by decide +kernel
theorem dL_law_263 : decode cL_law 263 = .ok (.iconst 2, 1) := by decide +kernel
theorem dL_law_264 : decode cL_law 264 = .ok (.iadd, 1) := by decide +kernel
theorem dL_law_265 : decode cL_law 265 = .ok (.iaload, 1) := by decide +kernel
theorem dL_law_266 : decode cL_law 266 = .ok (.invokevirtual 30, 3) := by decide +kernel
theorem dL_law_269 : decode cL_law 269 = .ok (.if_icmp .eq 603, 3) := by decide +kernel
theorem dL_law_272 : decode cL_law 272 = .ok (.iconst 0, 1) := by decide +kernel
theorem dL_law_273 : decode cL_law 273 = .ok (.ireturn, 1) := by decide +kernel
theorem dL_law_274 : decode cL_law 274 = .ok (.aload_n 1, 1) := by decide +kernel
theorem dL_law_275 : decode cL_law 275 = .ok (.aload_n 0, 1) := by decide +kernel
theorem dL_law_276 : decode cL_law 276 = .ok (.iload_n 3, 1) := by decide +kernel
theorem dL_law_277 : decode cL_law 277 = .ok (.iconst 1, 1) := by decide +kernel
theorem dL_law_278 : decode cL_law 278 = .ok (.iadd, 1) := by decide +kernel
theorem dL_law_279 : decode cL_law 279 = .ok (.iaload, 1) := by decide +kernel
theorem dL_law_280 : decode cL_law 280 = .ok (.aload_n 0, 1) := by decide +kernel
theorem dL_law_281 : decode cL_law 281 = .ok (.iload_n 3, 1) := by decide +kernel
theorem dL_law_282 : decode cL_law 282 = .ok (.iconst 2, 1) := by decide +kernel
theorem dL_law_283 : decode cL_law 283 = .ok (.iadd, 1) := by decide +kernel
theorem dL_law_284 : decode cL_law 284 = .ok (.iaload, 1) := by decide +kernel
theorem dL_law_285 : decode cL_law 285 = .ok (.invokevirtual 31, 3) := by decide +kernel
theorem dL_law_288 : decode cL_law 288 = .ok (.aload_n 2, 1) := by decide +kernel
theorem dL_law_289 : decode cL_law 289 = .ok (.aload_n 0, 1) := by decide +kernel
theorem dL_law_290 : decode cL_law 290 = .ok (.iload_n 3, 1) := by decide +kernel
theorem dL_law_291 : decode cL_law 291 = .ok (.iconst 1, 1) := by decide +kernel
theorem dL_law_292 : decode cL_law 292 = .ok (.iadd, 1) := by decide +kernel
theorem dL_law_293 : decode cL_law 293 = .ok (.iaload, 1) := by decide +kernel
theorem dL_law_294 : decode cL_law 294 = .ok (.aload_n 0, 1) := by decide +kernel
theorem dL_law_295 : decode cL_law 295 = .ok (.iload_n 3, 1) := by decide +kernel
theorem dL_law_296 : decode cL_law 296 = .ok (.iconst 2, 1) := by decide +kernel
theorem dL_law_297 : decode cL_law 297 = .ok (.iadd, 1) := by decide +kernel
theorem dL_law_298 : decode cL_law 298 = .ok (.iaload, 1) := by decide +kernel
theorem dL_law_299 : decode cL_law 299 = .ok (.invokevirtual 34, 3) := by decide +kernel
theorem dL_law_302 : decode cL_law 302 = .ok (.if_icmp .eq 570, 3) := by decide +kernel
theorem dL_law_305 : decode cL_law 305 = .ok (.iconst 0, 1) := by decide +kernel
theorem dL_law_306 : decode cL_law 306 = .ok (.ireturn, 1) := by decide +kernel
theorem dL_law_307 : decode cL_law 307 = .ok (.aload_n 1, 1) := by decide +kernel
theorem dL_law_308 : decode cL_law 308 = .ok (.aload_n 0, 1) := by decide +kernel
theorem dL_law_309 : decode cL_law 309 = .ok (.iload_n 3, 1) := by decide +kernel
theorem dL_law_310 : decode cL_law 310 = .ok (.iconst 1, 1) := by decide +kernel
theorem dL_law_311 : decode cL_law 311 = .ok (.iadd, 1) := by decide +kernel
theorem dL_law_312 : decode cL_law 312 = .ok (.iaload, 1) := by decide +kernel
theorem dL_law_313 : decode cL_law 313 = .ok (.aload_n 0, 1) := by decide +kernel
theorem dL_law_314 : decode cL_law 314 = .ok (.iload_n 3, 1) := by decide +kernel
theorem dL_law_315 : decode cL_law 315 = .ok (.iconst 2, 1) := by decide +kernel
theorem dL_law_316 : decode cL_law 316 = .ok (.iadd, 1) := by decide +kernel
theorem dL_law_317 : decode cL_law 317 = .ok (.iaload, 1) := by decide +kernel
theorem dL_law_318 : decode cL_law 318 = .ok (.invokevirtual 35, 3) := by decide +kernel
theorem dL_law_321 : decode cL_law 321 = .ok (.aload_n 2, 1) := by decide +kernel
theorem dL_law_322 : decode cL_law 322 = .ok (.aload_n 0, 1) := by decide +kernel
theorem dL_law_323 : decode cL_law 323 = .ok (.iload_n 3, 1) := by decide +kernel
theorem dL_law_324 : decode cL_law 324 = .ok (.iconst 1, 1) := by decide +kernel
theorem dL_law_325 : decode cL_law 325 = .ok (.iadd, 1) := by decide +kernel
theorem dL_law_326 : decode cL_law 326 = .ok (.iaload, 1) := by decide +kernel
theorem dL_law_327 : decode cL_law 327 = .ok (.aload_n 0, 1) := by decide +kernel
theorem dL_law_328 : decode cL_law 328 = .ok (.iload_n 3, 1) := by decide +kernel
theorem dL_law_329 : decode cL_law 329 = .ok (.iconst 2, 1) := by decide +kernel
theorem dL_law_330 : decode cL_law 330 = .ok (.iadd, 1) := by decide +kernel
theorem dL_law_331 : decode cL_law 331 = .ok (.iaload, 1) := by decide +kernel
theorem dL_law_332 : decode cL_law 332 = .ok (.invokevirtual 38, 3) := by decide +kernel
theorem dL_law_335 : decode cL_law 335 = .ok (.if_icmp .eq 537, 3) := by decide +kernel
theorem dL_law_338 : decode cL_law 338 = .ok (.iconst 0, 1) := by decide +kernel
theorem dL_law_339 : decode cL_law 339 = .ok (.ireturn, 1) := by decide +kernel
theorem dL_law_340 : decode cL_law 340 = .ok (.aload_n 1, 1) := by decide +kernel
theorem dL_law_341 : decode cL_law 341 = .ok (.aload_n 0, 1) := by decide +kernel
theorem dL_law_342 : decode cL_law 342 = .ok (.iload_n 3, 1) := by decide +kernel
theorem dL_law_343 : decode cL_law 343 = .ok (.iconst 1, 1) := by decide +kernel
theorem dL_law_344 : decode cL_law 344 = .ok (.iadd, 1) := by decide +kernel
theorem dL_law_345 : decode cL_law 345 = .ok (.iaload, 1) := by decide +kernel
theorem dL_law_346 : decode cL_law 346 = .ok (.aload_n 0, 1) := by decide +kernel
theorem dL_law_347 : decode cL_law 347 = .ok (.iload_n 3, 1) := by decide +kernel
theorem dL_law_348 : decode cL_law 348 = .ok (.iconst 2, 1) := by decide +kernel
theorem dL_law_349 : decode cL_law 349 = .ok (.iadd, 1) := by decide +kernel
theorem dL_law_350 : decode cL_law 350 = .ok (.iaload, 1) := by decide +kernel
theorem dL_law_351 : decode cL_law 351 = .ok (.invokevirtual 39, 3) := by decide +kernel
theorem dL_law_354 : decode cL_law 354 = .ok (.aload_n 2, 1) := by decide +kernel
theorem dL_law_355 : decode cL_law 355 = .ok (.aload_n 0, 1) := by decide +kernel
theorem dL_law_356 : decode cL_law 356 = .ok (.iload_n 3, 1) := by decide +kernel
theorem dL_law_357 : decode cL_law 357 = .ok (.iconst 1, 1) := by decide +kernel
theorem dL_law_358 : decode cL_law 358 = .ok (.iadd, 1) := by decide +kernel
theorem dL_law_359 : decode cL_law 359 = .ok (.iaload, 1) := by decide +kernel
theorem dL_law_360 : decode cL_law 360 = .ok (.aload_n 0, 1) := by decide +kernel
theorem dL_law_361 : decode cL_law 361 = .ok (.iload_n 3, 1) := by decide +kernel
theorem dL_law_362 : decode cL_law 362 = .ok (.iconst 2, 1) := by decide +kernel
theorem dL_law_363 : decode cL_law 363 = .ok (.iadd, 1) := by decide +kernel
theorem dL_law_364 : decode cL_law 364 = .ok (.iaload, 1) := by decide +kernel
theorem dL_law_365 : decode cL_law 365 = .ok (.invokevirtual 42, 3) := by decide +kernel
theorem dL_law_368 : decode cL_law 368 = .ok (.if_icmp .eq 504, 3) := by decide +kernel
theorem dL_law_371 : decode cL_law 371 = .ok (.iconst 0, 1) := by decide +kernel
theorem dL_law_372 : decode cL_law 372 = .ok (.ireturn, 1) := by decide +kernel
theorem dL_law_373 : decode cL_law 373 = .ok (.aload_n 1, 1) := by decide +kernel
theorem dL_law_374 : decode cL_law 374 = .ok (.aload_n 0, 1) := by decide +kernel
theorem dL_law_375 : decode cL_law 375 = .ok (.iload_n 3, 1) := by decide +kernel
theorem dL_law_376 : decode cL_law 376 = .ok (.iconst 1, 1) := by decide +kernel
theorem dL_law_377 : decode cL_law 377 = .ok (.iadd, 1) := by decide +kernel
theorem dL_law_378 : decode cL_law 378 = .ok (.iaload, 1) := by decide +kernel
theorem dL_law_379 : decode cL_law 379 = .ok (.invokevirtual 43, 3) := by decide +kernel
theorem dL_law_382 : decode cL_law 382 = .ok (.aload_n 2, 1) := by decide +kernel
theorem dL_law_383 : decode cL_law 383 = .ok (.aload_n 0, 1) := by decide +kernel
theorem dL_law_384 : decode cL_law 384 = .ok (.iload_n 3, 1) := by decide +kernel
theorem dL_law_385 : decode cL_law 385 = .ok (.iconst 1, 1) := by decide +kernel
theorem dL_law_386 : decode cL_law 386 = .ok (.iadd, 1) := by decide +kernel
theorem dL_law_387 : decode cL_law 387 = .ok (.iaload, 1) := by decide +kernel
theorem dL_law_388 : decode cL_law 388 = .ok (.invokevirtual 46, 3) := by decide +kernel
theorem dL_law_391 : decode cL_law 391 = .ok (.if_icmp .eq 481, 3) := by decide +kernel
theorem dL_law_394 : decode cL_law 394 = .ok (.iconst 0, 1) := by decide +kernel
theorem dL_law_395 : decode cL_law 395 = .ok (.ireturn, 1) := by decide +kernel
theorem dL_law_396 : decode cL_law 396 = .ok (.aload_n 1, 1) := by decide +kernel
theorem dL_law_397 : decode cL_law 397 = .ok (.invokevirtual 47, 3) := by decide +kernel
theorem dL_law_400 : decode cL_law 400 = .ok (.aload_n 2, 1) := by decide +kernel
theorem dL_law_401 : decode cL_law 401 = .ok (.invokevirtual 51, 3) := by decide +kernel
theorem dL_law_404 : decode cL_law 404 = .ok (.if_icmp .eq 468, 3) := by decide +kernel
theorem dL_law_407 : decode cL_law 407 = .ok (.iconst 0, 1) := by decide +kernel
theorem dL_law_408 : decode cL_law 408 = .ok (.ireturn, 1) := by decide +kernel
theorem dL_law_409 : decode cL_law 409 = .ok (.aload_n 1, 1) := by decide +kernel
theorem dL_law_410 : decode cL_law 410 = .ok (.invokevirtual 52, 3) := by decide +kernel
theorem dL_law_413 : decode cL_law 413 = .ok (.aload_n 2, 1) := by decide +kernel
theorem dL_law_414 : decode cL_law 414 = .ok (.invokevirtual 55, 3) := by decide +kernel
theorem dL_law_417 : decode cL_law 417 = .ok (.if_icmp .eq 455, 3) := by decide +kernel
theorem dL_law_420 : decode cL_law 420 = .ok (.iconst 0, 1) := by decide +kernel
theorem dL_law_421 : decode cL_law 421 = .ok (.ireturn, 1) := by decide +kernel
theorem dL_law_422 : decode cL_law 422 = .ok (.aload_n 1, 1) := by decide +kernel
theorem dL_law_423 : decode cL_law 423 = .ok (.aload_n 0, 1) := by decide +kernel
theorem dL_law_424 : decode cL_law 424 = .ok (.iload_n 3, 1) := by decide +kernel
theorem dL_law_425 : decode cL_law 425 = .ok (.iconst 1, 1) := by decide +kernel
theorem dL_law_426 : decode cL_law 426 = .ok (.iadd, 1) := by decide +kernel
theorem dL_law_427 : decode cL_law 427 = .ok (.iaload, 1) := by decide +kernel
theorem dL_law_428 : decode cL_law 428 = .ok (.aload_n 0, 1) := by decide +kernel
theorem dL_law_429 : decode cL_law 429 = .ok (.iload_n 3, 1) := by decide +kernel
theorem dL_law_430 : decode cL_law 430 = .ok (.iconst 2, 1) := by decide +kernel
theorem dL_law_431 : decode cL_law 431 = .ok (.iadd, 1) := by decide +kernel
theorem dL_law_432 : decode cL_law 432 = .ok (.iaload, 1) := by decide +kernel
theorem dL_law_433 : decode cL_law 433 = .ok (.invokevirtual 56, 3) := by decide +kernel
theorem dL_law_436 : decode cL_law 436 = .ok (.aload_n 2, 1) := by decide +kernel
theorem dL_law_437 : decode cL_law 437 = .ok (.aload_n 0, 1) := by decide +kernel
theorem dL_law_438 : decode cL_law 438 = .ok (.iload_n 3, 1) := by decide +kernel
theorem dL_law_439 : decode cL_law 439 = .ok (.iconst 1, 1) := by decide +kernel
theorem dL_law_440 : decode cL_law 440 = .ok (.iadd, 1) := by decide +kernel
theorem dL_law_441 : decode cL_law 441 = .ok (.iaload, 1) := by decide +kernel
theorem dL_law_442 : decode cL_law 442 = .ok (.aload_n 0, 1) := by decide +kernel
theorem dL_law_443 : decode cL_law 443 = .ok (.iload_n 3, 1) := by decide +kernel
theorem dL_law_444 : decode cL_law 444 = .ok (.iconst 2, 1) := by decide +kernel
theorem dL_law_445 : decode cL_law 445 = .ok (.iadd, 1) := by decide +kernel
theorem dL_law_446 : decode cL_law 446 = .ok (.iaload, 1) := by decide +kernel
theorem dL_law_447 : decode cL_law 447 = .ok (.invokevirtual 59, 3) := by decide +kernel
theorem dL_law_450 : decode cL_law 450 = .ok (.if_icmp .eq 422, 3) := by decide +kernel
theorem dL_law_453 : decode cL_law 453 = .ok (.iconst 0, 1) := by decide +kernel
theorem dL_law_454 : decode cL_law 454 = .ok (.ireturn, 1) := by decide +kernel
theorem dL_law_455 : decode cL_law 455 = .ok (.aload_n 1, 1) := by decide +kernel
theorem dL_law_456 : decode cL_law 456 = .ok (.aload_n 0, 1) := by decide +kernel
theorem dL_law_457 : decode cL_law 457 = .ok (.iload_n 3, 1) := by decide +kernel
theorem dL_law_458 : decode cL_law 458 = .ok (.iconst 1, 1) := by decide +kernel
theorem dL_law_459 : decode cL_law 459 = .ok (.iadd, 1) := by decide +kernel
theorem dL_law_460 : decode cL_law 460 = .ok (.iaload, 1) := by decide +kernel
theorem dL_law_461 : decode cL_law 461 = .ok (.aload_n 0, 1) := by decide +kernel
theorem dL_law_462 : decode cL_law 462 = .ok (.iload_n 3, 1) := by decide +kernel
theorem dL_law_463 : decode cL_law 463 = .ok (.iconst 2, 1) := by decide +kernel
theorem dL_law_464 : decode cL_law 464 = .ok (.iadd, 1) := by decide +kernel
theorem dL_law_465 : decode cL_law 465 = .ok (.iaload, 1) := by decide +kernel
theorem dL_law_466 : decode cL_law 466 = .ok (.invokevirtual 60, 3) := by decide +kernel
theorem dL_law_469 : decode cL_law 469 = .ok (.aload_n 2, 1) := by decide +kernel
theorem dL_law_470 : decode cL_law 470 = .ok (.aload_n 0, 1) := by decide +kernel
theorem dL_law_471 : decode cL_law 471 = .ok (.iload_n 3, 1) := by decide +kernel
theorem dL_law_472 : decode cL_law 472 = .ok (.iconst 1, 1) := by decide +kernel
theorem dL_law_473 : decode cL_law 473 = .ok (.iadd, 1) := by decide +kernel
theorem dL_law_474 : decode cL_law 474 = .ok (.iaload, 1) := by decide +kernel
theorem dL_law_475 : decode cL_law 475 = .ok (.aload_n 0, 1) := by decide +kernel
theorem dL_law_476 : decode cL_law 476 = .ok (.iload_n 3, 1) := by decide +kernel
theorem dL_law_477 : decode cL_law 477 = .ok (.iconst 2, 1) := by decide +kernel
theorem dL_law_478 : decode cL_law 478 = .ok (.iadd, 1) := by decide +kernel
theorem dL_law_479 : decode cL_law 479 = .ok (.iaload, 1) := by decide +kernel
theorem dL_law_480 : decode cL_law 480 = .ok (.invokevirtual 63, 3) := by decide +kernel
theorem dL_law_483 : decode cL_law 483 = .ok (.if_icmp .eq 389, 3) := by decide +kernel
theorem dL_law_486 : decode cL_law 486 = .ok (.iconst 0, 1) := by decide +kernel
theorem dL_law_487 : decode cL_law 487 = .ok (.ireturn, 1) := by decide +kernel
theorem dL_law_488 : decode cL_law 488 = .ok (.aload_n 1, 1) := by decide +kernel
theorem dL_law_489 : decode cL_law 489 = .ok (.aload_n 0, 1) := by decide +kernel
theorem dL_law_490 : decode cL_law 490 = .ok (.iload_n 3, 1) := by decide +kernel
theorem dL_law_491 : decode cL_law 491 = .ok (.iconst 1, 1) := by decide +kernel
theorem dL_law_492 : decode cL_law 492 = .ok (.iadd, 1) := by decide +kernel
theorem dL_law_493 : decode cL_law 493 = .ok (.iaload, 1) := by decide +kernel
theorem dL_law_494 : decode cL_law 494 = .ok (.aload_n 0, 1) := by decide +kernel
theorem dL_law_495 : decode cL_law 495 = .ok (.iload_n 3, 1) := by decide +kernel
theorem dL_law_496 : decode cL_law 496 = .ok (.iconst 2, 1) := by decide +kernel
theorem dL_law_497 : decode cL_law 497 = .ok (.iadd, 1) := by decide +kernel
theorem dL_law_498 : decode cL_law 498 = .ok (.iaload, 1) := by decide +kernel
theorem dL_law_499 : decode cL_law 499 = .ok (.invokevirtual 64, 3) := by decide +kernel
theorem dL_law_502 : decode cL_law 502 = .ok (.aload_n 2, 1) := by decide +kernel
theorem dL_law_503 : decode cL_law 503 = .ok (.aload_n 0, 1) := by decide +kernel
theorem dL_law_504 : decode cL_law 504 = .ok (.iload_n 3, 1) := by decide +kernel
theorem dL_law_505 : decode cL_law 505 = .ok (.iconst 1, 1) := by decide +kernel
theorem dL_law_506 : decode cL_law 506 = .ok (.iadd, 1) := by decide +kernel
theorem dL_law_507 : decode cL_law 507 = .ok (.iaload, 1) := by decide +kernel
theorem dL_law_508 : decode cL_law 508 = .ok (.aload_n 0, 1) := by decide +kernel
theorem dL_law_509 : decode cL_law 509 = .ok (.iload_n 3, 1) := by decide +kernel
theorem dL_law_510 : decode cL_law 510 = .ok (.iconst 2, 1) := by decide +kernel
theorem dL_law_511 : decode cL_law 511 = .ok (.iadd, 1) := by decide +kernel
theorem dL_law_512 : decode cL_law 512 = .ok (.iaload, 1) := by decide +kernel
theorem dL_law_513 : decode cL_law 513 = .ok (.invokevirtual 67, 3) := by decide +kernel
theorem dL_law_516 : decode cL_law 516 = .ok (.if_icmp .eq 356, 3) := by decide +kernel
theorem dL_law_519 : decode cL_law 519 = .ok (.iconst 0, 1) := by decide +kernel
theorem dL_law_520 : decode cL_law 520 = .ok (.ireturn, 1) := by decide +kernel
theorem dL_law_521 : decode cL_law 521 = .ok (.aload_n 1, 1) := by decide +kernel
theorem dL_law_522 : decode cL_law 522 = .ok (.aload_n 0, 1) := by decide +kernel
theorem dL_law_523 : decode cL_law 523 = .ok (.iload_n 3, 1) := by decide +kernel
theorem dL_law_524 : decode cL_law 524 = .ok (.iconst 1, 1) := by decide +kernel
theorem dL_law_525 : decode cL_law 525 = .ok (.iadd, 1) := by decide +kernel
theorem dL_law_526 : decode cL_law 526 = .ok (.iaload, 1) := by decide +kernel
theorem dL_law_527 : decode cL_law 527 = .ok (.invokevirtual 68, 3) := by decide +kernel
theorem dL_law_530 : decode cL_law 530 = .ok (.aload_n 2, 1) := by decide +kernel
theorem dL_law_531 : decode cL_law 531 = .ok (.aload_n 0, 1) := by decide +kernel
theorem dL_law_532 : decode cL_law 532 = .ok (.iload_n 3, 1) := by decide +kernel
theorem dL_law_533 : decode cL_law 533 = .ok (.iconst 1, 1) := by decide +kernel
theorem dL_law_534 : decode cL_law 534 = .ok (.iadd, 1) := by decide +kernel
theorem dL_law_535 : decode cL_law 535 = .ok (.iaload, 1) := by decide +kernel
theorem dL_law_536 : decode cL_law 536 = .ok (.invokevirtual 71, 3) := by decide +kernel
theorem dL_law_539 : decode cL_law 539 = .ok (.if_icmp .eq 333, 3) := by decide +kernel
theorem dL_law_542 : decode cL_law 542 = .ok (.iconst 0, 1) := by decide +kernel
theorem dL_law_543 : decode cL_law 543 = .ok (.ireturn, 1) := by decide +kernel
theorem dL_law_544 : decode cL_law 544 = .ok (.aload_n 1, 1) := by decide +kernel
theorem dL_law_545 : decode cL_law 545 = .ok (.aload_n 0, 1) := by decide +kernel
theorem dL_law_546 : decode cL_law 546 = .ok (.iload_n 3, 1) := by decide +kernel
theorem dL_law_547 : decode cL_law 547 = .ok (.iconst 1, 1) := by decide +kernel
theorem dL_law_548 : decode cL_law 548 = .ok (.iadd, 1) := by decide +kernel
theorem dL_law_549 : decode cL_law 549 = .ok (.iaload, 1) := by decide +kernel
theorem dL_law_550 : decode cL_law 550 = .ok (.aload_n 0, 1) := by decide +kernel
theorem dL_law_551 : decode cL_law 551 = .ok (.iload_n 3, 1) := by decide +kernel
theorem dL_law_552 : decode cL_law 552 = .ok (.iconst 2, 1) := by decide +kernel
theorem dL_law_553 : decode cL_law 553 = .ok (.iadd, 1) := by decide +kernel
theorem dL_law_554 : decode cL_law 554 = .ok (.iaload, 1) := by decide +kernel
theorem dL_law_555 : decode cL_law 555 = .ok (.invokevirtual 72, 3) := by decide +kernel
theorem dL_law_558 : decode cL_law 558 = .ok (.aload_n 2, 1) := by decide +kernel
theorem dL_law_559 : decode cL_law 559 = .ok (.aload_n 0, 1) := by decide +kernel
theorem dL_law_560 : decode cL_law 560 = .ok (.iload_n 3, 1) := by decide +kernel
theorem dL_law_561 : decode cL_law 561 = .ok (.iconst 1, 1) := by decide +kernel
theorem dL_law_562 : decode cL_law 562 = .ok (.iadd, 1) := by decide +kernel
theorem dL_law_563 : decode cL_law 563 = .ok (.iaload, 1) := by decide +kernel
theorem dL_law_564 : decode cL_law 564 = .ok (.aload_n 0, 1) := by decide +kernel
theorem dL_law_565 : decode cL_law 565 = .ok (.iload_n 3, 1) := by decide +kernel
theorem dL_law_566 : decode cL_law 566 = .ok (.iconst 2, 1) := by decide +kernel
theorem dL_law_567 : decode cL_law 567 = .ok (.iadd, 1) := by decide +kernel
theorem dL_law_568 : decode cL_law 568 = .ok (.iaload, 1) := by decide +kernel
theorem dL_law_569 : decode cL_law 569 = .ok (.invokevirtual 75, 3) := by decide +kernel
theorem dL_law_572 : decode cL_law 572 = .ok (.if_icmp .eq 300, 3) := by decide +kernel
theorem dL_law_575 : decode cL_law 575 = .ok (.iconst 0, 1) := by decide +kernel
theorem dL_law_576 : decode cL_law 576 = .ok (.ireturn, 1) := by decide +kernel
theorem dL_law_577 : decode cL_law 577 = .ok (.aload_n 1, 1) := by decide +kernel
theorem dL_law_578 : decode cL_law 578 = .ok (.invokevirtual 76, 3) := by decide +kernel
theorem dL_law_581 : decode cL_law 581 = .ok (.aload_n 2, 1) := by decide +kernel
theorem dL_law_582 : decode cL_law 582 = .ok (.invokevirtual 80, 3) := by decide +kernel
theorem dL_law_585 : decode cL_law 585 = .ok (.lcmp, 1) := by decide +kernel
theorem dL_law_586 : decode cL_law 586 = .ok (.ifCond .eq 286, 3) := by decide +kernel
theorem dL_law_589 : decode cL_law 589 = .ok (.iconst 0, 1) := by decide +kernel
theorem dL_law_590 : decode cL_law 590 = .ok (.ireturn, 1) := by decide +kernel
theorem dL_law_591 : decode cL_law 591 = .ok (.aload_n 1, 1) := by decide +kernel
theorem dL_law_592 : decode cL_law 592 = .ok (.aload_n 0, 1) := by decide +kernel
theorem dL_law_593 : decode cL_law 593 = .ok (.iload_n 3, 1) := by decide +kernel
theorem dL_law_594 : decode cL_law 594 = .ok (.iconst 1, 1) := by decide +kernel
theorem dL_law_595 : decode cL_law 595 = .ok (.iadd, 1) := by decide +kernel
theorem dL_law_596 : decode cL_law 596 = .ok (.iaload, 1) := by decide +kernel
theorem dL_law_597 : decode cL_law 597 = .ok (.aload_n 0, 1) := by decide +kernel
theorem dL_law_598 : decode cL_law 598 = .ok (.iload_n 3, 1) := by decide +kernel
theorem dL_law_599 : decode cL_law 599 = .ok (.iconst 2, 1) := by decide +kernel
theorem dL_law_600 : decode cL_law 600 = .ok (.iadd, 1) := by decide +kernel
theorem dL_law_601 : decode cL_law 601 = .ok (.iaload, 1) := by decide +kernel
theorem dL_law_602 : decode cL_law 602 = .ok (.invokevirtual 81, 3) := by decide +kernel
theorem dL_law_605 : decode cL_law 605 = .ok (.aload_n 2, 1) := by decide +kernel
theorem dL_law_606 : decode cL_law 606 = .ok (.aload_n 0, 1) := by decide +kernel
theorem dL_law_607 : decode cL_law 607 = .ok (.iload_n 3, 1) := by decide +kernel
theorem dL_law_608 : decode cL_law 608 = .ok (.iconst 1, 1) := by decide +kernel
theorem dL_law_609 : decode cL_law 609 = .ok (.iadd, 1) := by decide +kernel
theorem dL_law_610 : decode cL_law 610 = .ok (.iaload, 1) := by decide +kernel
theorem dL_law_611 : decode cL_law 611 = .ok (.aload_n 0, 1) := by decide +kernel
theorem dL_law_612 : decode cL_law 612 = .ok (.iload_n 3, 1) := by decide +kernel
theorem dL_law_613 : decode cL_law 613 = .ok (.iconst 2, 1) := by decide +kernel
theorem dL_law_614 : decode cL_law 614 = .ok (.iadd, 1) := by decide +kernel
theorem dL_law_615 : decode cL_law 615 = .ok (.iaload, 1) := by decide +kernel
theorem dL_law_616 : decode cL_law 616 = .ok (.invokevirtual 85, 3) := by decide +kernel
theorem dL_law_619 : decode cL_law 619 = .ok (.lcmp, 1) := by decide +kernel
theorem dL_law_620 : decode cL_law 620 = .ok (.ifCond .eq 252, 3) := by decide +kernel
theorem dL_law_623 : decode cL_law 623 = .ok (.iconst 0, 1) := by decide +kernel
theorem dL_law_624 : decode cL_law 624 = .ok (.ireturn, 1) := by decide +kernel
theorem dL_law_625 : decode cL_law 625 = .ok (.aload_n 1, 1) := by decide +kernel
theorem dL_law_626 : decode cL_law 626 = .ok (.aload_n 0, 1) := by decide +kernel
theorem dL_law_627 : decode cL_law 627 = .ok (.iload_n 3, 1) := by decide +kernel
theorem dL_law_628 : decode cL_law 628 = .ok (.iconst 1, 1) := by decide +kernel
theorem dL_law_629 : decode cL_law 629 = .ok (.iadd, 1) := by decide +kernel
theorem dL_law_630 : decode cL_law 630 = .ok (.iaload, 1) := by decide +kernel
theorem dL_law_631 : decode cL_law 631 = .ok (.aload_n 0, 1) := by decide +kernel
theorem dL_law_632 : decode cL_law 632 = .ok (.iload_n 3, 1) := by decide +kernel
theorem dL_law_633 : decode cL_law 633 = .ok (.iconst 2, 1) := by decide +kernel
theorem dL_law_634 : decode cL_law 634 = .ok (.iadd, 1) := by decide +kernel
theorem dL_law_635 : decode cL_law 635 = .ok (.iaload, 1) := by decide +kernel
theorem dL_law_636 : decode cL_law 636 = .ok (.aload_n 0, 1) := by decide +kernel
theorem dL_law_637 : decode cL_law 637 = .ok (.iload_n 3, 1) := by decide +kernel
theorem dL_law_638 : decode cL_law 638 = .ok (.iconst 3, 1) := by decide +kernel
theorem dL_law_639 : decode cL_law 639 = .ok (.iadd, 1) := by decide +kernel
theorem dL_law_640 : decode cL_law 640 = .ok (.iaload, 1) := by decide +kernel
theorem dL_law_641 : decode cL_law 641 = .ok (.invokevirtual 86, 3) := by decide +kernel
theorem dL_law_644 : decode cL_law 644 = .ok (.aload_n 2, 1) := by decide +kernel
theorem dL_law_645 : decode cL_law 645 = .ok (.aload_n 0, 1) := by decide +kernel
theorem dL_law_646 : decode cL_law 646 = .ok (.iload_n 3, 1) := by decide +kernel
theorem dL_law_647 : decode cL_law 647 = .ok (.iconst 1, 1) := by decide +kernel
theorem dL_law_648 : decode cL_law 648 = .ok (.iadd, 1) := by decide +kernel
theorem dL_law_649 : decode cL_law 649 = .ok (.iaload, 1) := by decide +kernel
theorem dL_law_650 : decode cL_law 650 = .ok (.aload_n 0, 1) := by decide +kernel
theorem dL_law_651 : decode cL_law 651 = .ok (.iload_n 3, 1) := by decide +kernel
theorem dL_law_652 : decode cL_law 652 = .ok (.iconst 2, 1) := by decide +kernel
theorem dL_law_653 : decode cL_law 653 = .ok (.iadd, 1) := by decide +kernel
theorem dL_law_654 : decode cL_law 654 = .ok (.iaload, 1) := by decide +kernel
theorem dL_law_655 : decode cL_law 655 = .ok (.aload_n 0, 1) := by decide +kernel
theorem dL_law_656 : decode cL_law 656 = .ok (.iload_n 3, 1) := by decide +kernel
theorem dL_law_657 : decode cL_law 657 = .ok (.iconst 3, 1) := by decide +kernel
theorem dL_law_658 : decode cL_law 658 = .ok (.iadd, 1) := by decide +kernel
theorem dL_law_659 : decode cL_law 659 = .ok (.iaload, 1) := by decide +kernel
theorem dL_law_660 : decode cL_law 660 = .ok (.invokevirtual 90, 3) := by decide +kernel
theorem dL_law_663 : decode cL_law 663 = .ok (.if_icmp .eq 209, 3) := by decide +kernel
theorem dL_law_666 : decode cL_law 666 = .ok (.iconst 0, 1) := by decide +kernel
theorem dL_law_667 : decode cL_law 667 = .ok (.ireturn, 1) := by decide +kernel
theorem dL_law_668 : decode cL_law 668 = .ok (.aload_n 1, 1) := by decide +kernel
theorem dL_law_669 : decode cL_law 669 = .ok (.aload_n 0, 1) := by decide +kernel
theorem dL_law_670 : decode cL_law 670 = .ok (.iload_n 3, 1) := by decide +kernel
theorem dL_law_671 : decode cL_law 671 = .ok (.iconst 1, 1) := by decide +kernel
theorem dL_law_672 : decode cL_law 672 = .ok (.iadd, 1) := by decide +kernel
theorem dL_law_673 : decode cL_law 673 = .ok (.iaload, 1) := by decide +kernel
theorem dL_law_674 : decode cL_law 674 = .ok (.aload_n 0, 1) := by decide +kernel
theorem dL_law_675 : decode cL_law 675 = .ok (.iload_n 3, 1) := by decide +kernel
theorem dL_law_676 : decode cL_law 676 = .ok (.iconst 2, 1) := by decide +kernel
theorem dL_law_677 : decode cL_law 677 = .ok (.iadd, 1) := by decide +kernel
theorem dL_law_678 : decode cL_law 678 = .ok (.iaload, 1) := by decide +kernel
theorem dL_law_679 : decode cL_law 679 = .ok (.invokevirtual 91, 3) := by decide +kernel
theorem dL_law_682 : decode cL_law 682 = .ok (.aload_n 2, 1) := by decide +kernel
theorem dL_law_683 : decode cL_law 683 = .ok (.aload_n 0, 1) := by decide +kernel
theorem dL_law_684 : decode cL_law 684 = .ok (.iload_n 3, 1) := by decide +kernel
theorem dL_law_685 : decode cL_law 685 = .ok (.iconst 1, 1) := by decide +kernel
theorem dL_law_686 : decode cL_law 686 = .ok (.iadd, 1) := by decide +kernel
theorem dL_law_687 : decode cL_law 687 = .ok (.iaload, 1) := by decide +kernel
theorem dL_law_688 : decode cL_law 688 = .ok (.aload_n 0, 1) := by decide +kernel
theorem dL_law_689 : decode cL_law 689 = .ok (.iload_n 3, 1) := by decide +kernel
theorem dL_law_690 : decode cL_law 690 = .ok (.iconst 2, 1) := by decide +kernel
theorem dL_law_691 : decode cL_law 691 = .ok (.iadd, 1) := by decide +kernel
theorem dL_law_692 : decode cL_law 692 = .ok (.iaload, 1) := by decide +kernel
theorem dL_law_693 : decode cL_law 693 = .ok (.invokevirtual 94, 3) := by decide +kernel
theorem dL_law_696 : decode cL_law 696 = .ok (.if_icmp .eq 176, 3) := by decide +kernel
theorem dL_law_699 : decode cL_law 699 = .ok (.iconst 0, 1) := by decide +kernel
theorem dL_law_700 : decode cL_law 700 = .ok (.ireturn, 1) := by decide +kernel
theorem dL_law_701 : decode cL_law 701 = .ok (.aload_n 1, 1) := by decide +kernel
theorem dL_law_702 : decode cL_law 702 = .ok (.aload_n 0, 1) := by decide +kernel
theorem dL_law_703 : decode cL_law 703 = .ok (.iload_n 3, 1) := by decide +kernel
theorem dL_law_704 : decode cL_law 704 = .ok (.iconst 1, 1) := by decide +kernel
theorem dL_law_705 : decode cL_law 705 = .ok (.iadd, 1) := by decide +kernel
theorem dL_law_706 : decode cL_law 706 = .ok (.iaload, 1) := by decide +kernel
theorem dL_law_707 : decode cL_law 707 = .ok (.aload_n 0, 1) := by decide +kernel
theorem dL_law_708 : decode cL_law 708 = .ok (.iload_n 3, 1) := by decide +kernel
theorem dL_law_709 : decode cL_law 709 = .ok (.iconst 2, 1) := by decide +kernel
theorem dL_law_710 : decode cL_law 710 = .ok (.iadd, 1) := by decide +kernel
theorem dL_law_711 : decode cL_law 711 = .ok (.iaload, 1) := by decide +kernel
theorem dL_law_712 : decode cL_law 712 = .ok (.invokevirtual 95, 3) := by decide +kernel
theorem dL_law_715 : decode cL_law 715 = .ok (.aload_n 2, 1) := by decide +kernel
theorem dL_law_716 : decode cL_law 716 = .ok (.aload_n 0, 1) := by decide +kernel
theorem dL_law_717 : decode cL_law 717 = .ok (.iload_n 3, 1) := by decide +kernel
theorem dL_law_718 : decode cL_law 718 = .ok (.iconst 1, 1) := by decide +kernel
theorem dL_law_719 : decode cL_law 719 = .ok (.iadd, 1) := by decide +kernel
theorem dL_law_720 : decode cL_law 720 = .ok (.iaload, 1) := by decide +kernel
theorem dL_law_721 : decode cL_law 721 = .ok (.aload_n 0, 1) := by decide +kernel
theorem dL_law_722 : decode cL_law 722 = .ok (.iload_n 3, 1) := by decide +kernel
theorem dL_law_723 : decode cL_law 723 = .ok (.iconst 2, 1) := by decide +kernel
theorem dL_law_724 : decode cL_law 724 = .ok (.iadd, 1) := by decide +kernel
theorem dL_law_725 : decode cL_law 725 = .ok (.iaload, 1) := by decide +kernel
theorem dL_law_726 : decode cL_law 726 = .ok (.invokevirtual 98, 3) := by decide +kernel
theorem dL_law_729 : decode cL_law 729 = .ok (.if_icmp .eq 143, 3) := by decide +kernel
theorem dL_law_732 : decode cL_law 732 = .ok (.iconst 0, 1) := by decide +kernel
theorem dL_law_733 : decode cL_law 733 = .ok (.ireturn, 1) := by decide +kernel
theorem dL_law_734 : decode cL_law 734 = .ok (.aload_n 1, 1) := by decide +kernel
theorem dL_law_735 : decode cL_law 735 = .ok (.aload_n 0, 1) := by decide +kernel
theorem dL_law_736 : decode cL_law 736 = .ok (.iload_n 3, 1) := by decide +kernel
theorem dL_law_737 : decode cL_law 737 = .ok (.iconst 1, 1) := by decide +kernel
theorem dL_law_738 : decode cL_law 738 = .ok (.iadd, 1) := by decide +kernel
theorem dL_law_739 : decode cL_law 739 = .ok (.iaload, 1) := by decide +kernel
theorem dL_law_740 : decode cL_law 740 = .ok (.i2l, 1) := by decide +kernel
theorem dL_law_741 : decode cL_law 741 = .ok (.bipush 32, 2) := by decide +kernel
theorem dL_law_743 : decode cL_law 743 = .ok (.lshl, 1) := by decide +kernel
theorem dL_law_744 : decode cL_law 744 = .ok (.aload_n 0, 1) := by decide +kernel
theorem dL_law_745 : decode cL_law 745 = .ok (.iload_n 3, 1) := by decide +kernel
theorem dL_law_746 : decode cL_law 746 = .ok (.iconst 2, 1) := by decide +kernel
theorem dL_law_747 : decode cL_law 747 = .ok (.iadd, 1) := by decide +kernel
theorem dL_law_748 : decode cL_law 748 = .ok (.iaload, 1) := by decide +kernel
theorem dL_law_749 : decode cL_law 749 = .ok (.i2l, 1) := by decide +kernel
theorem dL_law_750 : decode cL_law 750 = .ok (.ldc2_w 99, 3) := by decide +kernel
theorem dL_law_753 : decode cL_law 753 = .ok (.land, 1) := by decide +kernel
theorem dL_law_754 : decode cL_law 754 = .ok (.lor, 1) := by decide +kernel
theorem dL_law_755 : decode cL_law 755 = .ok (.invokevirtual 101, 3) := by decide +kernel
theorem dL_law_758 : decode cL_law 758 = .ok (.aload_n 2, 1) := by decide +kernel
theorem dL_law_759 : decode cL_law 759 = .ok (.aload_n 0, 1) := by decide +kernel
theorem dL_law_760 : decode cL_law 760 = .ok (.iload_n 3, 1) := by decide +kernel
theorem dL_law_761 : decode cL_law 761 = .ok (.iconst 1, 1) := by decide +kernel
theorem dL_law_762 : decode cL_law 762 = .ok (.iadd, 1) := by decide +kernel
theorem dL_law_763 : decode cL_law 763 = .ok (.iaload, 1) := by decide +kernel
theorem dL_law_764 : decode cL_law 764 = .ok (.i2l, 1) := by decide +kernel
theorem dL_law_765 : decode cL_law 765 = .ok (.bipush 32, 2) := by decide +kernel
theorem dL_law_767 : decode cL_law 767 = .ok (.lshl, 1) := by decide +kernel
theorem dL_law_768 : decode cL_law 768 = .ok (.aload_n 0, 1) := by decide +kernel
theorem dL_law_769 : decode cL_law 769 = .ok (.iload_n 3, 1) := by decide +kernel
theorem dL_law_770 : decode cL_law 770 = .ok (.iconst 2, 1) := by decide +kernel
theorem dL_law_771 : decode cL_law 771 = .ok (.iadd, 1) := by decide +kernel
theorem dL_law_772 : decode cL_law 772 = .ok (.iaload, 1) := by decide +kernel
theorem dL_law_773 : decode cL_law 773 = .ok (.i2l, 1) := by decide +kernel
theorem dL_law_774 : decode cL_law 774 = .ok (.ldc2_w 99, 3) := by decide +kernel
theorem dL_law_777 : decode cL_law 777 = .ok (.land, 1) := by decide +kernel
theorem dL_law_778 : decode cL_law 778 = .ok (.lor, 1) := by decide +kernel
theorem dL_law_779 : decode cL_law 779 = .ok (.invokevirtual 105, 3) := by decide +kernel
theorem dL_law_782 : decode cL_law 782 = .ok (.if_icmp .eq 90, 3) := by decide +kernel
theorem dL_law_785 : decode cL_law 785 = .ok (.iconst 0, 1) := by decide +kernel
theorem dL_law_786 : decode cL_law 786 = .ok (.ireturn, 1) := by decide +kernel
theorem dL_law_787 : decode cL_law 787 = .ok (.aload_n 1, 1) := by decide +kernel
theorem dL_law_788 : decode cL_law 788 = .ok (.invokevirtual 106, 3) := by decide +kernel
theorem dL_law_791 : decode cL_law 791 = .ok (.aload_n 2, 1) := by decide +kernel
theorem dL_law_792 : decode cL_law 792 = .ok (.invokevirtual 109, 3) := by decide +kernel
theorem dL_law_795 : decode cL_law 795 = .ok (.if_icmp .eq 77, 3) := by decide +kernel
theorem dL_law_798 : decode cL_law 798 = .ok (.iconst 0, 1) := by decide +kernel
theorem dL_law_799 : decode cL_law 799 = .ok (.ireturn, 1) := by decide +kernel
theorem dL_law_800 : decode cL_law 800 = .ok (.aload_n 1, 1) := by decide +kernel
theorem dL_law_801 : decode cL_law 801 = .ok (.invokevirtual 110, 3) := by decide +kernel
theorem dL_law_804 : decode cL_law 804 = .ok (.aload_n 2, 1) := by decide +kernel
theorem dL_law_805 : decode cL_law 805 = .ok (.invokevirtual 113, 3) := by decide +kernel
theorem dL_law_808 : decode cL_law 808 = .ok (.if_icmp .eq 64, 3) := by decide +kernel
theorem dL_law_811 : decode cL_law 811 = .ok (.iconst 0, 1) := by decide +kernel
theorem dL_law_812 : decode cL_law 812 = .ok (.ireturn, 1) := by decide +kernel
theorem dL_law_813 : decode cL_law 813 = .ok (.aload_n 1, 1) := by decide +kernel
theorem dL_law_814 : decode cL_law 814 = .ok (.invokevirtual 114, 3) := by decide +kernel
theorem dL_law_817 : decode cL_law 817 = .ok (.aload_n 2, 1) := by decide +kernel
theorem dL_law_818 : decode cL_law 818 = .ok (.invokevirtual 117, 3) := by decide +kernel
theorem dL_law_821 : decode cL_law 821 = .ok (.if_icmp .eq 51, 3) := by decide +kernel
theorem dL_law_824 : decode cL_law 824 = .ok (.iconst 0, 1) := by decide +kernel
theorem dL_law_825 : decode cL_law 825 = .ok (.ireturn, 1) := by decide +kernel
theorem dL_law_826 : decode cL_law 826 = .ok (.aload_n 1, 1) := by decide +kernel
theorem dL_law_827 : decode cL_law 827 = .ok (.aload_n 0, 1) := by decide +kernel
theorem dL_law_828 : decode cL_law 828 = .ok (.iload_n 3, 1) := by decide +kernel
theorem dL_law_829 : decode cL_law 829 = .ok (.iconst 1, 1) := by decide +kernel
theorem dL_law_830 : decode cL_law 830 = .ok (.iadd, 1) := by decide +kernel
theorem dL_law_831 : decode cL_law 831 = .ok (.iaload, 1) := by decide +kernel
theorem dL_law_832 : decode cL_law 832 = .ok (.invokevirtual 118, 3) := by decide +kernel
theorem dL_law_835 : decode cL_law 835 = .ok (.aload_n 2, 1) := by decide +kernel
theorem dL_law_836 : decode cL_law 836 = .ok (.aload_n 0, 1) := by decide +kernel
theorem dL_law_837 : decode cL_law 837 = .ok (.iload_n 3, 1) := by decide +kernel
theorem dL_law_838 : decode cL_law 838 = .ok (.iconst 1, 1) := by decide +kernel
theorem dL_law_839 : decode cL_law 839 = .ok (.iadd, 1) := by decide +kernel
theorem dL_law_840 : decode cL_law 840 = .ok (.iaload, 1) := by decide +kernel
theorem dL_law_841 : decode cL_law 841 = .ok (.invokevirtual 121, 3) := by decide +kernel
theorem dL_law_844 : decode cL_law 844 = .ok (.if_icmp .eq 28, 3) := by decide +kernel
theorem dL_law_847 : decode cL_law 847 = .ok (.iconst 0, 1) := by decide +kernel
theorem dL_law_848 : decode cL_law 848 = .ok (.ireturn, 1) := by decide +kernel
theorem dL_law_849 : decode cL_law 849 = .ok (.aload_n 1, 1) := by decide +kernel
theorem dL_law_850 : decode cL_law 850 = .ok (.aload_n 0, 1) := by decide +kernel
theorem dL_law_851 : decode cL_law 851 = .ok (.iload_n 3, 1) := by decide +kernel
theorem dL_law_852 : decode cL_law 852 = .ok (.iconst 1, 1) := by decide +kernel
theorem dL_law_853 : decode cL_law 853 = .ok (.iadd, 1) := by decide +kernel
theorem dL_law_854 : decode cL_law 854 = .ok (.iaload, 1) := by decide +kernel
theorem dL_law_855 : decode cL_law 855 = .ok (.invokevirtual 122, 3) := by decide +kernel
theorem dL_law_858 : decode cL_law 858 = .ok (.aload_n 2, 1) := by decide +kernel
theorem dL_law_859 : decode cL_law 859 = .ok (.aload_n 0, 1) := by decide +kernel
theorem dL_law_860 : decode cL_law 860 = .ok (.iload_n 3, 1) := by decide +kernel
theorem dL_law_861 : decode cL_law 861 = .ok (.iconst 1, 1) := by decide +kernel
theorem dL_law_862 : decode cL_law 862 = .ok (.iadd, 1) := by decide +kernel
theorem dL_law_863 : decode cL_law 863 = .ok (.iaload, 1) := by decide +kernel
theorem dL_law_864 : decode cL_law 864 = .ok (.invokevirtual 125, 3) := by decide +kernel
theorem dL_law_867 : decode cL_law 867 = .ok (.if_icmp .eq 5, 3) := by decide +kernel
theorem dL_law_870 : decode cL_law 870 = .ok (.iconst 0, 1) := by decide +kernel
theorem dL_law_871 : decode cL_law 871 = .ok (.ireturn, 1) := by decide +kernel
theorem dL_law_872 : decode cL_law 872 = .ok (.iinc 3 4, 3) := by decide +kernel
theorem dL_law_875 : decode cL_law 875 = .ok (.goto (-857), 3) := by decide +kernel
theorem dL_law_878 : decode cL_law 878 = .ok (.iconst 1, 1) := by decide +kernel
theorem dL_law_879 : decode cL_law 879 = .ok (.ireturn, 1) := by decide +kernel
