theorem dX7_endOf_59 : decode cX7_endOf 59 = .ok (.iastore, 1) := by decide +kernel
theorem dX7_endOf_60 : decode cX7_endOf 60 = .ok (.aload_n 0, 1) := by decide +kernel
theorem dX7_endOf_61 : decode cX7_endOf 61 = .ok (.dup, 1) := by decide +kernel
theorem dX7_endOf_62 : decode cX7_endOf 62 = .ok (.getfield 63, 3) := by decide +kernel
theorem dX7_endOf_65 : decode cX7_endOf 65 = .ok (.iconst 1, 1) := by decide +kernel
theorem dX7_endOf_66 : decode cX7_endOf 66 = .ok (.iadd, 1) := by decide +kernel
theorem dX7_endOf_67 : decode cX7_endOf 67 = .ok (.putfield 63, 3) := by decide +kernel
theorem dX7_endOf_70 : decode cX7_endOf 70 = .ok (.aload_n 0, 1) := by decide +kernel
theorem dX7_endOf_71 : decode cX7_endOf 71 = .ok (.getfield 63, 3) := by decide +kernel
theorem dX7_endOf_74 : decode cX7_endOf 74 = .ok (.iconst 1, 1) := by decide +kernel
theorem dX7_endOf_75 : decode cX7_endOf 75 = .ok (.isub, 1) := by decide +kernel
theorem dX7_endOf_76 : decode cX7_endOf 76 = .ok (.ireturn, 1) := by decide +kernel
theorem dX7_knottedEnds_0 : decode cX7_knottedEnds 0 = .ok (.iconst 0, 1) := by decide +kernel
theorem dX7_knottedEnds_1 : decode cX7_knottedEnds 1 = .ok (.istore_n 1, 1) := by decide +kernel
theorem dX7_knottedEnds_2 : decode cX7_knottedEnds 2 = .ok (.iconst 0, 1) := by decide +kernel
theorem dX7_knottedEnds_3 : decode cX7_knottedEnds 3 = .ok (.istore_n 2, 1) := by decide +kernel
theorem dX7_knottedEnds_4 : decode cX7_knottedEnds 4 = .ok (.iload_n 2, 1) := by decide +kernel
theorem dX7_knottedEnds_5 : decode cX7_knottedEnds 5 = .ok (.aload_n 0, 1) := by decide +kernel
theorem dX7_knottedEnds_6 : decode cX7_knottedEnds 6 = .ok (.getfield 63, 3) := by decide +kernel
theorem dX7_knottedEnds_9 : decode cX7_knottedEnds 9 = .ok (.if_icmp .ge 49, 3) := by decide +kernel
theorem dX7_knottedEnds_12 : decode cX7_knottedEnds 12 = .ok (.iload_n 2, 1) := by decide +kernel
theorem dX7_knottedEnds_13 : decode cX7_knottedEnds 13 = .ok (.bipush 12, 2) := by decide +kernel
theorem dX7_knottedEnds_15 : decode cX7_knottedEnds 15 = .ok (.if_icmp .ge 43, 3) := by decide +kernel
theorem dX7_knottedEnds_18 : decode cX7_knottedEnds 18 = .ok (.aload_n 0, 1) := by decide +kernel
theorem dX7_knottedEnds_19 : decode cX7_knottedEnds 19 = .ok (.getfield 27, 3) := by decide +kernel
theorem dX7_knottedEnds_22 : decode cX7_knottedEnds 22 = .ok (.getfield 79, 3) := by decide +kernel
theorem dX7_knottedEnds_25 : decode cX7_knottedEnds 25 = .ok (.ifCond .eq 19, 3) := by decide +kernel
theorem dX7_knottedEnds_28 : decode cX7_knottedEnds 28 = .ok (.aload_n 0, 1) := by decide +kernel
theorem dX7_knottedEnds_29 : decode cX7_knottedEnds 29 = .ok (.getfield 27, 3) := by decide +kernel
theorem dX7_knottedEnds_32 : decode cX7_knottedEnds 32 = .ok (.aload_n 0, 1) := by decide +kernel
theorem dX7_knottedEnds_33 : decode cX7_knottedEnds 33 = .ok (.getfield 18, 3) := by decide +kernel
theorem dX7_knottedEnds_36 : decode cX7_knottedEnds 36 = .ok (.iload_n 2, 1) := by decide +kernel
theorem dX7_knottedEnds_37 : decode cX7_knottedEnds 37 = .ok (.iaload, 1) := by decide +kernel
theorem dX7_knottedEnds_38 : decode cX7_knottedEnds 38 = .ok (.invokevirtual 82, 3) := by decide +kernel
theorem dX7_knottedEnds_41 : decode cX7_knottedEnds 41 = .ok (.ifCond .eq 11, 3) := by decide +kernel
theorem dX7_knottedEnds_44 : decode cX7_knottedEnds 44 = .ok (.iload_n 1, 1) := by decide +kernel
theorem dX7_knottedEnds_45 : decode cX7_knottedEnds 45 = .ok (.iconst 3, 1) := by decide +kernel
theorem dX7_knottedEnds_46 : decode cX7_knottedEnds 46 = .ok (.iconst 2, 1) := by decide +kernel
theorem dX7_knottedEnds_47 : decode cX7_knottedEnds 47 = .ok (.iload_n 2, 1) := by decide +kernel
theorem dX7_knottedEnds_48 : decode cX7_knottedEnds 48 = .ok (.imul, 1) := by decide +kernel
theorem dX7_knottedEnds_49 : decode cX7_knottedEnds 49 = .ok (.ishl, 1) := by decide +kernel
theorem dX7_knottedEnds_50 : decode cX7_knottedEnds 50 = .ok (.ior, 1) := by decide +kernel
theorem dX7_knottedEnds_51 : decode cX7_knottedEnds 51 = .ok (.istore_n 1, 1) := by decide +kernel
theorem dX7_knottedEnds_52 : decode cX7_knottedEnds 52 = .ok (.iinc 2 1, 3) := by decide +kernel
theorem dX7_knottedEnds_55 : decode cX7_knottedEnds 55 = .ok (.goto (-51), 3) := by decide +kernel
theorem dX7_knottedEnds_58 : decode cX7_knottedEnds 58 = .ok (.iload_n 1, 1) := by decide +kernel
theorem dX7_knottedEnds_59 : decode cX7_knottedEnds 59 = .ok (.ireturn, 1) := by decide +kernel
theorem dX7_spread_0 : decode cX7_spread 0 = .ok (.aload_n 0, 1) := by decide +kernel
theorem dX7_spread_1 : decode cX7_spread 1 = .ok (.getfield 11, 3) := by decide +kernel
theorem dX7_spread_4 : decode cX7_spread 4 = .ok (.iconst 0, 1) := by decide +kernel
theorem dX7_spread_5 : decode cX7_spread 5 = .ok (.invokestatic 86, 3) := by decide +kernel
theorem dX7_spread_8 : decode cX7_spread 8 = .ok (.aload_n 0, 1) := by decide +kernel
theorem dX7_spread_9 : decode cX7_spread 9 = .ok (.getfield 11, 3) := by decide +kernel
theorem dX7_spread_12 : decode cX7_spread 12 = .ok (.iconst 0, 1) := by decide +kernel
theorem dX7_spread_13 : decode cX7_spread 13 = .ok (.iload_n 3, 1) := by decide +kernel
theorem dX7_spread_14 : decode cX7_spread 14 = .ok (.iastore, 1) := by decide +kernel
theorem dX7_spread_15 : decode cX7_spread 15 = .ok (.iconst 0, 1) := by decide +kernel
theorem dX7_spread_16 : decode cX7_spread 16 = .ok (.istore 4, 2) := by decide +kernel
theorem dX7_spread_18 : decode cX7_spread 18 = .ok (.iload 4, 2) := by decide +kernel
theorem dX7_spread_20 : decode cX7_spread 20 = .ok (.iload_n 1, 1) := by decide +kernel
theorem dX7_spread_21 : decode cX7_spread 21 = .ok (.if_icmp .ge 161, 3) := by decide +kernel
theorem dX7_spread_24 : decode cX7_spread 24 = .ok (.iload 4, 2) := by decide +kernel
theorem dX7_spread_26 : decode cX7_spread 26 = .ok (.sipush 4096, 3) := by decide +kernel
theorem dX7_spread_29 : decode cX7_spread 29 = .ok (.if_icmp .ge 153, 3) := by decide +kernel
theorem dX7_spread_32 : decode cX7_spread 32 = .ok (.aload_n 0, 1) := by decide +kernel
theorem dX7_spread_33 : decode cX7_spread 33 = .ok (.getfield 11, 3) := by decide +kernel
theorem dX7_spread_36 : decode cX7_spread 36 = .ok (.iload 4, 2) := by decide +kernel
theorem dX7_spread_38 : decode cX7_spread 38 = .ok (.iaload, 1) := by decide +kernel
theorem dX7_spread_39 : decode cX7_spread 39 = .ok (.ifCond .eq 137, 3) := by decide +kernel
theorem dX7_spread_42 : decode cX7_spread 42 = .ok (.iload 4, 2) := by decide +kernel
theorem dX7_spread_44 : decode cX7_spread 44 = .ok (.invokestatic 92, 3) := by decide +kernel
theorem dX7_spread_47 : decode cX7_spread 47 = .ok (.iload_n 2, 1) := by decide +kernel
theorem dX7_spread_48 : decode cX7_spread 48 = .ok (.if_icmp .ge 128, 3) := by decide +kernel
theorem dX7_spread_51 : decode cX7_spread 51 = .ok (.iconst 0, 1) := by decide +kernel
theorem dX7_spread_52 : decode cX7_spread 52 = .ok (.istore 5, 2) := by decide +kernel
theorem dX7_spread_54 : decode cX7_spread 54 = .ok (.iload 5, 2) := by decide +kernel
theorem dX7_spread_56 : decode cX7_spread 56 = .ok (.aload_n 0, 1) := by decide +kernel
theorem dX7_spread_57 : decode cX7_spread 57 = .ok (.getfield 47, 3) := by decide +kernel
theorem dX7_spread_60 : decode cX7_spread 60 = .ok (.if_icmp .ge 116, 3) := by decide +kernel
theorem dX7_spread_63 : decode cX7_spread 63 = .ok (.iload 5, 2) := by decide +kernel
theorem dX7_spread_65 : decode cX7_spread 65 = .ok (.bipush 6, 2) := by decide +kernel
theorem dX7_spread_67 : decode cX7_spread 67 = .ok (.if_icmp .ge 109, 3) := by decide +kernel
theorem dX7_spread_70 : decode cX7_spread 70 = .ok (.aload_n 0, 1) := by decide +kernel
theorem dX7_spread_71 : decode cX7_spread 71 = .ok (.iload 4, 2) := by decide +kernel
theorem dX7_spread_73 : decode cX7_spread 73 = .ok (.iconst 2, 1) := by decide +kernel
theorem dX7_spread_74 : decode cX7_spread 74 = .ok (.iload 5, 2) := by decide +kernel
theorem dX7_spread_76 : decode cX7_spread 76 = .ok (.imul, 1) := by decide +kernel
theorem dX7_spread_77 : decode cX7_spread 77 = .ok (.aload_n 0, 1) := by decide +kernel
theorem dX7_spread_78 : decode cX7_spread 78 = .ok (.getfield 21, 3) := by decide +kernel
theorem dX7_spread_81 : decode cX7_spread 81 = .ok (.iload 5, 2) := by decide +kernel
theorem dX7_spread_83 : decode cX7_spread 83 = .ok (.iaload, 1) := by decide +kernel
theorem dX7_spread_84 : decode cX7_spread 84 = .ok (.aload_n 0, 1) := by decide +kernel
theorem dX7_spread_85 : decode cX7_spread 85 = .ok (.getfield 24, 3) := by decide +kernel
theorem dX7_spread_88 : decode cX7_spread 88 = .ok (.iload 5, 2) := by decide +kernel
theorem dX7_spread_90 : decode cX7_spread 90 = .ok (.iaload, 1) := by decide +kernel
theorem dX7_spread_91 : decode cX7_spread 91 = .ok (.invokevirtual 96, 3) := by decide +kernel
theorem dX7_spread_94 : decode cX7_spread 94 = .ok (.aload_n 0, 1) := by decide +kernel
theorem dX7_spread_95 : decode cX7_spread 95 = .ok (.iload 4, 2) := by decide +kernel
theorem dX7_spread_97 : decode cX7_spread 97 = .ok (.iconst 2, 1) := by decide +kernel
theorem dX7_spread_98 : decode cX7_spread 98 = .ok (.iload 5, 2) := by decide +kernel
theorem dX7_spread_100 : decode cX7_spread 100 = .ok (.imul, 1) := by decide +kernel
theorem dX7_spread_101 : decode cX7_spread 101 = .ok (.aload_n 0, 1) := by decide +kernel
theorem dX7_spread_102 : decode cX7_spread 102 = .ok (.getfield 24, 3) := by decide +kernel
theorem dX7_spread_105 : decode cX7_spread 105 = .ok (.iload 5, 2) := by decide +kernel
theorem dX7_spread_107 : decode cX7_spread 107 = .ok (.iaload, 1) := by decide +kernel
theorem dX7_spread_108 : decode cX7_spread 108 = .ok (.aload_n 0, 1) := by decide +kernel
theorem dX7_spread_109 : decode cX7_spread 109 = .ok (.getfield 21, 3) := by decide +kernel
theorem dX7_spread_112 : decode cX7_spread 112 = .ok (.iload 5, 2) := by decide +kernel
theorem dX7_spread_114 : decode cX7_spread 114 = .ok (.iaload, 1) := by decide +kernel
theorem dX7_spread_115 : decode cX7_spread 115 = .ok (.invokevirtual 96, 3) := by decide +kernel
theorem dX7_spread_118 : decode cX7_spread 118 = .ok (.aload_n 0, 1) := by decide +kernel
theorem dX7_spread_119 : decode cX7_spread 119 = .ok (.iload 4, 2) := by decide +kernel
theorem dX7_spread_121 : decode cX7_spread 121 = .ok (.iconst 2, 1) := by decide +kernel
theorem dX7_spread_122 : decode cX7_spread 122 = .ok (.iload 5, 2) := by decide +kernel
theorem dX7_spread_124 : decode cX7_spread 124 = .ok (.imul, 1) := by decide +kernel
theorem dX7_spread_125 : decode cX7_spread 125 = .ok (.iconst 1, 1) := by decide +kernel
theorem dX7_spread_126 : decode cX7_spread 126 = .ok (.iadd, 1) := by decide +kernel
theorem dX7_spread_127 : decode cX7_spread 127 = .ok (.aload_n 0, 1) := by decide +kernel
theorem dX7_spread_128 : decode cX7_spread 128 = .ok (.getfield 21, 3) := by decide +kernel
theorem dX7_spread_131 : decode cX7_spread 131 = .ok (.iload 5, 2) := by decide +kernel
theorem dX7_spread_133 : decode cX7_spread 133 = .ok (.iaload, 1) := by decide +kernel
theorem dX7_spread_134 : decode cX7_spread 134 = .ok (.aload_n 0, 1) := by decide +kernel
theorem dX7_spread_135 : decode cX7_spread 135 = .ok (.getfield 24, 3) := by decide +kernel
theorem dX7_spread_138 : decode cX7_spread 138 = .ok (.iload 5, 2) := by decide +kernel
theorem dX7_spread_140 : decode cX7_spread 140 = .ok (.iaload, 1) := by decide +kernel
theorem dX7_spread_141 : decode cX7_spread 141 = .ok (.invokevirtual 96, 3) := by decide +kernel
theorem dX7_spread_144 : decode cX7_spread 144 = .ok (.aload_n 0, 1) := by decide +kernel
theorem dX7_spread_145 : decode cX7_spread 145 = .ok (.iload 4, 2) := by decide +kernel
theorem dX7_spread_147 : decode cX7_spread 147 = .ok (.iconst 2, 1) := by decide +kernel
theorem dX7_spread_148 : decode cX7_spread 148 = .ok (.iload 5, 2) := by decide +kernel
theorem dX7_spread_150 : decode cX7_spread 150 = .ok (.imul, 1) := by decide +kernel
theorem dX7_spread_151 : decode cX7_spread 151 = .ok (.iconst 1, 1) := by decide +kernel
theorem dX7_spread_152 : decode cX7_spread 152 = .ok (.iadd, 1) := by decide +kernel
theorem dX7_spread_153 : decode cX7_spread 153 = .ok (.aload_n 0, 1) := by decide +kernel
theorem dX7_spread_154 : decode cX7_spread 154 = .ok (.getfield 24, 3) := by decide +kernel
theorem dX7_spread_157 : decode cX7_spread 157 = .ok (.iload 5, 2) := by decide +kernel
theorem dX7_spread_159 : decode cX7_spread 159 = .ok (.iaload, 1) := by decide +kernel
theorem dX7_spread_160 : decode cX7_spread 160 = .ok (.aload_n 0, 1) := by decide +kernel
theorem dX7_spread_161 : decode cX7_spread 161 = .ok (.getfield 21, 3) := by decide +kernel
theorem dX7_spread_164 : decode cX7_spread 164 = .ok (.iload 5, 2) := by decide +kernel
theorem dX7_spread_166 : decode cX7_spread 166 = .ok (.iaload, 1) := by decide +kernel
theorem dX7_spread_167 : decode cX7_spread 167 = .ok (.invokevirtual 96, 3) := by decide +kernel
theorem dX7_spread_170 : decode cX7_spread 170 = .ok (.iinc 5 1, 3) := by decide +kernel
theorem dX7_spread_173 : decode cX7_spread 173 = .ok (.goto (-119), 3) := by decide +kernel
theorem dX7_spread_176 : decode cX7_spread 176 = .ok (.iinc 4 1, 3) := by decide +kernel
theorem dX7_spread_179 : decode cX7_spread 179 = .ok (.goto (-161), 3) := by decide +kernel
theorem dX7_spread_182 : decode cX7_spread 182 = .ok (.return_, 1) := by decide +kernel
theorem dX7_goOn_0 : decode cX7_goOn 0 = .ok (.iload_n 2, 1) := by decide +kernel
theorem dX7_goOn_1 : decode cX7_goOn 1 = .ok (.iconst 1, 1) := by decide +kernel
theorem dX7_goOn_2 : decode cX7_goOn 2 = .ok (.iand, 1) := by decide +kernel
theorem dX7_goOn_3 : decode cX7_goOn 3 = .ok (.istore 5, 2) := by decide +kernel
theorem dX7_goOn_5 : decode cX7_goOn 5 = .ok (.iload_n 1, 1) := by decide +kernel
theorem dX7_goOn_6 : decode cX7_goOn 6 = .ok (.iconst 1, 1) := by decide +kernel
theorem dX7_goOn_7 : decode cX7_goOn 7 = .ok (.iload_n 2, 1) := by decide +kernel
theorem dX7_goOn_8 : decode cX7_goOn 8 = .ok (.ishl, 1) := by decide +kernel
theorem dX7_goOn_9 : decode cX7_goOn 9 = .ok (.ior, 1) := by decide +kernel
theorem dX7_goOn_10 : decode cX7_goOn 10 = .ok (.istore 6, 2) := by decide +kernel
theorem dX7_goOn_12 : decode cX7_goOn 12 = .ok (.iload 6, 2) := by decide +kernel
theorem dX7_goOn_14 : decode cX7_goOn 14 = .ok (.iload_n 1, 1) := by decide +kernel
theorem dX7_goOn_15 : decode cX7_goOn 15 = .ok (.if_icmp .eq 54, 3) := by decide +kernel
theorem dX7_goOn_18 : decode cX7_goOn 18 = .ok (.aload_n 0, 1) := by decide +kernel
theorem dX7_goOn_19 : decode cX7_goOn 19 = .ok (.iload_n 1, 1) := by decide +kernel
theorem dX7_goOn_20 : decode cX7_goOn 20 = .ok (.invokevirtual 100, 3) := by decide +kernel
theorem dX7_goOn_23 : decode cX7_goOn 23 = .ok (.iconst 2, 1) := by decide +kernel
theorem dX7_goOn_24 : decode cX7_goOn 24 = .ok (.iload_n 3, 1) := by decide +kernel
theorem dX7_goOn_25 : decode cX7_goOn 25 = .ok (.imul, 1) := by decide +kernel
theorem dX7_goOn_26 : decode cX7_goOn 26 = .ok (.iload 5, 2) := by decide +kernel
theorem dX7_goOn_28 : decode cX7_goOn 28 = .ok (.iadd, 1) := by decide +kernel
theorem dX7_goOn_29 : decode cX7_goOn 29 = .ok (.ishr, 1) := by decide +kernel
theorem dX7_goOn_30 : decode cX7_goOn 30 = .ok (.iconst 1, 1) := by decide +kernel
theorem dX7_goOn_31 : decode cX7_goOn 31 = .ok (.iand, 1) := by decide +kernel
theorem dX7_goOn_32 : decode cX7_goOn 32 = .ok (.ifCond .eq 37, 3) := by decide +kernel
theorem dX7_goOn_35 : decode cX7_goOn 35 = .ok (.iload 6, 2) := by decide +kernel
theorem dX7_goOn_37 : decode cX7_goOn 37 = .ok (.ifCond .lt 32, 3) := by decide +kernel
theorem dX7_goOn_40 : decode cX7_goOn 40 = .ok (.iload 6, 2) := by decide +kernel
theorem dX7_goOn_42 : decode cX7_goOn 42 = .ok (.sipush 4096, 3) := by decide +kernel
theorem dX7_goOn_45 : decode cX7_goOn 45 = .ok (.if_icmp .ge 24, 3) := by decide +kernel
theorem dX7_goOn_48 : decode cX7_goOn 48 = .ok (.aload_n 0, 1) := by decide +kernel
theorem dX7_goOn_49 : decode cX7_goOn 49 = .ok (.getfield 11, 3) := by decide +kernel
theorem dX7_goOn_52 : decode cX7_goOn 52 = .ok (.iload 6, 2) := by decide +kernel
theorem dX7_goOn_54 : decode cX7_goOn 54 = .ok (.dup2, 1) := by decide +kernel
theorem dX7_goOn_55 : decode cX7_goOn 55 = .ok (.iaload, 1) := by decide +kernel
theorem dX7_goOn_56 : decode cX7_goOn 56 = .ok (.iconst 1, 1) := by decide +kernel
theorem dX7_goOn_57 : decode cX7_goOn 57 = .ok (.iconst 2, 1) := by decide +kernel
theorem dX7_goOn_58 : decode cX7_goOn 58 = .ok (.iload 4, 2) := by decide +kernel
theorem dX7_goOn_60 : decode cX7_goOn 60 = .ok (.imul, 1) := by decide +kernel
theorem dX7_goOn_61 : decode cX7_goOn 61 = .ok (.iconst 1, 1) := by decide +kernel
theorem dX7_goOn_62 : decode cX7_goOn 62 = .ok (.iadd, 1) := by decide +kernel
theorem dX7_goOn_63 : decode cX7_goOn 63 = .ok (.iload 5, 2) := by decide +kernel
theorem dX7_goOn_65 : decode cX7_goOn 65 = .ok (.isub, 1) := by decide +kernel
theorem dX7_goOn_66 : decode cX7_goOn 66 = .ok (.ishl, 1) := by decide +kernel
theorem dX7_goOn_67 : decode cX7_goOn 67 = .ok (.ior, 1) := by decide +kernel
theorem dX7_goOn_68 : decode cX7_goOn 68 = .ok (.iastore, 1) := by decide +kernel
theorem dX7_goOn_69 : decode cX7_goOn 69 = .ok (.return_, 1) := by decide +kernel
theorem dX7_reachedBy_0 : decode cX7_reachedBy 0 = .ok (.iload_n 1, 1) := by decide +kernel
theorem dX7_reachedBy_1 : decode cX7_reachedBy 1 = .ok (.ifCond .lt 19, 3) := by decide +kernel
theorem dX7_reachedBy_4 : decode cX7_reachedBy 4 = .ok (.iload_n 1, 1) := by decide +kernel
theorem dX7_reachedBy_5 : decode cX7_reachedBy 5 = .ok (.sipush 4096, 3) := by decide +kernel
theorem dX7_reachedBy_8 : decode cX7_reachedBy 8 = .ok (.if_icmp .ge 12, 3) := by decide +kernel
theorem dX7_reachedBy_11 : decode cX7_reachedBy 11 = .ok (.aload_n 0, 1) := by decide +kernel
theorem dX7_reachedBy_12 : decode cX7_reachedBy 12 = .ok (.getfield 11, 3) := by decide +kernel
theorem dX7_reachedBy_15 : decode cX7_reachedBy 15 = .ok (.iload_n 1, 1) := by decide +kernel
theorem dX7_reachedBy_16 : decode cX7_reachedBy 16 = .ok (.iaload, 1) := by decide +kernel
theorem dX7_reachedBy_17 : decode cX7_reachedBy 17 = .ok (.goto 4, 3) := by decide +kernel
theorem dX7_reachedBy_20 : decode cX7_reachedBy 20 = .ok (.iconst 0, 1) := by decide +kernel
theorem dX7_reachedBy_21 : decode cX7_reachedBy 21 = .ok (.ireturn, 1) := by decide +kernel
theorem dX7_share_0 : decode cX7_share 0 = .ok (.aload_n 0, 1) := by decide +kernel
theorem dX7_share_1 : decode cX7_share 1 = .ok (.getfield 15, 3) := by decide +kernel
theorem dX7_share_4 : decode cX7_share 4 = .ok (.iconst 0, 1) := by decide +kernel
theorem dX7_share_5 : decode cX7_share 5 = .ok (.invokestatic 86, 3) := by decide +kernel
theorem dX7_share_8 : decode cX7_share 8 = .ok (.iconst 0, 1) := by decide +kernel
theorem dX7_share_9 : decode cX7_share 9 = .ok (.istore_n 3, 1) := by decide +kernel
theorem dX7_share_10 : decode cX7_share 10 = .ok (.iload_n 3, 1) := by decide +kernel
theorem dX7_share_11 : decode cX7_share 11 = .ok (.iload_n 1, 1) := by decide +kernel
theorem dX7_share_12 : decode cX7_share 12 = .ok (.if_icmp .ge 36, 3) := by decide +kernel
theorem dX7_share_15 : decode cX7_share 15 = .ok (.iload_n 3, 1) := by decide +kernel
theorem dX7_share_16 : decode cX7_share 16 = .ok (.sipush 4096, 3) := by decide +kernel
theorem dX7_share_19 : decode cX7_share 19 = .ok (.if_icmp .ge 29, 3) := by decide +kernel
theorem dX7_share_22 : decode cX7_share 22 = .ok (.iload_n 3, 1) := by decide +kernel
theorem dX7_share_23 : decode cX7_share 23 = .ok (.ifCond .eq 12, 3) := by decide +kernel
theorem dX7_share_26 : decode cX7_share 26 = .ok (.aload_n 0, 1) := by decide +kernel
theorem dX7_share_27 : decode cX7_share 27 = .ok (.getfield 15, 3) := by decide +kernel
theorem dX7_share_30 : decode cX7_share 30 = .ok (.iload_n 3, 1) := by decide +kernel
theorem dX7_share_31 : decode cX7_share 31 = .ok (.iaload, 1) := by decide +kernel
theorem dX7_share_32 : decode cX7_share 32 = .ok (.ifCond .eq 10, 3) := by decide +kernel
theorem dX7_share_35 : decode cX7_share 35 = .ok (.aload_n 0, 1) := by decide +kernel
theorem dX7_share_36 : decode cX7_share 36 = .ok (.iload_n 3, 1) := by decide +kernel
theorem dX7_share_37 : decode cX7_share 37 = .ok (.iload_n 1, 1) := by decide +kernel
theorem dX7_share_38 : decode cX7_share 38 = .ok (.iload_n 2, 1) := by decide +kernel
theorem dX7_share_39 : decode cX7_share 39 = .ok (.invokevirtual 103, 3) := by decide +kernel
theorem dX7_share_42 : decode cX7_share 42 = .ok (.iinc 3 1, 3) := by decide +kernel
theorem dX7_share_45 : decode cX7_share 45 = .ok (.goto (-35), 3) := by decide +kernel
theorem dX7_share_48 : decode cX7_share 48 = .ok (.iload_n 1, 1) := by decide +kernel
theorem dX7_share_49 : decode cX7_share 49 = .ok (.ifCond .lt 19, 3) := by decide +kernel
theorem dX7_share_52 : decode cX7_share 52 = .ok (.iload_n 1, 1) := by decide +kernel
theorem dX7_share_53 : decode cX7_share 53 = .ok (.sipush 4096, 3) := by decide +kernel
theorem dX7_share_56 : decode cX7_share 56 = .ok (.if_icmp .ge 12, 3) := by decide +kernel
theorem dX7_share_59 : decode cX7_share 59 = .ok (.aload_n 0, 1) := by decide +kernel
theorem dX7_share_60 : decode cX7_share 60 = .ok (.getfield 15, 3) := by decide +kernel
theorem dX7_share_63 : decode cX7_share 63 = .ok (.iload_n 1, 1) := by decide +kernel
theorem dX7_share_64 : decode cX7_share 64 = .ok (.iaload, 1) := by decide +kernel
theorem dX7_share_65 : decode cX7_share 65 = .ok (.goto 4, 3) := by decide +kernel
theorem dX7_share_68 : decode cX7_share 68 = .ok (.iconst 0, 1) := by decide +kernel
theorem dX7_share_69 : decode cX7_share 69 = .ok (.istore_n 3, 1) := by decide +kernel
theorem dX7_share_70 : decode cX7_share 70 = .ok (.iload_n 3, 1) := by decide +kernel
theorem dX7_share_71 : decode cX7_share 71 = .ok (.ifCond .ne 11, 3) := by decide +kernel
theorem dX7_share_74 : decode cX7_share 74 = .ok (.iload_n 1, 1) := by decide +kernel
theorem dX7_share_75 : decode cX7_share 75 = .ok (.ifCond .eq 7, 3) := by decide +kernel
theorem dX7_share_78 : decode cX7_share 78 = .ok (.iconst (-1), 1) := by decide +kernel
theorem dX7_share_79 : decode cX7_share 79 = .ok (.goto 4, 3) := by decide +kernel
theorem dX7_share_82 : decode cX7_share 82 = .ok (.iload_n 3, 1) := by decide +kernel
theorem dX7_share_83 : decode cX7_share 83 = .ok (.ireturn, 1) := by decide +kernel
theorem dX7_shareBehind_0 : decode cX7_shareBehind 0 = .ok (.iload_n 2, 1) := by decide +kernel
theorem dX7_shareBehind_1 : decode cX7_shareBehind 1 = .ok (.iload_n 1, 1) := by decide +kernel
theorem dX7_shareBehind_2 : decode cX7_shareBehind 2 = .ok (.iconst (-1), 1) := by decide +kernel
theorem dX7_shareBehind_3 : decode cX7_shareBehind 3 = .ok (.ixor, 1) := by decide +kernel
theorem dX7_shareBehind_4 : decode cX7_shareBehind 4 = .ok (.iand, 1) := by decide +kernel
theorem dX7_shareBehind_5 : decode cX7_shareBehind 5 = .ok (.istore 4, 2) := by decide +kernel
theorem dX7_shareBehind_7 : decode cX7_shareBehind 7 = .ok (.iload 4, 2) := by decide +kernel
theorem dX7_shareBehind_9 : decode cX7_shareBehind 9 = .ok (.iload 4, 2) := by decide +kernel
theorem dX7_shareBehind_11 : decode cX7_shareBehind 11 = .ok (.ineg, 1) := by decide +kernel
theorem dX7_shareBehind_12 : decode cX7_shareBehind 12 = .ok (.iand, 1) := by decide +kernel
theorem dX7_shareBehind_13 : decode cX7_shareBehind 13 = .ok (.istore 5, 2) := by decide +kernel
theorem dX7_shareBehind_15 : decode cX7_shareBehind 15 = .ok (.iload 4, 2) := by decide +kernel
theorem dX7_shareBehind_17 : decode cX7_shareBehind 17 = .ok (.iload 5, 2) := by decide +kernel
theorem dX7_shareBehind_19 : decode cX7_shareBehind 19 = .ok (.iconst (-1), 1) := by decide +kernel
theorem dX7_shareBehind_20 : decode cX7_shareBehind 20 = .ok (.ixor, 1) := by decide +kernel
theorem dX7_shareBehind_21 : decode cX7_shareBehind 21 = .ok (.iand, 1) := by decide +kernel
theorem dX7_shareBehind_22 : decode cX7_shareBehind 22 = .ok (.istore 6, 2) := by decide +kernel
theorem dX7_shareBehind_24 : decode cX7_shareBehind 24 = .ok (.iload 6, 2) := by decide +kernel
theorem dX7_shareBehind_26 : decode cX7_shareBehind 26 = .ok (.istore 7, 2) := by decide +kernel
theorem dX7_shareBehind_28 : decode cX7_shareBehind 28 = .ok (.iconst 0, 1) := by decide +kernel
theorem dX7_shareBehind_29 : decode cX7_shareBehind 29 = .ok (.istore 8, 2) := by decide +kernel
theorem dX7_shareBehind_31 : decode cX7_shareBehind 31 = .ok (.iload 8, 2) := by decide +kernel
theorem dX7_shareBehind_33 : decode cX7_shareBehind 33 = .ok (.sipush 4096, 3) := by decide +kernel
theorem dX7_shareBehind_36 : decode cX7_shareBehind 36 = .ok (.if_icmp .ge 54, 3) := by decide +kernel
theorem dX7_shareBehind_39 : decode cX7_shareBehind 39 = .ok (.iload_n 1, 1) := by decide +kernel
theorem dX7_shareBehind_40 : decode cX7_shareBehind 40 = .ok (.iload 5, 2) := by decide +kernel
theorem dX7_shareBehind_42 : decode cX7_shareBehind 42 = .ok (.ior, 1) := by decide +kernel
theorem dX7_shareBehind_43 : decode cX7_shareBehind 43 = .ok (.iload 7, 2) := by decide +kernel
theorem dX7_shareBehind_45 : decode cX7_shareBehind 45 = .ok (.ior, 1) := by decide +kernel
theorem dX7_shareBehind_46 : decode cX7_shareBehind 46 = .ok (.istore 9, 2) := by decide +kernel
theorem dX7_shareBehind_48 : decode cX7_shareBehind 48 = .ok (.aload_n 0, 1) := by decide +kernel
theorem dX7_shareBehind_49 : decode cX7_shareBehind 49 = .ok (.iload 5, 2) := by decide +kernel
theorem dX7_shareBehind_51 : decode cX7_shareBehind 51 = .ok (.iload 7, 2) := by decide +kernel
theorem dX7_shareBehind_53 : decode cX7_shareBehind 53 = .ok (.ior, 1) := by decide +kernel
theorem dX7_shareBehind_54 : decode cX7_shareBehind 54 = .ok (.invokevirtual 100, 3) := by decide +kernel
theorem dX7_shareBehind_57 : decode cX7_shareBehind 57 = .ok (.iload_n 3, 1) := by decide +kernel
theorem dX7_shareBehind_58 : decode cX7_shareBehind 58 = .ok (.iand, 1) := by decide +kernel
theorem dX7_shareBehind_59 : decode cX7_shareBehind 59 = .ok (.ifCond .eq 10, 3) := by decide +kernel
theorem dX7_shareBehind_62 : decode cX7_shareBehind 62 = .ok (.aload_n 0, 1) := by decide +kernel
theorem dX7_shareBehind_63 : decode cX7_shareBehind 63 = .ok (.iload 9, 2) := by decide +kernel
theorem dX7_shareBehind_65 : decode cX7_shareBehind 65 = .ok (.iload_n 1, 1) := by decide +kernel
theorem dX7_shareBehind_66 : decode cX7_shareBehind 66 = .ok (.invokevirtual 106, 3) := by decide +kernel
theorem dX7_shareBehind_69 : decode cX7_shareBehind 69 = .ok (.iload 7, 2) := by decide +kernel
theorem dX7_shareBehind_71 : decode cX7_shareBehind 71 = .ok (.ifCond .ne 4, 3) := by decide +kernel
theorem dX7_shareBehind_74 : decode cX7_shareBehind 74 = .ok (.return_, 1) := by decide +kernel
theorem dX7_shareBehind_75 : decode cX7_shareBehind 75 = .ok (.iload 7, 2) := by decide +kernel
theorem dX7_shareBehind_77 : decode cX7_shareBehind 77 = .ok (.iconst 1, 1) := by decide +kernel
theorem dX7_shareBehind_78 : decode cX7_shareBehind 78 = .ok (.isub, 1) := by decide +kernel
theorem dX7_shareBehind_79 : decode cX7_shareBehind 79 = .ok (.iload 6, 2) := by decide +kernel
theorem dX7_shareBehind_81 : decode cX7_shareBehind 81 = .ok (.iand, 1) := by decide +kernel
theorem dX7_shareBehind_82 : decode cX7_shareBehind 82 = .ok (.istore 7, 2) := by decide +kernel
theorem dX7_shareBehind_84 : decode cX7_shareBehind 84 = .ok (.iinc 8 1, 3) := by decide +kernel
theorem dX7_shareBehind_87 : decode cX7_shareBehind 87 = .ok (.goto (-56), 3) := by decide +kernel
theorem dX7_shareBehind_90 : decode cX7_shareBehind 90 = .ok (.return_, 1) := by decide +kernel
theorem dX7_note_0 : decode cX7_note 0 = .ok (.iload_n 2, 1) := by decide +kernel
theorem dX7_note_1 : decode cX7_note 1 = .ok (.ifCond .lt 21, 3) := by decide +kernel
theorem dX7_note_4 : decode cX7_note 4 = .ok (.iload_n 2, 1) := by decide +kernel
theorem dX7_note_5 : decode cX7_note 5 = .ok (.sipush 4096, 3) := by decide +kernel
theorem dX7_note_8 : decode cX7_note 8 = .ok (.if_icmp .ge 14, 3) := by decide +kernel
theorem dX7_note_11 : decode cX7_note 11 = .ok (.iload_n 1, 1) := by decide +kernel
theorem dX7_note_12 : decode cX7_note 12 = .ok (.ifCond .lt 10, 3) := by decide +kernel
theorem dX7_note_15 : decode cX7_note 15 = .ok (.iload_n 1, 1) := by decide +kernel
theorem dX7_note_16 : decode cX7_note 16 = .ok (.sipush 4096, 3) := by decide +kernel
theorem dX7_note_19 : decode cX7_note 19 = .ok (.if_icmp .lt 4, 3) := by decide +kernel
theorem dX7_note_22 : decode cX7_note 22 = .ok (.return_, 1) := by decide +kernel
theorem dX7_note_23 : decode cX7_note 23 = .ok (.aload_n 0, 1) := by decide +kernel
theorem dX7_note_24 : decode cX7_note 24 = .ok (.getfield 15, 3) := by decide +kernel
theorem dX7_note_27 : decode cX7_note 27 = .ok (.iload_n 2, 1) := by decide +kernel
theorem dX7_note_28 : decode cX7_note 28 = .ok (.iaload, 1) := by decide +kernel
theorem dX7_note_29 : decode cX7_note 29 = .ok (.iconst 1, 1) := by decide +kernel
theorem dX7_note_30 : decode cX7_note 30 = .ok (.iadd, 1) := by decide +kernel
theorem dX7_note_31 : decode cX7_note 31 = .ok (.istore_n 3, 1) := by decide +kernel
theorem dX7_note_32 : decode cX7_note 32 = .ok (.aload_n 0, 1) := by decide +kernel
theorem dX7_note_33 : decode cX7_note 33 = .ok (.getfield 15, 3) := by decide +kernel
theorem dX7_note_36 : decode cX7_note 36 = .ok (.iload_n 1, 1) := by decide +kernel
theorem dX7_note_37 : decode cX7_note 37 = .ok (.iaload, 1) := by decide +kernel
theorem dX7_note_38 : decode cX7_note 38 = .ok (.ifCond .eq 13, 3) := by decide +kernel
theorem dX7_note_41 : decode cX7_note 41 = .ok (.iload_n 3, 1) := by decide +kernel
theorem dX7_note_42 : decode cX7_note 42 = .ok (.aload_n 0, 1) := by decide +kernel
theorem dX7_note_43 : decode cX7_note 43 = .ok (.getfield 15, 3) := by decide +kernel
theorem dX7_note_46 : decode cX7_note 46 = .ok (.iload_n 1, 1) := by decide +kernel
theorem dX7_note_47 : decode cX7_note 47 = .ok (.iaload, 1) := by decide +kernel
theorem dX7_note_48 : decode cX7_note 48 = .ok (.if_icmp .ge 10, 3) := by decide +kernel
theorem dX7_note_51 : decode cX7_note 51 = .ok (.aload_n 0, 1) := by decide +kernel
theorem dX7_note_52 : decode cX7_note 52 = .ok (.getfield 15, 3) := by decide +kernel
theorem dX7_note_55 : decode cX7_note 55 = .ok (.iload_n 1, 1) := by decide +kernel
theorem dX7_note_56 : decode cX7_note 56 = .ok (.iload_n 3, 1) := by decide +kernel
theorem dX7_note_57 : decode cX7_note 57 = .ok (.iastore, 1) := by decide +kernel
theorem dX7_note_58 : decode cX7_note 58 = .ok (.return_, 1) := by decide +kernel
theorem dX8_init_0 : decode cX8_init 0 = .ok (.aload_n 0, 1) := by decide +kernel
theorem dX8_init_1 : decode cX8_init 1 = .ok (.invokespecial 3, 3) := by decide +kernel
theorem dX8_init_4 : decode cX8_init 4 = .ok (.aload_n 0, 1) := by decide +kernel
theorem dX8_init_5 : decode cX8_init 5 = .ok (.bipush 40, 2) := by decide +kernel
theorem dX8_init_7 : decode cX8_init 7 = .ok (.newarray .long, 2) := by decide +kernel
theorem dX8_init_9 : decode cX8_init 9 = .ok (.putfield 9, 3) := by decide +kernel
theorem dX8_init_12 : decode cX8_init 12 = .ok (.return_, 1) := by decide +kernel
theorem dX8_lay_0 : decode cX8_lay 0 = .ok (.aload_n 0, 1) := by decide +kernel
theorem dX8_lay_1 : decode cX8_lay 1 = .ok (.iconst 1, 1) := by decide +kernel
theorem dX8_lay_2 : decode cX8_lay 2 = .ok (.putfield 15, 3) := by decide +kernel
theorem dX8_lay_5 : decode cX8_lay 5 = .ok (.aload_n 0, 1) := by decide +kernel
theorem dX8_lay_6 : decode cX8_lay 6 = .ok (.iload_n 1, 1) := by decide +kernel
theorem dX8_lay_7 : decode cX8_lay 7 = .ok (.putfield 19, 3) := by decide +kernel
theorem dX8_lay_10 : decode cX8_lay 10 = .ok (.aload_n 0, 1) := by decide +kernel
theorem dX8_lay_11 : decode cX8_lay 11 = .ok (.iload_n 2, 1) := by decide +kernel
theorem dX8_lay_12 : decode cX8_lay 12 = .ok (.putfield 23, 3) := by decide +kernel
theorem dX8_lay_15 : decode cX8_lay 15 = .ok (.aload_n 0, 1) := by decide +kernel
theorem dX8_lay_16 : decode cX8_lay 16 = .ok (.getfield 9, 3) := by decide +kernel
theorem dX8_lay_19 : decode cX8_lay 19 = .ok (.lconst 0, 1) := by decide +kernel
theorem dX8_lay_20 : decode cX8_lay 20 = .ok (.invokestatic 26, 3) := by decide +kernel
theorem dX8_lay_23 : decode cX8_lay 23 = .ok (.return_, 1) := by decide +kernel
theorem dX8_put_0 : decode cX8_put 0 = .ok (.iload_n 1, 1) := by decide +kernel
theorem dX8_put_1 : decode cX8_put 1 = .ok (.ifCond .lt 12, 3) := by decide +kernel
theorem dX8_put_4 : decode cX8_put 4 = .ok (.iload_n 1, 1) := by decide +kernel
theorem dX8_put_5 : decode cX8_put 5 = .ok (.aload_n 0, 1) := by decide +kernel
theorem dX8_put_6 : decode cX8_put 6 = .ok (.getfield 9, 3) := by decide +kernel
theorem dX8_put_9 : decode cX8_put 9 = .ok (.arraylength, 1) := by decide +kernel
theorem dX8_put_10 : decode cX8_put 10 = .ok (.if_icmp .lt 5, 3) := by decide +kernel
theorem dX8_put_13 : decode cX8_put 13 = .ok (.lconst 0, 1) := by decide +kernel
theorem dX8_put_14 : decode cX8_put 14 = .ok (.lreturn, 1) := by decide +kernel
theorem dX8_put_15 : decode cX8_put 15 = .ok (.aload_n 0, 1) := by decide +kernel
theorem dX8_put_16 : decode cX8_put 16 = .ok (.getfield 9, 3) := by decide +kernel
theorem dX8_put_19 : decode cX8_put 19 = .ok (.iload_n 1, 1) := by decide +kernel
theorem dX8_put_20 : decode cX8_put 20 = .ok (.aload_n 0, 1) := by decide +kernel
theorem dX8_put_21 : decode cX8_put 21 = .ok (.lload_n 2, 1) := by decide +kernel
theorem dX8_put_22 : decode cX8_put 22 = .ok (.invokevirtual 32, 3) := by decide +kernel
theorem dX8_put_25 : decode cX8_put 25 = .ok (.lastore, 1) := by decide +kernel
theorem dX8_put_26 : decode cX8_put 26 = .ok (.aload_n 0, 1) := by decide +kernel
theorem dX8_put_27 : decode cX8_put 27 = .ok (.getfield 9, 3) := by decide +kernel
theorem dX8_put_30 : decode cX8_put 30 = .ok (.iload_n 1, 1) := by decide +kernel
theorem dX8_put_31 : decode cX8_put 31 = .ok (.laload, 1) := by decide +kernel
theorem dX8_put_32 : decode cX8_put 32 = .ok (.lreturn, 1) := by decide +kernel
theorem dX8_cutToSort_0 : decode cX8_cutToSort 0 = .ok (.aload_n 0, 1) := by decide +kernel
theorem dX8_cutToSort_1 : decode cX8_cutToSort 1 = .ok (.getfield 19, 3) := by decide +kernel
theorem dX8_cutToSort_4 : decode cX8_cutToSort 4 = .ok (.tableswitch 42 0 2 #[28, 33, 38], 28) := by decide +kernel
theorem dX8_cutToSort_32 : decode cX8_cutToSort 32 = .ok (.lload_n 1, 1) := by decide +kernel
theorem dX8_cutToSort_33 : decode cX8_cutToSort 33 = .ok (.l2i, 1) := by decide +kernel
theorem dX8_cutToSort_34 : decode cX8_cutToSort 34 = .ok (.i2b, 1) := by decide +kernel
theorem dX8_cutToSort_35 : decode cX8_cutToSort 35 = .ok (.i2l, 1) := by decide +kernel
theorem dX8_cutToSort_36 : decode cX8_cutToSort 36 = .ok (.lreturn, 1) := by decide +kernel
theorem dX8_cutToSort_37 : decode cX8_cutToSort 37 = .ok (.lload_n 1, 1) := by decide +kernel
theorem dX8_cutToSort_38 : decode cX8_cutToSort 38 = .ok (.l2i, 1) := by decide +kernel
theorem dX8_cutToSort_39 : decode cX8_cutToSort 39 = .ok (.i2s, 1) := by decide +kernel
theorem dX8_cutToSort_40 : decode cX8_cutToSort 40 = .ok (.i2l, 1) := by decide +kernel
theorem dX8_cutToSort_41 : decode cX8_cutToSort 41 = .ok (.lreturn, 1) := by decide +kernel
theorem dX8_cutToSort_42 : decode cX8_cutToSort 42 = .ok (.lload_n 1, 1) := by decide +kernel
theorem dX8_cutToSort_43 : decode cX8_cutToSort 43 = .ok (.l2i, 1) := by decide +kernel
theorem dX8_cutToSort_44 : decode cX8_cutToSort 44 = .ok (.i2l, 1) := by decide +kernel
theorem dX8_cutToSort_45 : decode cX8_cutToSort 45 = .ok (.lreturn, 1) := by decide +kernel
theorem dX8_cutToSort_46 : decode cX8_cutToSort 46 = .ok (.lload_n 1, 1) := by decide +kernel
theorem dX8_cutToSort_47 : decode cX8_cutToSort 47 = .ok (.lreturn, 1) := by decide +kernel
theorem dX8_wayAt_0 : decode cX8_wayAt 0 = .ok (.iload_n 1, 1) := by decide +kernel
theorem dX8_wayAt_1 : decode cX8_wayAt 1 = .ok (.ifCond .lt 36, 3) := by decide +kernel
theorem dX8_wayAt_4 : decode cX8_wayAt 4 = .ok (.iload_n 1, 1) := by decide +kernel
theorem dX8_wayAt_5 : decode cX8_wayAt 5 = .ok (.aload_n 0, 1) := by decide +kernel
theorem dX8_wayAt_6 : decode cX8_wayAt 6 = .ok (.getfield 9, 3) := by decide +kernel
theorem dX8_wayAt_9 : decode cX8_wayAt 9 = .ok (.arraylength, 1) := by decide +kernel
theorem dX8_wayAt_10 : decode cX8_wayAt 10 = .ok (.if_icmp .ge 27, 3) := by decide +kernel
theorem dX8_wayAt_13 : decode cX8_wayAt 13 = .ok (.aload_n 0, 1) := by decide +kernel
theorem dX8_wayAt_14 : decode cX8_wayAt 14 = .ok (.getfield 9, 3) := by decide +kernel
theorem dX8_wayAt_17 : decode cX8_wayAt 17 = .ok (.iload_n 1, 1) := by decide +kernel
theorem dX8_wayAt_18 : decode cX8_wayAt 18 = .ok (.laload, 1) := by decide +kernel
theorem dX8_wayAt_19 : decode cX8_wayAt 19 = .ok (.lconst 0, 1) := by decide +kernel
theorem dX8_wayAt_20 : decode cX8_wayAt 20 = .ok (.lcmp, 1) := by decide +kernel
theorem dX8_wayAt_21 : decode cX8_wayAt 21 = .ok (.ifCond .lt 16, 3) := by decide +kernel
theorem dX8_wayAt_24 : decode cX8_wayAt 24 = .ok (.aload_n 0, 1) := by decide +kernel
theorem dX8_wayAt_25 : decode cX8_wayAt 25 = .ok (.getfield 9, 3) := by decide +kernel
theorem dX8_wayAt_28 : decode cX8_wayAt 28 = .ok (.iload_n 1, 1) := by decide +kernel
theorem dX8_wayAt_29 : decode cX8_wayAt 29 = .ok (.laload, 1) := by decide +kernel
theorem dX8_wayAt_30 : decode cX8_wayAt 30 = .ok (.ldc2_w 36, 3) := by decide +kernel
theorem dX8_wayAt_33 : decode cX8_wayAt 33 = .ok (.lcmp, 1) := by decide +kernel
theorem dX8_wayAt_34 : decode cX8_wayAt 34 = .ok (.ifCond .lt 5, 3) := by decide +kernel
theorem dX8_wayAt_37 : decode cX8_wayAt 37 = .ok (.iconst (-1), 1) := by decide +kernel
theorem dX8_wayAt_38 : decode cX8_wayAt 38 = .ok (.ireturn, 1) := by decide +kernel
theorem dX8_wayAt_39 : decode cX8_wayAt 39 = .ok (.aload_n 0, 1) := by decide +kernel
theorem dX8_wayAt_40 : decode cX8_wayAt 40 = .ok (.getfield 9, 3) := by decide +kernel
theorem dX8_wayAt_43 : decode cX8_wayAt 43 = .ok (.iload_n 1, 1) := by decide +kernel
theorem dX8_wayAt_44 : decode cX8_wayAt 44 = .ok (.laload, 1) := by decide +kernel
theorem dX8_wayAt_45 : decode cX8_wayAt 45 = .ok (.l2i, 1) := by decide +kernel
theorem dX8_wayAt_46 : decode cX8_wayAt 46 = .ok (.ireturn, 1) := by decide +kernel
theorem dX9_init_0 : decode cX9_init 0 = .ok (.aload_n 0, 1) := by decide +kernel
theorem dX9_init_1 : decode cX9_init 1 = .ok (.invokespecial 3, 3) := by decide +kernel
theorem dX9_init_4 : decode cX9_init 4 = .ok (.aload_n 0, 1) := by decide +kernel
theorem dX9_init_5 : decode cX9_init 5 = .ok (.bipush 121, 2) := by decide +kernel
theorem dX9_init_7 : decode cX9_init 7 = .ok (.newarray .int, 2) := by decide +kernel
theorem dX9_init_9 : decode cX9_init 9 = .ok (.putfield 9, 3) := by decide +kernel
theorem dX9_init_12 : decode cX9_init 12 = .ok (.aload_n 0, 1) := by decide +kernel
theorem dX9_init_13 : decode cX9_init 13 = .ok (.bipush 121, 2) := by decide +kernel
theorem dX9_init_15 : decode cX9_init 15 = .ok (.newarray .long, 2) := by decide +kernel
theorem dX9_init_17 : decode cX9_init 17 = .ok (.putfield 15, 3) := by decide +kernel
theorem dX9_init_20 : decode cX9_init 20 = .ok (.aload_n 0, 1) := by decide +kernel
theorem dX9_init_21 : decode cX9_init 21 = .ok (.bipush 121, 2) := by decide +kernel
theorem dX9_init_23 : decode cX9_init 23 = .ok (.newarray .long, 2) := by decide +kernel
theorem dX9_init_25 : decode cX9_init 25 = .ok (.putfield 19, 3) := by decide +kernel
theorem dX9_init_28 : decode cX9_init 28 = .ok (.aload_n 0, 1) := by decide +kernel
theorem dX9_init_29 : decode cX9_init 29 = .ok (.bipush 121, 2) := by decide +kernel
theorem dX9_init_31 : decode cX9_init 31 = .ok (.newarray .int, 2) := by decide +kernel
theorem dX9_init_33 : decode cX9_init 33 = .ok (.putfield 22, 3) := by decide +kernel
theorem dX9_init_36 : decode cX9_init 36 = .ok (.aload_n 0, 1) := by decide +kernel
theorem dX9_init_37 : decode cX9_init 37 = .ok (.aload_n 1, 1) := by decide +kernel
theorem dX9_init_38 : decode cX9_init 38 = .ok (.putfield 25, 3) := by decide +kernel
theorem dX9_init_41 : decode cX9_init 41 = .ok (.aload_n 0, 1) := by decide +kernel
theorem dX9_init_42 : decode cX9_init 42 = .ok (.aload_n 2, 1) := by decide +kernel
theorem dX9_init_43 : decode cX9_init 43 = .ok (.putfield 29, 3) := by decide +kernel
theorem dX9_init_46 : decode cX9_init 46 = .ok (.return_, 1) := by decide +kernel
theorem dX9_find_0 : decode cX9_find 0 = .ok (.aload_n 0, 1) := by decide +kernel
theorem dX9_find_1 : decode cX9_find 1 = .ok (.aload_n 1, 1) := by decide +kernel
theorem dX9_find_2 : decode cX9_find 2 = .ok (.invokevirtual 33, 3) := by decide +kernel
theorem dX9_find_5 : decode cX9_find 5 = .ok (.aload_n 0, 1) := by decide +kernel
theorem dX9_find_6 : decode cX9_find 6 = .ok (.iconst (-1), 1) := by decide +kernel
theorem dX9_find_7 : decode cX9_find 7 = .ok (.putfield 37, 3) := by decide +kernel
theorem dX9_find_10 : decode cX9_find 10 = .ok (.aload_n 0, 1) := by decide +kernel
theorem dX9_find_11 : decode cX9_find 11 = .ok (.iconst (-1), 1) := by decide +kernel
theorem dX9_find_12 : decode cX9_find 12 = .ok (.putfield 41, 3) := by decide +kernel
theorem dX9_find_15 : decode cX9_find 15 = .ok (.iconst 0, 1) := by decide +kernel
theorem dX9_find_16 : decode cX9_find 16 = .ok (.istore_n 3, 1) := by decide +kernel
theorem dX9_find_17 : decode cX9_find 17 = .ok (.iload_n 3, 1) := by decide +kernel
theorem dX9_find_18 : decode cX9_find 18 = .ok (.aload_n 0, 1) := by decide +kernel
theorem dX9_find_19 : decode cX9_find 19 = .ok (.getfield 22, 3) := by decide +kernel
theorem dX9_find_22 : decode cX9_find 22 = .ok (.arraylength, 1) := by decide +kernel
theorem dX9_find_23 : decode cX9_find 23 = .ok (.if_icmp .ge 55, 3) := by decide +kernel
theorem dX9_find_26 : decode cX9_find 26 = .ok (.aload_n 0, 1) := by decide +kernel
theorem dX9_find_27 : decode cX9_find 27 = .ok (.getfield 22, 3) := by decide +kernel
theorem dX9_find_30 : decode cX9_find 30 = .ok (.iload_n 3, 1) := by decide +kernel
theorem dX9_find_31 : decode cX9_find 31 = .ok (.iload_n 3, 1) := by decide +kernel
theorem dX9_find_32 : decode cX9_find 32 = .ok (.aload_n 0, 1) := by decide +kernel
theorem dX9_find_33 : decode cX9_find 33 = .ok (.getfield 44, 3) := by decide +kernel
theorem dX9_find_36 : decode cX9_find 36 = .ok (.if_icmp .gt 34, 3) := by decide +kernel
theorem dX9_find_39 : decode cX9_find 39 = .ok (.iload_n 3, 1) := by decide +kernel
theorem dX9_find_40 : decode cX9_find 40 = .ok (.ifCond .eq 7, 3) := by decide +kernel
theorem dX9_find_43 : decode cX9_find 43 = .ok (.iload_n 2, 1) := by decide +kernel
theorem dX9_find_44 : decode cX9_find 44 = .ok (.ifCond .eq 26, 3) := by decide +kernel
theorem dX9_find_47 : decode cX9_find 47 = .ok (.aload_n 0, 1) := by decide +kernel
theorem dX9_find_48 : decode cX9_find 48 = .ok (.iload_n 3, 1) := by decide +kernel
theorem dX9_find_49 : decode cX9_find 49 = .ok (.iconst 0, 1) := by decide +kernel
theorem dX9_find_50 : decode cX9_find 50 = .ok (.invokevirtual 47, 3) := by decide +kernel
theorem dX9_find_53 : decode cX9_find 53 = .ok (.ifCond .eq 17, 3) := by decide +kernel
theorem dX9_find_56 : decode cX9_find 56 = .ok (.aload_n 0, 1) := by decide +kernel
theorem dX9_find_57 : decode cX9_find 57 = .ok (.getfield 29, 3) := by decide +kernel
theorem dX9_find_60 : decode cX9_find 60 = .ok (.invokevirtual 51, 3) := by decide +kernel
theorem dX9_find_63 : decode cX9_find 63 = .ok (.ifCond .eq 7, 3) := by decide +kernel
theorem dX9_find_66 : decode cX9_find 66 = .ok (.iconst 1, 1) := by decide +kernel
theorem dX9_find_67 : decode cX9_find 67 = .ok (.goto 4, 3) := by decide +kernel
theorem dX9_find_70 : decode cX9_find 70 = .ok (.iconst 0, 1) := by decide +kernel
theorem dX9_find_71 : decode cX9_find 71 = .ok (.iastore, 1) := by decide +kernel
theorem dX9_find_72 : decode cX9_find 72 = .ok (.iinc 3 1, 3) := by decide +kernel
theorem dX9_find_75 : decode cX9_find 75 = .ok (.goto (-58), 3) := by decide +kernel
theorem dX9_find_78 : decode cX9_find 78 = .ok (.iconst 0, 1) := by decide +kernel
theorem dX9_find_79 : decode cX9_find 79 = .ok (.istore_n 3, 1) := by decide +kernel
theorem dX9_find_80 : decode cX9_find 80 = .ok (.iload_n 3, 1) := by decide +kernel
theorem dX9_find_81 : decode cX9_find 81 = .ok (.aload_n 0, 1) := by decide +kernel
theorem dX9_find_82 : decode cX9_find 82 = .ok (.getfield 44, 3) := by decide +kernel
theorem dX9_find_85 : decode cX9_find 85 = .ok (.if_icmp .gt 39, 3) := by decide +kernel
theorem dX9_find_88 : decode cX9_find 88 = .ok (.aload_n 0, 1) := by decide +kernel
theorem dX9_find_89 : decode cX9_find 89 = .ok (.getfield 37, 3) := by decide +kernel
theorem dX9_find_92 : decode cX9_find 92 = .ok (.iconst (-1), 1) := by decide +kernel
theorem dX9_find_93 : decode cX9_find 93 = .ok (.if_icmp .ne 31, 3) := by decide +kernel
theorem dX9_find_96 : decode cX9_find 96 = .ok (.aload_n 0, 1) := by decide +kernel
theorem dX9_find_97 : decode cX9_find 97 = .ok (.iload_n 3, 1) := by decide +kernel
theorem dX9_find_98 : decode cX9_find 98 = .ok (.iload_n 2, 1) := by decide +kernel
theorem dX9_find_99 : decode cX9_find 99 = .ok (.ifCond .eq 15, 3) := by decide +kernel
theorem dX9_find_102 : decode cX9_find 102 = .ok (.iload_n 3, 1) := by decide +kernel
theorem dX9_find_103 : decode cX9_find 103 = .ok (.aload_n 0, 1) := by decide +kernel
theorem dX9_find_104 : decode cX9_find 104 = .ok (.getfield 44, 3) := by decide +kernel
theorem dX9_find_107 : decode cX9_find 107 = .ok (.if_icmp .ge 7, 3) := by decide +kernel
theorem dX9_find_110 : decode cX9_find 110 = .ok (.iload_n 3, 1) := by decide +kernel
theorem dX9_find_111 : decode cX9_find 111 = .ok (.goto 4, 3) := by decide +kernel
theorem dX9_find_114 : decode cX9_find 114 = .ok (.iconst 0, 1) := by decide +kernel
theorem dX9_find_115 : decode cX9_find 115 = .ok (.invokevirtual 57, 3) := by decide +kernel
theorem dX9_find_118 : decode cX9_find 118 = .ok (.iinc 3 1, 3) := by decide +kernel
theorem dX9_find_121 : decode cX9_find 121 = .ok (.goto (-41), 3) := by decide +kernel
theorem dX9_find_124 : decode cX9_find 124 = .ok (.return_, 1) := by decide +kernel
theorem dX9_findOf_0 : decode cX9_findOf 0 = .ok (.iconst 0, 1) := by decide +kernel
theorem dX9_findOf_1 : decode cX9_findOf 1 = .ok (.istore_n 3, 1) := by decide +kernel
theorem dX9_findOf_2 : decode cX9_findOf 2 = .ok (.iload_n 3, 1) := by decide +kernel
theorem dX9_findOf_3 : decode cX9_findOf 3 = .ok (.iload_n 2, 1) := by decide +kernel
theorem dX9_findOf_4 : decode cX9_findOf 4 = .ok (.if_icmp .gt 61, 3) := by decide +kernel
theorem dX9_findOf_7 : decode cX9_findOf 7 = .ok (.iload_n 3, 1) := by decide +kernel
theorem dX9_findOf_8 : decode cX9_findOf 8 = .ok (.aload_n 0, 1) := by decide +kernel
theorem dX9_findOf_9 : decode cX9_findOf 9 = .ok (.getfield 22, 3) := by decide +kernel
theorem dX9_findOf_12 : decode cX9_findOf 12 = .ok (.arraylength, 1) := by decide +kernel
theorem dX9_findOf_13 : decode cX9_findOf 13 = .ok (.if_icmp .ge 52, 3) := by decide +kernel
theorem dX9_findOf_16 : decode cX9_findOf 16 = .ok (.aload_n 0, 1) := by decide +kernel
theorem dX9_findOf_17 : decode cX9_findOf 17 = .ok (.getfield 22, 3) := by decide +kernel
theorem dX9_findOf_20 : decode cX9_findOf 20 = .ok (.iload_n 3, 1) := by decide +kernel
theorem dX9_findOf_21 : decode cX9_findOf 21 = .ok (.iaload, 1) := by decide +kernel
theorem dX9_findOf_22 : decode cX9_findOf 22 = .ok (.ifCond .eq 37, 3) := by decide +kernel
theorem dX9_findOf_25 : decode cX9_findOf 25 = .ok (.aload_n 0, 1) := by decide +kernel
theorem dX9_findOf_26 : decode cX9_findOf 26 = .ok (.iload_n 3, 1) := by decide +kernel
theorem dX9_findOf_27 : decode cX9_findOf 27 = .ok (.iload_n 1, 1) := by decide +kernel
theorem dX9_findOf_28 : decode cX9_findOf 28 = .ok (.iload_n 3, 1) := by decide +kernel
theorem dX9_findOf_29 : decode cX9_findOf 29 = .ok (.isub, 1) := by decide +kernel
theorem dX9_findOf_30 : decode cX9_findOf 30 = .ok (.invokevirtual 47, 3) := by decide +kernel
theorem dX9_findOf_33 : decode cX9_findOf 33 = .ok (.ifCond .eq 26, 3) := by decide +kernel
theorem dX9_findOf_36 : decode cX9_findOf 36 = .ok (.aload_n 0, 1) := by decide +kernel
theorem dX9_findOf_37 : decode cX9_findOf 37 = .ok (.getfield 29, 3) := by decide +kernel
theorem dX9_findOf_40 : decode cX9_findOf 40 = .ok (.invokevirtual 61, 3) := by decide +kernel
theorem dX9_findOf_43 : decode cX9_findOf 43 = .ok (.ifCond .eq 16, 3) := by decide +kernel
theorem dX9_findOf_46 : decode cX9_findOf 46 = .ok (.aload_n 0, 1) := by decide +kernel
theorem dX9_findOf_47 : decode cX9_findOf 47 = .ok (.iload_n 3, 1) := by decide +kernel
theorem dX9_findOf_48 : decode cX9_findOf 48 = .ok (.putfield 37, 3) := by decide +kernel
theorem dX9_findOf_51 : decode cX9_findOf 51 = .ok (.aload_n 0, 1) := by decide +kernel
theorem dX9_findOf_52 : decode cX9_findOf 52 = .ok (.iload_n 1, 1) := by decide +kernel
theorem dX9_findOf_53 : decode cX9_findOf 53 = .ok (.iload_n 3, 1) := by decide +kernel
theorem dX9_findOf_54 : decode cX9_findOf 54 = .ok (.isub, 1) := by decide +kernel
theorem dX9_findOf_55 : decode cX9_findOf 55 = .ok (.putfield 41, 3) := by decide +kernel
theorem dX9_findOf_58 : decode cX9_findOf 58 = .ok (.return_, 1) := by decide +kernel
theorem dX9_findOf_59 : decode cX9_findOf 59 = .ok (.iinc 3 1, 3) := by decide +kernel
theorem dX9_findOf_62 : decode cX9_findOf 62 = .ok (.goto (-60), 3) := by decide +kernel
theorem dX9_findOf_65 : decode cX9_findOf 65 = .ok (.return_, 1) := by decide +kernel
theorem dX9_trace_0 : decode cX9_trace 0 = .ok (.aload_n 0, 1) := by decide +kernel
theorem dX9_trace_1 : decode cX9_trace 1 = .ok (.aload_n 1, 1) := by decide +kernel
theorem dX9_trace_2 : decode cX9_trace 2 = .ok (.getfield 64, 3) := by decide +kernel
theorem dX9_trace_5 : decode cX9_trace 5 = .ok (.bipush 120, 2) := by decide +kernel
theorem dX9_trace_7 : decode cX9_trace 7 = .ok (.invokestatic 67, 3) := by decide +kernel
theorem dX9_trace_10 : decode cX9_trace 10 = .ok (.putfield 44, 3) := by decide +kernel
theorem dX9_trace_13 : decode cX9_trace 13 = .ok (.aload_n 0, 1) := by decide +kernel
theorem dX9_trace_14 : decode cX9_trace 14 = .ok (.aload_n 1, 1) := by decide +kernel
theorem dX9_trace_15 : decode cX9_trace 15 = .ok (.invokevirtual 73, 3) := by decide +kernel
theorem dX9_trace_18 : decode cX9_trace 18 = .ok (.aload_n 0, 1) := by decide +kernel
theorem dX9_trace_19 : decode cX9_trace 19 = .ok (.getfield 44, 3) := by decide +kernel
theorem dX9_trace_22 : decode cX9_trace 22 = .ok (.iconst 1, 1) := by decide +kernel
theorem dX9_trace_23 : decode cX9_trace 23 = .ok (.iand, 1) := by decide +kernel
theorem dX9_trace_24 : decode cX9_trace 24 = .ok (.ifCond .ne 7, 3) := by decide +kernel
theorem dX9_trace_27 : decode cX9_trace 27 = .ok (.iconst 1, 1) := by decide +kernel
theorem dX9_trace_28 : decode cX9_trace 28 = .ok (.goto 4, 3) := by decide +kernel
theorem dX9_trace_31 : decode cX9_trace 31 = .ok (.iconst 0, 1) := by decide +kernel
theorem dX9_trace_32 : decode cX9_trace 32 = .ok (.if_icmp .ne 7, 3) := by decide +kernel
theorem dX9_trace_35 : decode cX9_trace 35 = .ok (.iconst 1, 1) := by decide +kernel
theorem dX9_trace_36 : decode cX9_trace 36 = .ok (.goto 4, 3) := by decide +kernel
theorem dX9_trace_39 : decode cX9_trace 39 = .ok (.iconst 0, 1) := by decide +kernel
theorem dX9_trace_40 : decode cX9_trace 40 = .ok (.putfield 76, 3) := by decide +kernel
theorem dX9_trace_43 : decode cX9_trace 43 = .ok (.aload_n 0, 1) := by decide +kernel
theorem dX9_trace_44 : decode cX9_trace 44 = .ok (.aload_n 1, 1) := by decide +kernel
theorem dX9_trace_45 : decode cX9_trace 45 = .ok (.aload_n 1, 1) := by decide +kernel
theorem dX9_trace_46 : decode cX9_trace 46 = .ok (.getfield 80, 3) := by decide +kernel
theorem dX9_trace_49 : decode cX9_trace 49 = .ok (.invokevirtual 83, 3) := by decide +kernel
theorem dX9_trace_52 : decode cX9_trace 52 = .ok (.putfield 87, 3) := by decide +kernel
theorem dX9_trace_55 : decode cX9_trace 55 = .ok (.aload_n 0, 1) := by decide +kernel
theorem dX9_trace_56 : decode cX9_trace 56 = .ok (.aload_n 1, 1) := by decide +kernel
theorem dX9_trace_57 : decode cX9_trace 57 = .ok (.aload_n 1, 1) := by decide +kernel
theorem dX9_trace_58 : decode cX9_trace 58 = .ok (.getfield 80, 3) := by decide +kernel
theorem dX9_trace_61 : decode cX9_trace 61 = .ok (.invokevirtual 90, 3) := by decide +kernel
theorem dX9_trace_64 : decode cX9_trace 64 = .ok (.putfield 93, 3) := by decide +kernel
theorem dX9_trace_67 : decode cX9_trace 67 = .ok (.aload_n 0, 1) := by decide +kernel
theorem dX9_trace_68 : decode cX9_trace 68 = .ok (.getfield 9, 3) := by decide +kernel
theorem dX9_trace_71 : decode cX9_trace 71 = .ok (.iconst 0, 1) := by decide +kernel
theorem dX9_trace_72 : decode cX9_trace 72 = .ok (.aload_n 1, 1) := by decide +kernel
theorem dX9_trace_73 : decode cX9_trace 73 = .ok (.getfield 95, 3) := by decide +kernel
theorem dX9_trace_76 : decode cX9_trace 76 = .ok (.iastore, 1) := by decide +kernel
theorem dX9_trace_77 : decode cX9_trace 77 = .ok (.aload_n 0, 1) := by decide +kernel
theorem dX9_trace_78 : decode cX9_trace 78 = .ok (.getfield 15, 3) := by decide +kernel
theorem dX9_trace_81 : decode cX9_trace 81 = .ok (.iconst 0, 1) := by decide +kernel
theorem dX9_trace_82 : decode cX9_trace 82 = .ok (.lconst 0, 1) := by decide +kernel
theorem dX9_trace_83 : decode cX9_trace 83 = .ok (.lastore, 1) := by decide +kernel
theorem dX9_trace_84 : decode cX9_trace 84 = .ok (.aload_n 0, 1) := by decide +kernel
theorem dX9_trace_85 : decode cX9_trace 85 = .ok (.getfield 19, 3) := by decide +kernel
theorem dX9_trace_88 : decode cX9_trace 88 = .ok (.iconst 0, 1) := by decide +kernel
theorem dX9_trace_89 : decode cX9_trace 89 = .ok (.lconst 0, 1) := by decide +kernel
theorem dX9_trace_90 : decode cX9_trace 90 = .ok (.lastore, 1) := by decide +kernel
theorem dX9_trace_91 : decode cX9_trace 91 = .ok (.iconst 0, 1) := by decide +kernel
theorem dX9_trace_92 : decode cX9_trace 92 = .ok (.istore_n 2, 1) := by decide +kernel
theorem dX9_trace_93 : decode cX9_trace 93 = .ok (.iload_n 2, 1) := by decide +kernel
theorem dX9_trace_94 : decode cX9_trace 94 = .ok (.aload_n 0, 1) := by decide +kernel
theorem dX9_trace_95 : decode cX9_trace 95 = .ok (.getfield 44, 3) := by decide +kernel
theorem dX9_trace_98 : decode cX9_trace 98 = .ok (.if_icmp .ge 139, 3) := by decide +kernel
theorem dX9_trace_101 : decode cX9_trace 101 = .ok (.iload_n 2, 1) := by decide +kernel
theorem dX9_trace_102 : decode cX9_trace 102 = .ok (.bipush 120, 2) := by decide +kernel
theorem dX9_trace_104 : decode cX9_trace 104 = .ok (.if_icmp .ge 133, 3) := by decide +kernel
theorem dX9_trace_107 : decode cX9_trace 107 = .ok (.aload_n 0, 1) := by decide +kernel
theorem dX9_trace_108 : decode cX9_trace 108 = .ok (.getfield 25, 3) := by decide +kernel
theorem dX9_trace_111 : decode cX9_trace 111 = .ok (.aload_n 0, 1) := by decide +kernel
theorem dX9_trace_112 : decode cX9_trace 112 = .ok (.getfield 9, 3) := by decide +kernel
theorem dX9_trace_115 : decode cX9_trace 115 = .ok (.iload_n 2, 1) := by decide +kernel
theorem dX9_trace_116 : decode cX9_trace 116 = .ok (.iaload, 1) := by decide +kernel
theorem dX9_trace_117 : decode cX9_trace 117 = .ok (.aload_n 1, 1) := by decide +kernel
theorem dX9_trace_118 : decode cX9_trace 118 = .ok (.iload_n 2, 1) := by decide +kernel
theorem dX9_trace_119 : decode cX9_trace 119 = .ok (.invokevirtual 98, 3) := by decide +kernel
theorem dX9_trace_122 : decode cX9_trace 122 = .ok (.invokevirtual 102, 3) := by decide +kernel
theorem dX9_trace_125 : decode cX9_trace 125 = .ok (.istore_n 3, 1) := by decide +kernel
theorem dX9_trace_126 : decode cX9_trace 126 = .ok (.iload_n 3, 1) := by decide +kernel
theorem dX9_trace_127 : decode cX9_trace 127 = .ok (.iconst (-1), 1) := by decide +kernel
theorem dX9_trace_128 : decode cX9_trace 128 = .ok (.if_icmp .ne 7, 3) := by decide +kernel
theorem dX9_trace_131 : decode cX9_trace 131 = .ok (.lconst 0, 1) := by decide +kernel
theorem dX9_trace_132 : decode cX9_trace 132 = .ok (.goto 6, 3) := by decide +kernel
theorem dX9_trace_135 : decode cX9_trace 135 = .ok (.lconst 1, 1) := by decide +kernel
theorem dX9_trace_136 : decode cX9_trace 136 = .ok (.iload_n 3, 1) := by decide +kernel
theorem dX9_trace_137 : decode cX9_trace 137 = .ok (.lshl, 1) := by decide +kernel
theorem dX9_trace_138 : decode cX9_trace 138 = .ok (.lstore 4, 2) := by decide +kernel
theorem dX9_trace_140 : decode cX9_trace 140 = .ok (.aload_n 0, 1) := by decide +kernel
theorem dX9_trace_141 : decode cX9_trace 141 = .ok (.iload_n 2, 1) := by decide +kernel
theorem dX9_trace_142 : decode cX9_trace 142 = .ok (.invokevirtual 107, 3) := by decide +kernel
theorem dX9_trace_145 : decode cX9_trace 145 = .ok (.istore 6, 2) := by decide +kernel
theorem dX9_trace_147 : decode cX9_trace 147 = .ok (.aload_n 0, 1) := by decide +kernel
theorem dX9_trace_148 : decode cX9_trace 148 = .ok (.getfield 15, 3) := by decide +kernel
theorem dX9_trace_151 : decode cX9_trace 151 = .ok (.iload_n 2, 1) := by decide +kernel
theorem dX9_trace_152 : decode cX9_trace 152 = .ok (.iconst 1, 1) := by decide +kernel
theorem dX9_trace_153 : decode cX9_trace 153 = .ok (.iadd, 1) := by decide +kernel
theorem dX9_trace_154 : decode cX9_trace 154 = .ok (.iload 6, 2) := by decide +kernel
theorem dX9_trace_156 : decode cX9_trace 156 = .ok (.ifCond .eq 15, 3) := by decide +kernel
theorem dX9_trace_159 : decode cX9_trace 159 = .ok (.aload_n 0, 1) := by decide +kernel
theorem dX9_trace_160 : decode cX9_trace 160 = .ok (.getfield 15, 3) := by decide +kernel
theorem dX9_trace_163 : decode cX9_trace 163 = .ok (.iload_n 2, 1) := by decide +kernel
theorem dX9_trace_164 : decode cX9_trace 164 = .ok (.laload, 1) := by decide +kernel
theorem dX9_trace_165 : decode cX9_trace 165 = .ok (.lload 4, 2) := by decide +kernel
theorem dX9_trace_167 : decode cX9_trace 167 = .ok (.lor, 1) := by decide +kernel
theorem dX9_trace_168 : decode cX9_trace 168 = .ok (.goto 9, 3) := by decide +kernel
theorem dX9_trace_171 : decode cX9_trace 171 = .ok (.aload_n 0, 1) := by decide +kernel
theorem dX9_trace_172 : decode cX9_trace 172 = .ok (.getfield 15, 3) := by decide +kernel
theorem dX9_trace_175 : decode cX9_trace 175 = .ok (.iload_n 2, 1) := by decide +kernel
theorem dX9_trace_176 : decode cX9_trace 176 = .ok (.laload, 1) := by decide +kernel
theorem dX9_trace_177 : decode cX9_trace 177 = .ok (.lastore, 1) := by decide +kernel
theorem dX9_trace_178 : decode cX9_trace 178 = .ok (.aload_n 0, 1) := by decide +kernel
theorem dX9_trace_179 : decode cX9_trace 179 = .ok (.getfield 19, 3) := by decide +kernel
theorem dX9_trace_182 : decode cX9_trace 182 = .ok (.iload_n 2, 1) := by decide +kernel
theorem dX9_trace_183 : decode cX9_trace 183 = .ok (.iconst 1, 1) := by decide +kernel
theorem dX9_trace_184 : decode cX9_trace 184 = .ok (.iadd, 1) := by decide +kernel
theorem dX9_trace_185 : decode cX9_trace 185 = .ok (.iload 6, 2) := by decide +kernel
theorem dX9_trace_187 : decode cX9_trace 187 = .ok (.ifCond .eq 12, 3) := by decide +kernel
theorem dX9_trace_190 : decode cX9_trace 190 = .ok (.aload_n 0, 1) := by decide +kernel
theorem dX9_trace_191 : decode cX9_trace 191 = .ok (.getfield 19, 3) := by decide +kernel
theorem dX9_trace_194 : decode cX9_trace 194 = .ok (.iload_n 2, 1) := by decide +kernel
theorem dX9_trace_195 : decode cX9_trace 195 = .ok (.laload, 1) := by decide +kernel
theorem dX9_trace_196 : decode cX9_trace 196 = .ok (.goto 12, 3) := by decide +kernel
theorem dX9_trace_199 : decode cX9_trace 199 = .ok (.aload_n 0, 1) := by decide +kernel
theorem dX9_trace_200 : decode cX9_trace 200 = .ok (.getfield 19, 3) := by decide +kernel
theorem dX9_trace_203 : decode cX9_trace 203 = .ok (.iload_n 2, 1) := by decide +kernel
theorem dX9_trace_204 : decode cX9_trace 204 = .ok (.laload, 1) := by decide +kernel
theorem dX9_trace_205 : decode cX9_trace 205 = .ok (.lload 4, 2) := by decide +kernel
theorem dX9_trace_207 : decode cX9_trace 207 = .ok (.lor, 1) := by decide +kernel
theorem dX9_trace_208 : decode cX9_trace 208 = .ok (.lastore, 1) := by decide +kernel
theorem dX9_trace_209 : decode cX9_trace 209 = .ok (.aload_n 0, 1) := by decide +kernel
theorem dX9_trace_210 : decode cX9_trace 210 = .ok (.getfield 9, 3) := by decide +kernel
theorem dX9_trace_213 : decode cX9_trace 213 = .ok (.iload_n 2, 1) := by decide +kernel
theorem dX9_trace_214 : decode cX9_trace 214 = .ok (.iconst 1, 1) := by decide +kernel
theorem dX9_trace_215 : decode cX9_trace 215 = .ok (.iadd, 1) := by decide +kernel
theorem dX9_trace_216 : decode cX9_trace 216 = .ok (.aload_n 0, 1) := by decide +kernel
theorem dX9_trace_217 : decode cX9_trace 217 = .ok (.getfield 25, 3) := by decide +kernel
theorem dX9_trace_220 : decode cX9_trace 220 = .ok (.iload_n 3, 1) := by decide +kernel
theorem dX9_trace_221 : decode cX9_trace 221 = .ok (.aload_n 0, 1) := by decide +kernel
theorem dX9_trace_222 : decode cX9_trace 222 = .ok (.getfield 9, 3) := by decide +kernel
theorem dX9_trace_225 : decode cX9_trace 225 = .ok (.iload_n 2, 1) := by decide +kernel
theorem dX9_trace_226 : decode cX9_trace 226 = .ok (.iaload, 1) := by decide +kernel
theorem dX9_trace_227 : decode cX9_trace 227 = .ok (.invokevirtual 111, 3) := by decide +kernel
theorem dX9_trace_230 : decode cX9_trace 230 = .ok (.iastore, 1) := by decide +kernel
theorem dX9_trace_231 : decode cX9_trace 231 = .ok (.iinc 2 1, 3) := by decide +kernel
theorem dX9_trace_234 : decode cX9_trace 234 = .ok (.goto (-141), 3) := by decide +kernel
theorem dX9_trace_237 : decode cX9_trace 237 = .ok (.return_, 1) := by decide +kernel
theorem dX9_goesOver_0 : decode cX9_goesOver 0 = .ok (.aload_n 0, 1) := by decide +kernel
theorem dX9_goesOver_1 : decode cX9_goesOver 1 = .ok (.getfield 76, 3) := by decide +kernel
theorem dX9_goesOver_4 : decode cX9_goesOver 4 = .ok (.iload_n 1, 1) := by decide +kernel
theorem dX9_goesOver_5 : decode cX9_goesOver 5 = .ok (.iconst 1, 1) := by decide +kernel
theorem dX9_goesOver_6 : decode cX9_goesOver 6 = .ok (.iand, 1) := by decide +kernel
theorem dX9_goesOver_7 : decode cX9_goesOver 7 = .ok (.ifCond .ne 7, 3) := by decide +kernel
theorem dX9_goesOver_10 : decode cX9_goesOver 10 = .ok (.iconst 1, 1) := by decide +kernel
theorem dX9_goesOver_11 : decode cX9_goesOver 11 = .ok (.goto 4, 3) := by decide +kernel
theorem dX9_goesOver_14 : decode cX9_goesOver 14 = .ok (.iconst 0, 1) := by decide +kernel
theorem dX9_goesOver_15 : decode cX9_goesOver 15 = .ok (.if_icmp .ne 7, 3) := by decide +kernel
theorem dX9_goesOver_18 : decode cX9_goesOver 18 = .ok (.iconst 1, 1) := by decide +kernel
theorem dX9_goesOver_19 : decode cX9_goesOver 19 = .ok (.goto 4, 3) := by decide +kernel
theorem dX9_goesOver_22 : decode cX9_goesOver 22 = .ok (.iconst 0, 1) := by decide +kernel
theorem dX9_goesOver_23 : decode cX9_goesOver 23 = .ok (.ireturn, 1) := by decide +kernel
theorem dX9_put_0 : decode cX9_put 0 = .ok (.aload_n 0, 1) := by decide +kernel
theorem dX9_put_1 : decode cX9_put 1 = .ok (.getfield 44, 3) := by decide +kernel
theorem dX9_put_4 : decode cX9_put 4 = .ok (.iload_n 2, 1) := by decide +kernel
theorem dX9_put_5 : decode cX9_put 5 = .ok (.isub, 1) := by decide +kernel
theorem dX9_put_6 : decode cX9_put 6 = .ok (.istore_n 3, 1) := by decide +kernel
theorem dX9_put_7 : decode cX9_put 7 = .ok (.iload_n 1, 1) := by decide +kernel
theorem dX9_put_8 : decode cX9_put 8 = .ok (.ifCond .lt 33, 3) := by decide +kernel
theorem dX9_put_11 : decode cX9_put 11 = .ok (.iload_n 2, 1) := by decide +kernel
theorem dX9_put_12 : decode cX9_put 12 = .ok (.ifCond .lt 29, 3) := by decide +kernel
theorem dX9_put_15 : decode cX9_put 15 = .ok (.iload_n 1, 1) := by decide +kernel
theorem dX9_put_16 : decode cX9_put 16 = .ok (.iload_n 3, 1) := by decide +kernel
theorem dX9_put_17 : decode cX9_put 17 = .ok (.if_icmp .gt 24, 3) := by decide +kernel
theorem dX9_put_20 : decode cX9_put 20 = .ok (.iload_n 3, 1) := by decide +kernel
theorem dX9_put_21 : decode cX9_put 21 = .ok (.aload_n 0, 1) := by decide +kernel
theorem dX9_put_22 : decode cX9_put 22 = .ok (.getfield 9, 3) := by decide +kernel
theorem dX9_put_25 : decode cX9_put 25 = .ok (.arraylength, 1) := by decide +kernel
theorem dX9_put_26 : decode cX9_put 26 = .ok (.if_icmp .ge 15, 3) := by decide +kernel
theorem dX9_put_29 : decode cX9_put 29 = .ok (.aload_n 0, 1) := by decide +kernel
theorem dX9_put_30 : decode cX9_put 30 = .ok (.getfield 44, 3) := by decide +kernel
theorem dX9_put_33 : decode cX9_put 33 = .ok (.aload_n 0, 1) := by decide +kernel
theorem dX9_put_34 : decode cX9_put 34 = .ok (.getfield 9, 3) := by decide +kernel
theorem dX9_put_37 : decode cX9_put 37 = .ok (.arraylength, 1) := by decide +kernel
theorem dX9_put_38 : decode cX9_put 38 = .ok (.if_icmp .lt 5, 3) := by decide +kernel
theorem dX9_put_41 : decode cX9_put 41 = .ok (.iconst 0, 1) := by decide +kernel
theorem dX9_put_42 : decode cX9_put 42 = .ok (.ireturn, 1) := by decide +kernel
theorem dX9_put_43 : decode cX9_put 43 = .ok (.aload_n 0, 1) := by decide +kernel
theorem dX9_put_44 : decode cX9_put 44 = .ok (.getfield 15, 3) := by decide +kernel
theorem dX9_put_47 : decode cX9_put 47 = .ok (.iload_n 1, 1) := by decide +kernel
theorem dX9_put_48 : decode cX9_put 48 = .ok (.laload, 1) := by decide +kernel
theorem dX9_put_49 : decode cX9_put 49 = .ok (.aload_n 0, 1) := by decide +kernel
theorem dX9_put_50 : decode cX9_put 50 = .ok (.getfield 15, 3) := by decide +kernel
theorem dX9_put_53 : decode cX9_put 53 = .ok (.aload_n 0, 1) := by decide +kernel
theorem dX9_put_54 : decode cX9_put 54 = .ok (.getfield 44, 3) := by decide +kernel
theorem dX9_put_57 : decode cX9_put 57 = .ok (.laload, 1) := by decide +kernel
theorem dX9_put_58 : decode cX9_put 58 = .ok (.aload_n 0, 1) := by decide +kernel
theorem dX9_put_59 : decode cX9_put 59 = .ok (.getfield 15, 3) := by decide +kernel
theorem dX9_put_62 : decode cX9_put 62 = .ok (.iload_n 3, 1) := by decide +kernel
theorem dX9_put_63 : decode cX9_put 63 = .ok (.laload, 1) := by decide +kernel
theorem dX9_put_64 : decode cX9_put 64 = .ok (.lxor, 1) := by decide +kernel
theorem dX9_put_65 : decode cX9_put 65 = .ok (.lor, 1) := by decide +kernel
theorem dX9_put_66 : decode cX9_put 66 = .ok (.lstore 4, 2) := by decide +kernel
theorem dX9_put_68 : decode cX9_put 68 = .ok (.aload_n 0, 1) := by decide +kernel
theorem dX9_put_69 : decode cX9_put 69 = .ok (.getfield 19, 3) := by decide +kernel
theorem dX9_put_72 : decode cX9_put 72 = .ok (.iload_n 1, 1) := by decide +kernel
theorem dX9_put_73 : decode cX9_put 73 = .ok (.laload, 1) := by decide +kernel
theorem dX9_put_74 : decode cX9_put 74 = .ok (.aload_n 0, 1) := by decide +kernel
theorem dX9_put_75 : decode cX9_put 75 = .ok (.getfield 19, 3) := by decide +kernel
theorem dX9_put_78 : decode cX9_put 78 = .ok (.aload_n 0, 1) := by decide +kernel
theorem dX9_put_79 : decode cX9_put 79 = .ok (.getfield 44, 3) := by decide +kernel
theorem dX9_put_82 : decode cX9_put 82 = .ok (.laload, 1) := by decide +kernel
theorem dX9_put_83 : decode cX9_put 83 = .ok (.aload_n 0, 1) := by decide +kernel
theorem dX9_put_84 : decode cX9_put 84 = .ok (.getfield 19, 3) := by decide +kernel
theorem dX9_put_87 : decode cX9_put 87 = .ok (.iload_n 3, 1) := by decide +kernel
theorem dX9_put_88 : decode cX9_put 88 = .ok (.laload, 1) := by decide +kernel
theorem dX9_put_89 : decode cX9_put 89 = .ok (.lxor, 1) := by decide +kernel
theorem dX9_put_90 : decode cX9_put 90 = .ok (.lor, 1) := by decide +kernel
theorem dX9_put_91 : decode cX9_put 91 = .ok (.lstore 6, 2) := by decide +kernel
theorem dX9_put_93 : decode cX9_put 93 = .ok (.aload_n 0, 1) := by decide +kernel
theorem dX9_put_94 : decode cX9_put 94 = .ok (.getfield 29, 3) := by decide +kernel
theorem dX9_put_97 : decode cX9_put 97 = .ok (.aload_n 0, 1) := by decide +kernel
theorem dX9_put_98 : decode cX9_put 98 = .ok (.getfield 87, 3) := by decide +kernel
theorem dX9_put_101 : decode cX9_put 101 = .ok (.lload 4, 2) := by decide +kernel
theorem dX9_put_103 : decode cX9_put 103 = .ok (.lor, 1) := by decide +kernel
theorem dX9_put_104 : decode cX9_put 104 = .ok (.aload_n 0, 1) := by decide +kernel
theorem dX9_put_105 : decode cX9_put 105 = .ok (.getfield 93, 3) := by decide +kernel
theorem dX9_put_108 : decode cX9_put 108 = .ok (.lload 6, 2) := by decide +kernel
theorem dX9_put_110 : decode cX9_put 110 = .ok (.lor, 1) := by decide +kernel
theorem dX9_put_111 : decode cX9_put 111 = .ok (.aload_n 0, 1) := by decide +kernel
theorem dX9_put_112 : decode cX9_put 112 = .ok (.getfield 9, 3) := by decide +kernel
theorem dX9_put_115 : decode cX9_put 115 = .ok (.iload_n 3, 1) := by decide +kernel
theorem dX9_put_116 : decode cX9_put 116 = .ok (.iaload, 1) := by decide +kernel
theorem dX9_put_117 : decode cX9_put 117 = .ok (.aload_n 0, 1) := by decide +kernel
theorem dX9_put_118 : decode cX9_put 118 = .ok (.iload_n 3, 1) := by decide +kernel
theorem dX9_put_119 : decode cX9_put 119 = .ok (.invokevirtual 107, 3) := by decide +kernel
theorem dX9_put_122 : decode cX9_put 122 = .ok (.invokevirtual 114, 3) := by decide +kernel
theorem dX9_put_125 : decode cX9_put 125 = .ok (.iconst 1, 1) := by decide +kernel
theorem dX9_put_126 : decode cX9_put 126 = .ok (.ireturn, 1) := by decide +kernel
theorem dX10_init_0 : decode cX10_init 0 = .ok (.aload_n 0, 1) := by decide +kernel
theorem dX10_init_1 : decode cX10_init 1 = .ok (.invokespecial 1, 3) := by decide +kernel
theorem dX10_init_4 : decode cX10_init 4 = .ok (.aload_n 0, 1) := by decide +kernel
theorem dX10_init_5 : decode cX10_init 5 = .ok (.iconst 4, 1) := by decide +kernel
theorem dX10_init_6 : decode cX10_init 6 = .ok (.anewarray 9, 3) := by decide +kernel
theorem dX10_init_9 : decode cX10_init 9 = .ok (.putfield 11, 3) := by decide +kernel
theorem dX10_init_12 : decode cX10_init 12 = .ok (.aload_n 0, 1) := by decide +kernel
theorem dX10_init_13 : decode cX10_init 13 = .ok (.iconst 3, 1) := by decide +kernel
theorem dX10_init_14 : decode cX10_init 14 = .ok (.anewarray 15, 3) := by decide +kernel
theorem dX10_init_17 : decode cX10_init 17 = .ok (.putfield 17, 3) := by decide +kernel
theorem dX10_init_20 : decode cX10_init 20 = .ok (.aload_n 0, 1) := by decide +kernel
theorem dX10_init_21 : decode cX10_init 21 = .ok (.iconst (-1), 1) := by decide +kernel
theorem dX10_init_22 : decode cX10_init 22 = .ok (.putfield 21, 3) := by decide +kernel
theorem dX10_init_25 : decode cX10_init 25 = .ok (.aload_n 0, 1) := by decide +kernel
theorem dX10_init_26 : decode cX10_init 26 = .ok (.new 25, 3) := by decide +kernel
theorem dX10_init_29 : decode cX10_init 29 = .ok (.dup, 1) := by decide +kernel
theorem dX10_init_30 : decode cX10_init 30 = .ok (.invokespecial 27, 3) := by decide +kernel
theorem dX10_init_33 : decode cX10_init 33 = .ok (.putfield 28, 3) := by decide +kernel
theorem dX10_init_36 : decode cX10_init 36 = .ok (.aload_n 0, 1) := by decide +kernel
theorem dX10_init_37 : decode cX10_init 37 = .ok (.new 25, 3) := by decide +kernel
theorem dX10_init_40 : decode cX10_init 40 = .ok (.dup, 1) := by decide +kernel
theorem dX10_init_41 : decode cX10_init 41 = .ok (.invokespecial 27, 3) := by decide +kernel
theorem dX10_init_44 : decode cX10_init 44 = .ok (.putfield 32, 3) := by decide +kernel
theorem dX10_init_47 : decode cX10_init 47 = .ok (.new 35, 3) := by decide +kernel
theorem dX10_init_50 : decode cX10_init 50 = .ok (.dup, 1) := by decide +kernel
theorem dX10_init_51 : decode cX10_init 51 = .ok (.invokespecial 37, 3) := by decide +kernel
theorem dX10_init_54 : decode cX10_init 54 = .ok (.astore_n 1, 1) := by decide +kernel
theorem dX10_init_55 : decode cX10_init 55 = .ok (.aload_n 0, 1) := by decide +kernel
theorem dX10_init_56 : decode cX10_init 56 = .ok (.new 38, 3) := by decide +kernel
theorem dX10_init_59 : decode cX10_init 59 = .ok (.dup, 1) := by decide +kernel
theorem dX10_init_60 : decode cX10_init 60 = .ok (.aload_n 1, 1) := by decide +kernel
theorem dX10_init_61 : decode cX10_init 61 = .ok (.invokespecial 40, 3) := by decide +kernel
theorem dX10_init_64 : decode cX10_init 64 = .ok (.putfield 43, 3) := by decide +kernel
theorem dX10_init_67 : decode cX10_init 67 = .ok (.aload_n 0, 1) := by decide +kernel
theorem dX10_init_68 : decode cX10_init 68 = .ok (.new 47, 3) := by decide +kernel
theorem dX10_init_71 : decode cX10_init 71 = .ok (.dup, 1) := by decide +kernel
theorem dX10_init_72 : decode cX10_init 72 = .ok (.aload_n 1, 1) := by decide +kernel
theorem dX10_init_73 : decode cX10_init 73 = .ok (.aload_n 0, 1) := by decide +kernel
theorem dX10_init_74 : decode cX10_init 74 = .ok (.getfield 32, 3) := by decide +kernel
theorem dX10_init_77 : decode cX10_init 77 = .ok (.invokespecial 49, 3) := by decide +kernel
theorem dX10_init_80 : decode cX10_init 80 = .ok (.putfield 52, 3) := by decide +kernel
theorem dX10_init_83 : decode cX10_init 83 = .ok (.aload_n 0, 1) := by decide +kernel
theorem dX10_init_84 : decode cX10_init 84 = .ok (.new 56, 3) := by decide +kernel
theorem dX10_init_87 : decode cX10_init 87 = .ok (.dup, 1) := by decide +kernel
theorem dX10_init_88 : decode cX10_init 88 = .ok (.aload_n 0, 1) := by decide +kernel
theorem dX10_init_89 : decode cX10_init 89 = .ok (.getfield 28, 3) := by decide +kernel
theorem dX10_init_92 : decode cX10_init 92 = .ok (.invokespecial 58, 3) := by decide +kernel
theorem dX10_init_95 : decode cX10_init 95 = .ok (.putfield 61, 3) := by decide +kernel
theorem dX10_init_98 : decode cX10_init 98 = .ok (.aload_n 0, 1) := by decide +kernel
theorem dX10_init_99 : decode cX10_init 99 = .ok (.new 56, 3) := by decide +kernel
theorem dX10_init_102 : decode cX10_init 102 = .ok (.dup, 1) := by decide +kernel
theorem dX10_init_103 : decode cX10_init 103 = .ok (.aload_n 0, 1) := by decide +kernel
theorem dX10_init_104 : decode cX10_init 104 = .ok (.getfield 28, 3) := by decide +kernel
theorem dX10_init_107 : decode cX10_init 107 = .ok (.invokespecial 58, 3) := by decide +kernel
theorem dX10_init_110 : decode cX10_init 110 = .ok (.putfield 65, 3) := by decide +kernel
theorem dX10_init_113 : decode cX10_init 113 = .ok (.aload_n 0, 1) := by decide +kernel
theorem dX10_init_114 : decode cX10_init 114 = .ok (.new 68, 3) := by decide +kernel
theorem dX10_init_117 : decode cX10_init 117 = .ok (.dup, 1) := by decide +kernel
theorem dX10_init_118 : decode cX10_init 118 = .ok (.aload_n 0, 1) := by decide +kernel
theorem dX10_init_119 : decode cX10_init 119 = .ok (.getfield 28, 3) := by decide +kernel
theorem dX10_init_122 : decode cX10_init 122 = .ok (.invokespecial 70, 3) := by decide +kernel
theorem dX10_init_125 : decode cX10_init 125 = .ok (.putfield 71, 3) := by decide +kernel
theorem dX10_init_128 : decode cX10_init 128 = .ok (.aload_n 0, 1) := by decide +kernel
theorem dX10_init_129 : decode cX10_init 129 = .ok (.new 75, 3) := by decide +kernel
theorem dX10_init_132 : decode cX10_init 132 = .ok (.dup, 1) := by decide +kernel
theorem dX10_init_133 : decode cX10_init 133 = .ok (.aload_n 0, 1) := by decide +kernel
theorem dX10_init_134 : decode cX10_init 134 = .ok (.getfield 28, 3) := by decide +kernel
theorem dX10_init_137 : decode cX10_init 137 = .ok (.aload_n 0, 1) := by decide +kernel
theorem dX10_init_138 : decode cX10_init 138 = .ok (.getfield 71, 3) := by decide +kernel
theorem dX10_init_141 : decode cX10_init 141 = .ok (.invokespecial 77, 3) := by decide +kernel
theorem dX10_init_144 : decode cX10_init 144 = .ok (.putfield 80, 3) := by decide +kernel
theorem dX10_init_147 : decode cX10_init 147 = .ok (.aload_n 0, 1) := by decide +kernel
theorem dX10_init_148 : decode cX10_init 148 = .ok (.new 84, 3) := by decide +kernel
theorem dX10_init_151 : decode cX10_init 151 = .ok (.dup, 1) := by decide +kernel
theorem dX10_init_152 : decode cX10_init 152 = .ok (.aload_n 0, 1) := by decide +kernel
theorem dX10_init_153 : decode cX10_init 153 = .ok (.getfield 28, 3) := by decide +kernel
theorem dX10_init_156 : decode cX10_init 156 = .ok (.invokespecial 86, 3) := by decide +kernel
theorem dX10_init_159 : decode cX10_init 159 = .ok (.putfield 87, 3) := by decide +kernel
theorem dX10_init_162 : decode cX10_init 162 = .ok (.iconst 0, 1) := by decide +kernel
theorem dX10_init_163 : decode cX10_init 163 = .ok (.istore_n 2, 1) := by decide +kernel
theorem dX10_init_164 : decode cX10_init 164 = .ok (.iload_n 2, 1) := by decide +kernel
theorem dX10_init_165 : decode cX10_init 165 = .ok (.aload_n 0, 1) := by decide +kernel
theorem dX10_init_166 : decode cX10_init 166 = .ok (.getfield 11, 3) := by decide +kernel
theorem dX10_init_169 : decode cX10_init 169 = .ok (.arraylength, 1) := by decide +kernel
theorem dX10_init_170 : decode cX10_init 170 = .ok (.if_icmp .ge 22, 3) := by decide +kernel
theorem dX10_init_173 : decode cX10_init 173 = .ok (.aload_n 0, 1) := by decide +kernel
theorem dX10_init_174 : decode cX10_init 174 = .ok (.getfield 11, 3) := by decide +kernel
theorem dX10_init_177 : decode cX10_init 177 = .ok (.iload_n 2, 1) := by decide +kernel
theorem dX10_init_178 : decode cX10_init 178 = .ok (.new 9, 3) := by decide +kernel
theorem dX10_init_181 : decode cX10_init 181 = .ok (.dup, 1) := by decide +kernel
theorem dX10_init_182 : decode cX10_init 182 = .ok (.invokespecial 91, 3) := by decide +kernel
theorem dX10_init_185 : decode cX10_init 185 = .ok (.aastore, 1) := by decide +kernel
theorem dX10_init_186 : decode cX10_init 186 = .ok (.iinc 2 1, 3) := by decide +kernel
theorem dX10_init_189 : decode cX10_init 189 = .ok (.goto (-25), 3) := by decide +kernel
theorem dX10_init_192 : decode cX10_init 192 = .ok (.iconst 0, 1) := by decide +kernel
theorem dX10_init_193 : decode cX10_init 193 = .ok (.istore_n 2, 1) := by decide +kernel
theorem dX10_init_194 : decode cX10_init 194 = .ok (.iload_n 2, 1) := by decide +kernel
theorem dX10_init_195 : decode cX10_init 195 = .ok (.aload_n 0, 1) := by decide +kernel
theorem dX10_init_196 : decode cX10_init 196 = .ok (.getfield 17, 3) := by decide +kernel
theorem dX10_init_199 : decode cX10_init 199 = .ok (.arraylength, 1) := by decide +kernel
theorem dX10_init_200 : decode cX10_init 200 = .ok (.if_icmp .ge 22, 3) := by decide +kernel
theorem dX10_init_203 : decode cX10_init 203 = .ok (.aload_n 0, 1) := by decide +kernel
theorem dX10_init_204 : decode cX10_init 204 = .ok (.getfield 17, 3) := by decide +kernel
theorem dX10_init_207 : decode cX10_init 207 = .ok (.iload_n 2, 1) := by decide +kernel
theorem dX10_init_208 : decode cX10_init 208 = .ok (.new 15, 3) := by decide +kernel
theorem dX10_init_211 : decode cX10_init 211 = .ok (.dup, 1) := by decide +kernel
theorem dX10_init_212 : decode cX10_init 212 = .ok (.invokespecial 92, 3) := by decide +kernel
theorem dX10_init_215 : decode cX10_init 215 = .ok (.aastore, 1) := by decide +kernel
theorem dX10_init_216 : decode cX10_init 216 = .ok (.iinc 2 1, 3) := by decide +kernel
theorem dX10_init_219 : decode cX10_init 219 = .ok (.goto (-25), 3) := by decide +kernel
theorem dX10_init_222 : decode cX10_init 222 = .ok (.return_, 1) := by decide +kernel
theorem dX10_feed_0 : decode cX10_feed 0 = .ok (.aload_n 0, 1) := by decide +kernel
theorem dX10_feed_1 : decode cX10_feed 1 = .ok (.getfield 43, 3) := by decide +kernel
theorem dX10_feed_4 : decode cX10_feed 4 = .ok (.getfield 93, 3) := by decide +kernel
theorem dX10_feed_7 : decode cX10_feed 7 = .ok (.sipush 680, 3) := by decide +kernel
theorem dX10_feed_10 : decode cX10_feed 10 = .ok (.if_icmp .le 5, 3) := by decide +kernel
theorem dX10_feed_13 : decode cX10_feed 13 = .ok (.iconst (-1), 1) := by decide +kernel
theorem dX10_feed_14 : decode cX10_feed 14 = .ok (.ireturn, 1) := by decide +kernel
theorem dX10_feed_15 : decode cX10_feed 15 = .ok (.aload_n 0, 1) := by decide +kernel
theorem dX10_feed_16 : decode cX10_feed 16 = .ok (.getfield 43, 3) := by decide +kernel
theorem dX10_feed_19 : decode cX10_feed 19 = .ok (.iload_n 1, 1) := by decide +kernel
theorem dX10_feed_20 : decode cX10_feed 20 = .ok (.invokevirtual 96, 3) := by decide +kernel
theorem dX10_feed_23 : decode cX10_feed 23 = .ok (.aload_n 0, 1) := by decide +kernel
theorem dX10_feed_24 : decode cX10_feed 24 = .ok (.getfield 43, 3) := by decide +kernel
theorem dX10_feed_27 : decode cX10_feed 27 = .ok (.iload_n 2, 1) := by decide +kernel
theorem dX10_feed_28 : decode cX10_feed 28 = .ok (.invokevirtual 96, 3) := by decide +kernel
theorem dX10_feed_31 : decode cX10_feed 31 = .ok (.aload_n 0, 1) := by decide +kernel
theorem dX10_feed_32 : decode cX10_feed 32 = .ok (.getfield 43, 3) := by decide +kernel
theorem dX10_feed_35 : decode cX10_feed 35 = .ok (.iload_n 3, 1) := by decide +kernel
theorem dX10_feed_36 : decode cX10_feed 36 = .ok (.invokevirtual 96, 3) := by decide +kernel
theorem dX10_feed_39 : decode cX10_feed 39 = .ok (.aload_n 0, 1) := by decide +kernel
theorem dX10_feed_40 : decode cX10_feed 40 = .ok (.getfield 43, 3) := by decide +kernel
theorem dX10_feed_43 : decode cX10_feed 43 = .ok (.iload 4, 2) := by decide +kernel
theorem dX10_feed_45 : decode cX10_feed 45 = .ok (.invokevirtual 96, 3) := by decide +kernel
theorem dX10_feed_48 : decode cX10_feed 48 = .ok (.aload_n 0, 1) := by decide +kernel
theorem dX10_feed_49 : decode cX10_feed 49 = .ok (.getfield 43, 3) := by decide +kernel
theorem dX10_feed_52 : decode cX10_feed 52 = .ok (.iload 5, 2) := by decide +kernel
theorem dX10_feed_54 : decode cX10_feed 54 = .ok (.invokevirtual 96, 3) := by decide +kernel
theorem dX10_feed_57 : decode cX10_feed 57 = .ok (.aload_n 0, 1) := by decide +kernel
theorem dX10_feed_58 : decode cX10_feed 58 = .ok (.getfield 43, 3) := by decide +kernel
theorem dX10_feed_61 : decode cX10_feed 61 = .ok (.getfield 93, 3) := by decide +kernel
theorem dX10_feed_64 : decode cX10_feed 64 = .ok (.ireturn, 1) := by decide +kernel
theorem dX10_drawing_0 : decode cX10_drawing 0 = .ok (.iload_n 1, 1) := by decide +kernel
theorem dX10_drawing_1 : decode cX10_drawing 1 = .ok (.ifCond .lt 14, 3) := by decide +kernel
theorem dX10_drawing_4 : decode cX10_drawing 4 = .ok (.iload_n 1, 1) := by decide +kernel
theorem dX10_drawing_5 : decode cX10_drawing 5 = .ok (.aload_n 0, 1) := by decide +kernel
theorem dX10_drawing_6 : decode cX10_drawing 6 = .ok (.getfield 43, 3) := by decide +kernel
theorem dX10_drawing_9 : decode cX10_drawing 9 = .ok (.getfield 93, 3) := by decide +kernel
theorem dX10_drawing_12 : decode cX10_drawing 12 = .ok (.if_icmp .le 13, 3) := by decide +kernel
theorem dX10_drawing_15 : decode cX10_drawing 15 = .ok (.new 100, 3) := by decide +kernel
theorem dX10_drawing_18 : decode cX10_drawing 18 = .ok (.dup, 1) := by decide +kernel
theorem dX10_drawing_19 : decode cX10_drawing 19 = .ok (.ldc 102, 2) := by decide +kernel
theorem dX10_drawing_21 : decode cX10_drawing 21 = .ok (.invokespecial 104, 3) := by decide +kernel
theorem dX10_drawing_24 : decode cX10_drawing 24 = .ok (.athrow, 1) := by decide +kernel
theorem dX10_drawing_25 : decode cX10_drawing 25 = .ok (.aload_n 0, 1) := by decide +kernel
theorem dX10_drawing_26 : decode cX10_drawing 26 = .ok (.getfield 43, 3) := by decide +kernel
theorem dX10_drawing_29 : decode cX10_drawing 29 = .ok (.iload_n 1, 1) := by decide +kernel
theorem dX10_drawing_30 : decode cX10_drawing 30 = .ok (.invokevirtual 107, 3) := by decide +kernel
theorem dX10_drawing_33 : decode cX10_drawing 33 = .ok (.aload_n 0, 1) := by decide +kernel
theorem dX10_drawing_34 : decode cX10_drawing 34 = .ok (.aload_n 0, 1) := by decide +kernel
theorem dX10_drawing_35 : decode cX10_drawing 35 = .ok (.getfield 43, 3) := by decide +kernel
theorem dX10_drawing_38 : decode cX10_drawing 38 = .ok (.getfield 110, 3) := by decide +kernel
theorem dX10_drawing_41 : decode cX10_drawing 41 = .ok (.putfield 113, 3) := by decide +kernel
theorem dX10_drawing_44 : decode cX10_drawing 44 = .ok (.aload_n 0, 1) := by decide +kernel
theorem dX10_drawing_45 : decode cX10_drawing 45 = .ok (.aload_n 0, 1) := by decide +kernel
theorem dX10_drawing_46 : decode cX10_drawing 46 = .ok (.getfield 43, 3) := by decide +kernel
theorem dX10_drawing_49 : decode cX10_drawing 49 = .ok (.getfield 114, 3) := by decide +kernel
theorem dX10_drawing_52 : decode cX10_drawing 52 = .ok (.putfield 21, 3) := by decide +kernel
theorem dX10_drawing_55 : decode cX10_drawing 55 = .ok (.aload_n 0, 1) := by decide +kernel
theorem dX10_drawing_56 : decode cX10_drawing 56 = .ok (.getfield 113, 3) := by decide +kernel
theorem dX10_drawing_59 : decode cX10_drawing 59 = .ok (.ifCond .ne 32, 3) := by decide +kernel
theorem dX10_drawing_62 : decode cX10_drawing 62 = .ok (.aload_n 0, 1) := by decide +kernel
theorem dX10_drawing_63 : decode cX10_drawing 63 = .ok (.getfield 52, 3) := by decide +kernel
theorem dX10_drawing_66 : decode cX10_drawing 66 = .ok (.invokevirtual 115, 3) := by decide +kernel
theorem dX10_drawing_69 : decode cX10_drawing 69 = .ok (.aload_n 0, 1) := by decide +kernel
theorem dX10_drawing_70 : decode cX10_drawing 70 = .ok (.aload_n 0, 1) := by decide +kernel
theorem dX10_drawing_71 : decode cX10_drawing 71 = .ok (.getfield 52, 3) := by decide +kernel
theorem dX10_drawing_74 : decode cX10_drawing 74 = .ok (.getfield 118, 3) := by decide +kernel
theorem dX10_drawing_77 : decode cX10_drawing 77 = .ok (.putfield 113, 3) := by decide +kernel
theorem dX10_drawing_80 : decode cX10_drawing 80 = .ok (.aload_n 0, 1) := by decide +kernel
theorem dX10_drawing_81 : decode cX10_drawing 81 = .ok (.aload_n 0, 1) := by decide +kernel
theorem dX10_drawing_82 : decode cX10_drawing 82 = .ok (.getfield 52, 3) := by decide +kernel
theorem dX10_drawing_85 : decode cX10_drawing 85 = .ok (.getfield 119, 3) := by decide +kernel
theorem dX10_drawing_88 : decode cX10_drawing 88 = .ok (.putfield 21, 3) := by decide +kernel
theorem dX10_drawing_91 : decode cX10_drawing 91 = .ok (.aload_n 0, 1) := by decide +kernel
theorem dX10_drawing_92 : decode cX10_drawing 92 = .ok (.getfield 113, 3) := by decide +kernel
theorem dX10_drawing_95 : decode cX10_drawing 95 = .ok (.ifCond .eq 11, 3) := by decide +kernel
theorem dX10_drawing_98 : decode cX10_drawing 98 = .ok (.bipush (-10), 2) := by decide +kernel
theorem dX10_drawing_100 : decode cX10_drawing 100 = .ok (.aload_n 0, 1) := by decide +kernel
theorem dX10_drawing_101 : decode cX10_drawing 101 = .ok (.getfield 113, 3) := by decide +kernel
theorem dX10_drawing_104 : decode cX10_drawing 104 = .ok (.isub, 1) := by decide +kernel
theorem dX10_drawing_105 : decode cX10_drawing 105 = .ok (.ireturn, 1) := by decide +kernel
theorem dX10_drawing_106 : decode cX10_drawing 106 = .ok (.aload_n 0, 1) := by decide +kernel
theorem dX10_drawing_107 : decode cX10_drawing 107 = .ok (.getfield 28, 3) := by decide +kernel
theorem dX10_drawing_110 : decode cX10_drawing 110 = .ok (.aload_n 0, 1) := by decide +kernel
theorem dX10_drawing_111 : decode cX10_drawing 111 = .ok (.getfield 32, 3) := by decide +kernel
theorem dX10_drawing_114 : decode cX10_drawing 114 = .ok (.invokevirtual 120, 3) := by decide +kernel
theorem dX10_drawing_117 : decode cX10_drawing 117 = .ok (.aload_n 0, 1) := by decide +kernel
theorem dX10_drawing_118 : decode cX10_drawing 118 = .ok (.getfield 61, 3) := by decide +kernel
theorem dX10_drawing_121 : decode cX10_drawing 121 = .ok (.invokevirtual 123, 3) := by decide +kernel
theorem dX10_drawing_124 : decode cX10_drawing 124 = .ok (.aload_n 0, 1) := by decide +kernel
theorem dX10_drawing_125 : decode cX10_drawing 125 = .ok (.getfield 28, 3) := by decide +kernel
theorem dX10_drawing_128 : decode cX10_drawing 128 = .ok (.getfield 126, 3) := by decide +kernel
theorem dX10_drawing_131 : decode cX10_drawing 131 = .ok (.ireturn, 1) := by decide +kernel
theorem dX10_fault_0 : decode cX10_fault 0 = .ok (.iload_n 1, 1) := by decide +kernel
theorem dX10_fault_1 : decode cX10_fault 1 = .ok (.lookupswitch 37 #[(0, 27), (1, 32)], 27) := by decide +kernel
theorem dX10_fault_28 : decode cX10_fault 28 = .ok (.aload_n 0, 1) := by decide +kernel
theorem dX10_fault_29 : decode cX10_fault 29 = .ok (.getfield 113, 3) := by decide +kernel
theorem dX10_fault_32 : decode cX10_fault 32 = .ok (.ireturn, 1) := by decide +kernel
theorem dX10_fault_33 : decode cX10_fault 33 = .ok (.aload_n 0, 1) := by decide +kernel
theorem dX10_fault_34 : decode cX10_fault 34 = .ok (.getfield 21, 3) := by decide +kernel
theorem dX10_fault_37 : decode cX10_fault 37 = .ok (.ireturn, 1) := by decide +kernel
theorem dX10_fault_38 : decode cX10_fault 38 = .ok (.iconst (-1), 1) := by decide +kernel
theorem dX10_fault_39 : decode cX10_fault 39 = .ok (.ireturn, 1) := by decide +kernel
theorem dX10_line_0 : decode cX10_line 0 = .ok (.aload_n 0, 1) := by decide +kernel
theorem dX10_line_1 : decode cX10_line 1 = .ok (.iload_n 1, 1) := by decide +kernel
theorem dX10_line_2 : decode cX10_line 2 = .ok (.invokevirtual 129, 3) := by decide +kernel
theorem dX10_line_5 : decode cX10_line 5 = .ok (.iload_n 2, 1) := by decide +kernel
theorem dX10_line_6 : decode cX10_line 6 = .ok (.tableswitch 66 0 3 #[30, 39, 48, 57], 30) := by decide +kernel
theorem dX10_line_36 : decode cX10_line 36 = .ok (.aload_n 0, 1) := by decide +kernel
theorem dX10_line_37 : decode cX10_line 37 = .ok (.getfield 28, 3) := by decide +kernel
theorem dX10_line_40 : decode cX10_line 40 = .ok (.iload_n 1, 1) := by decide +kernel
theorem dX10_line_41 : decode cX10_line 41 = .ok (.invokevirtual 132, 3) := by decide +kernel
theorem dX10_line_44 : decode cX10_line 44 = .ok (.ireturn, 1) := by decide +kernel
theorem dX10_line_45 : decode cX10_line 45 = .ok (.aload_n 0, 1) := by decide +kernel
theorem dX10_line_46 : decode cX10_line 46 = .ok (.getfield 28, 3) := by decide +kernel
theorem dX10_line_49 : decode cX10_line 49 = .ok (.iload_n 1, 1) := by decide +kernel
theorem dX10_line_50 : decode cX10_line 50 = .ok (.invokevirtual 136, 3) := by decide +kernel
theorem dX10_line_53 : decode cX10_line 53 = .ok (.ireturn, 1) := by decide +kernel
theorem dX10_line_54 : decode cX10_line 54 = .ok (.aload_n 0, 1) := by decide +kernel
theorem dX10_line_55 : decode cX10_line 55 = .ok (.getfield 28, 3) := by decide +kernel
theorem dX10_line_58 : decode cX10_line 58 = .ok (.iload_n 1, 1) := by decide +kernel
theorem dX10_line_59 : decode cX10_line 59 = .ok (.invokevirtual 139, 3) := by decide +kernel
theorem dX10_line_62 : decode cX10_line 62 = .ok (.ireturn, 1) := by decide +kernel
theorem dX10_line_63 : decode cX10_line 63 = .ok (.aload_n 0, 1) := by decide +kernel
theorem dX10_line_64 : decode cX10_line 64 = .ok (.getfield 61, 3) := by decide +kernel
theorem dX10_line_67 : decode cX10_line 67 = .ok (.iload_n 1, 1) := by decide +kernel
theorem dX10_line_68 : decode cX10_line 68 = .ok (.invokevirtual 142, 3) := by decide +kernel
theorem dX10_line_71 : decode cX10_line 71 = .ok (.ireturn, 1) := by decide +kernel
theorem dX10_line_72 : decode cX10_line 72 = .ok (.new 100, 3) := by decide +kernel
theorem dX10_line_75 : decode cX10_line 75 = .ok (.dup, 1) := by decide +kernel
theorem dX10_line_76 : decode cX10_line 76 = .ok (.ldc 145, 2) := by decide +kernel
theorem dX10_line_78 : decode cX10_line 78 = .ok (.invokespecial 104, 3) := by decide +kernel
theorem dX10_line_81 : decode cX10_line 81 = .ok (.athrow, 1) := by decide +kernel
theorem dX10_lineAt_0 : decode cX10_lineAt 0 = .ok (.iload_n 1, 1) := by decide +kernel
theorem dX10_lineAt_1 : decode cX10_lineAt 1 = .ok (.invokestatic 147, 3) := by decide +kernel
theorem dX10_lineAt_4 : decode cX10_lineAt 4 = .ok (.iload_n 2, 1) := by decide +kernel
theorem dX10_lineAt_5 : decode cX10_lineAt 5 = .ok (.invokestatic 150, 3) := by decide +kernel
theorem dX10_lineAt_8 : decode cX10_lineAt 8 = .ok (.aload_n 0, 1) := by decide +kernel
theorem dX10_lineAt_9 : decode cX10_lineAt 9 = .ok (.getfield 28, 3) := by decide +kernel
theorem dX10_lineAt_12 : decode cX10_lineAt 12 = .ok (.iload_n 1, 1) := by decide +kernel
theorem dX10_lineAt_13 : decode cX10_lineAt 13 = .ok (.iload_n 2, 1) := by decide +kernel
theorem dX10_lineAt_14 : decode cX10_lineAt 14 = .ok (.invokevirtual 153, 3) := by decide +kernel
theorem dX10_lineAt_17 : decode cX10_lineAt 17 = .ok (.ireturn, 1) := by decide +kernel
theorem dX10_ends_0 : decode cX10_ends 0 = .ok (.iload_n 1, 1) := by decide +kernel
theorem dX10_ends_1 : decode cX10_ends 1 = .ok (.invokestatic 147, 3) := by decide +kernel
theorem dX10_ends_4 : decode cX10_ends 4 = .ok (.iload_n 2, 1) := by decide +kernel
theorem dX10_ends_5 : decode cX10_ends 5 = .ok (.invokestatic 157, 3) := by decide +kernel
theorem dX10_ends_8 : decode cX10_ends 8 = .ok (.aload_n 0, 1) := by decide +kernel
theorem dX10_ends_9 : decode cX10_ends 9 = .ok (.getfield 28, 3) := by decide +kernel
theorem dX10_ends_12 : decode cX10_ends 12 = .ok (.iload_n 1, 1) := by decide +kernel
theorem dX10_ends_13 : decode cX10_ends 13 = .ok (.invokevirtual 160, 3) := by decide +kernel
theorem dX10_ends_16 : decode cX10_ends 16 = .ok (.aload_n 0, 1) := by decide +kernel
theorem dX10_ends_17 : decode cX10_ends 17 = .ok (.getfield 28, 3) := by decide +kernel
theorem dX10_ends_20 : decode cX10_ends 20 = .ok (.iload_n 2, 1) := by decide +kernel
theorem dX10_ends_21 : decode cX10_ends 21 = .ok (.invokevirtual 164, 3) := by decide +kernel
theorem dX10_ends_24 : decode cX10_ends 24 = .ok (.land, 1) := by decide +kernel
theorem dX10_ends_25 : decode cX10_ends 25 = .ok (.invokestatic 167, 3) := by decide +kernel
theorem dX10_ends_28 : decode cX10_ends 28 = .ok (.ireturn, 1) := by decide +kernel
theorem dX10_knot_0 : decode cX10_knot 0 = .ok (.aload_n 0, 1) := by decide +kernel
theorem dX10_knot_1 : decode cX10_knot 1 = .ok (.getfield 28, 3) := by decide +kernel
theorem dX10_knot_4 : decode cX10_knot 4 = .ok (.iload_n 1, 1) := by decide +kernel
theorem dX10_knot_5 : decode cX10_knot 5 = .ok (.invokevirtual 173, 3) := by decide +kernel
theorem dX10_knot_8 : decode cX10_knot 8 = .ok (.ireturn, 1) := by decide +kernel
theorem dX10_parts_0 : decode cX10_parts 0 = .ok (.iload_n 1, 1) := by decide +kernel
theorem dX10_parts_1 : decode cX10_parts 1 = .ok (.invokestatic 176, 3) := by decide +kernel
theorem dX10_parts_4 : decode cX10_parts 4 = .ok (.aload_n 0, 1) := by decide +kernel
theorem dX10_parts_5 : decode cX10_parts 5 = .ok (.getfield 28, 3) := by decide +kernel
theorem dX10_parts_8 : decode cX10_parts 8 = .ok (.iload_n 1, 1) := by decide +kernel
theorem dX10_parts_9 : decode cX10_parts 9 = .ok (.invokevirtual 179, 3) := by decide +kernel
theorem dX10_parts_12 : decode cX10_parts 12 = .ok (.ireturn, 1) := by decide +kernel
theorem dX10_partOf_0 : decode cX10_partOf 0 = .ok (.aload_n 0, 1) := by decide +kernel
theorem dX10_partOf_1 : decode cX10_partOf 1 = .ok (.iload_n 1, 1) := by decide +kernel
theorem dX10_partOf_2 : decode cX10_partOf 2 = .ok (.invokevirtual 129, 3) := by decide +kernel
theorem dX10_partOf_5 : decode cX10_partOf 5 = .ok (.aload_n 0, 1) := by decide +kernel
theorem dX10_partOf_6 : decode cX10_partOf 6 = .ok (.getfield 28, 3) := by decide +kernel
theorem dX10_partOf_9 : decode cX10_partOf 9 = .ok (.aload_n 0, 1) := by decide +kernel
theorem dX10_partOf_10 : decode cX10_partOf 10 = .ok (.getfield 28, 3) := by decide +kernel
theorem dX10_partOf_13 : decode cX10_partOf 13 = .ok (.iload_n 1, 1) := by decide +kernel
theorem dX10_partOf_14 : decode cX10_partOf 14 = .ok (.invokevirtual 139, 3) := by decide +kernel
theorem dX10_partOf_17 : decode cX10_partOf 17 = .ok (.invokevirtual 164, 3) := by decide +kernel
theorem dX10_partOf_20 : decode cX10_partOf 20 = .ok (.lstore_n 2, 1) := by decide +kernel
theorem dX10_partOf_21 : decode cX10_partOf 21 = .ok (.aload_n 0, 1) := by decide +kernel
theorem dX10_partOf_22 : decode cX10_partOf 22 = .ok (.getfield 28, 3) := by decide +kernel
theorem dX10_partOf_25 : decode cX10_partOf 25 = .ok (.lload_n 2, 1) := by decide +kernel
theorem dX10_partOf_26 : decode cX10_partOf 26 = .ok (.aload_n 0, 1) := by decide +kernel
theorem dX10_partOf_27 : decode cX10_partOf 27 = .ok (.getfield 28, 3) := by decide +kernel
theorem dX10_partOf_30 : decode cX10_partOf 30 = .ok (.iload_n 1, 1) := by decide +kernel
theorem dX10_partOf_31 : decode cX10_partOf 31 = .ok (.invokevirtual 132, 3) := by decide +kernel
theorem dX10_partOf_34 : decode cX10_partOf 34 = .ok (.invokevirtual 182, 3) := by decide +kernel
theorem dX10_partOf_37 : decode cX10_partOf 37 = .ok (.invokestatic 186, 3) := by decide +kernel
theorem dX10_partOf_40 : decode cX10_partOf 40 = .ok (.ireturn, 1) := by decide +kernel
theorem dX10_length_0 : decode cX10_length 0 = .ok (.iload_n 1, 1) := by decide +kernel
theorem dX10_length_1 : decode cX10_length 1 = .ok (.invokestatic 157, 3) := by decide +kernel
theorem dX10_length_4 : decode cX10_length 4 = .ok (.aload_n 0, 1) := by decide +kernel
theorem dX10_length_5 : decode cX10_length 5 = .ok (.getfield 28, 3) := by decide +kernel
theorem dX10_length_8 : decode cX10_length 8 = .ok (.iload_n 1, 1) := by decide +kernel
theorem dX10_length_9 : decode cX10_length 9 = .ok (.invokevirtual 189, 3) := by decide +kernel
theorem dX10_length_12 : decode cX10_length 12 = .ok (.ireturn, 1) := by decide +kernel
theorem dX10_crossings_0 : decode cX10_crossings 0 = .ok (.aload_n 0, 1) := by decide +kernel
theorem dX10_crossings_1 : decode cX10_crossings 1 = .ok (.getfield 28, 3) := by decide +kernel
theorem dX10_crossings_4 : decode cX10_crossings 4 = .ok (.iload_n 1, 1) := by decide +kernel
theorem dX10_crossings_5 : decode cX10_crossings 5 = .ok (.invokevirtual 192, 3) := by decide +kernel
theorem dX10_crossings_8 : decode cX10_crossings 8 = .ok (.ireturn, 1) := by decide +kernel
theorem dX10_alike_0 : decode cX10_alike 0 = .ok (.iload_n 1, 1) := by decide +kernel
theorem dX10_alike_1 : decode cX10_alike 1 = .ok (.ifCond .lt 8, 3) := by decide +kernel
theorem dX10_alike_4 : decode cX10_alike 4 = .ok (.iload_n 1, 1) := by decide +kernel
theorem dX10_alike_5 : decode cX10_alike 5 = .ok (.iconst 3, 1) := by decide +kernel
theorem dX10_alike_6 : decode cX10_alike 6 = .ok (.if_icmp .le 13, 3) := by decide +kernel
theorem dX10_alike_9 : decode cX10_alike 9 = .ok (.new 100, 3) := by decide +kernel
theorem dX10_alike_12 : decode cX10_alike 12 = .ok (.dup, 1) := by decide +kernel
theorem dX10_alike_13 : decode cX10_alike 13 = .ok (.ldc 196, 2) := by decide +kernel
theorem dX10_alike_15 : decode cX10_alike 15 = .ok (.invokespecial 104, 3) := by decide +kernel
theorem dX10_alike_18 : decode cX10_alike 18 = .ok (.athrow, 1) := by decide +kernel
theorem dX10_alike_19 : decode cX10_alike 19 = .ok (.aload_n 0, 1) := by decide +kernel
theorem dX10_alike_20 : decode cX10_alike 20 = .ok (.getfield 28, 3) := by decide +kernel
theorem dX10_alike_23 : decode cX10_alike 23 = .ok (.iload_n 1, 1) := by decide +kernel
theorem dX10_alike_24 : decode cX10_alike 24 = .ok (.invokevirtual 198, 3) := by decide +kernel
theorem dX10_alike_27 : decode cX10_alike 27 = .ok (.ireturn, 1) := by decide +kernel
theorem dX10_begin_0 : decode cX10_begin 0 = .ok (.iload_n 1, 1) := by decide +kernel
theorem dX10_begin_1 : decode cX10_begin 1 = .ok (.invokestatic 147, 3) := by decide +kernel
theorem dX10_begin_4 : decode cX10_begin 4 = .ok (.iload_n 2, 1) := by decide +kernel
theorem dX10_begin_5 : decode cX10_begin 5 = .ok (.invokestatic 176, 3) := by decide +kernel
theorem dX10_begin_8 : decode cX10_begin 8 = .ok (.aload_n 0, 1) := by decide +kernel
theorem dX10_begin_9 : decode cX10_begin 9 = .ok (.getfield 61, 3) := by decide +kernel
theorem dX10_begin_12 : decode cX10_begin 12 = .ok (.iload_n 1, 1) := by decide +kernel
theorem dX10_begin_13 : decode cX10_begin 13 = .ok (.iload_n 2, 1) := by decide +kernel
theorem dX10_begin_14 : decode cX10_begin 14 = .ok (.iload_n 3, 1) := by decide +kernel
theorem dX10_begin_15 : decode cX10_begin 15 = .ok (.invokevirtual 202, 3) := by decide +kernel
theorem dX10_begin_18 : decode cX10_begin 18 = .ok (.return_, 1) := by decide +kernel
theorem dX10_cut_0 : decode cX10_cut 0 = .ok (.aload_n 0, 1) := by decide +kernel
theorem dX10_cut_1 : decode cX10_cut 1 = .ok (.invokevirtual 206, 3) := by decide +kernel
theorem dX10_cut_4 : decode cX10_cut 4 = .ok (.aload_n 0, 1) := by decide +kernel
theorem dX10_cut_5 : decode cX10_cut 5 = .ok (.getfield 61, 3) := by decide +kernel
theorem dX10_cut_8 : decode cX10_cut 8 = .ok (.invokevirtual 209, 3) := by decide +kernel
theorem dX10_cut_11 : decode cX10_cut 11 = .ok (.aload_n 0, 1) := by decide +kernel
theorem dX10_cut_12 : decode cX10_cut 12 = .ok (.getfield 61, 3) := by decide +kernel
theorem dX10_cut_15 : decode cX10_cut 15 = .ok (.getfield 212, 3) := by decide +kernel
theorem dX10_cut_18 : decode cX10_cut 18 = .ok (.ireturn, 1) := by decide +kernel
theorem dX10_may_0 : decode cX10_may 0 = .ok (.iload_n 1, 1) := by decide +kernel
theorem dX10_may_1 : decode cX10_may 1 = .ok (.invokestatic 150, 3) := by decide +kernel
theorem dX10_may_4 : decode cX10_may 4 = .ok (.aload_n 0, 1) := by decide +kernel
theorem dX10_may_5 : decode cX10_may 5 = .ok (.getfield 61, 3) := by decide +kernel
theorem dX10_may_8 : decode cX10_may 8 = .ok (.iload_n 1, 1) := by decide +kernel
theorem dX10_may_9 : decode cX10_may 9 = .ok (.invokevirtual 215, 3) := by decide +kernel
theorem dX10_may_12 : decode cX10_may 12 = .ok (.ireturn, 1) := by decide +kernel
theorem dX10_stitch_0 : decode cX10_stitch 0 = .ok (.iload_n 1, 1) := by decide +kernel
theorem dX10_stitch_1 : decode cX10_stitch 1 = .ok (.invokestatic 150, 3) := by decide +kernel
theorem dX10_stitch_4 : decode cX10_stitch 4 = .ok (.aload_n 0, 1) := by decide +kernel
theorem dX10_stitch_5 : decode cX10_stitch 5 = .ok (.getfield 61, 3) := by decide +kernel
theorem dX10_stitch_8 : decode cX10_stitch 8 = .ok (.iload_n 1, 1) := by decide +kernel
theorem dX10_stitch_9 : decode cX10_stitch 9 = .ok (.invokevirtual 218, 3) := by decide +kernel
theorem dX10_stitch_12 : decode cX10_stitch 12 = .ok (.ireturn, 1) := by decide +kernel
theorem dX10_unpick_0 : decode cX10_unpick 0 = .ok (.aload_n 0, 1) := by decide +kernel
theorem dX10_unpick_1 : decode cX10_unpick 1 = .ok (.invokevirtual 206, 3) := by decide +kernel
theorem dX10_unpick_4 : decode cX10_unpick 4 = .ok (.iload_n 1, 1) := by decide +kernel
theorem dX10_unpick_5 : decode cX10_unpick 5 = .ok (.ifCond .lt 14, 3) := by decide +kernel
theorem dX10_unpick_8 : decode cX10_unpick 8 = .ok (.iload_n 1, 1) := by decide +kernel
theorem dX10_unpick_9 : decode cX10_unpick 9 = .ok (.aload_n 0, 1) := by decide +kernel
theorem dX10_unpick_10 : decode cX10_unpick 10 = .ok (.getfield 61, 3) := by decide +kernel
theorem dX10_unpick_13 : decode cX10_unpick 13 = .ok (.getfield 212, 3) := by decide +kernel
theorem dX10_unpick_16 : decode cX10_unpick 16 = .ok (.if_icmp .le 13, 3) := by decide +kernel
theorem dX10_unpick_19 : decode cX10_unpick 19 = .ok (.new 100, 3) := by decide +kernel
theorem dX10_unpick_22 : decode cX10_unpick 22 = .ok (.dup, 1) := by decide +kernel
theorem dX10_unpick_23 : decode cX10_unpick 23 = .ok (.ldc 221, 2) := by decide +kernel
theorem dX10_unpick_25 : decode cX10_unpick 25 = .ok (.invokespecial 104, 3) := by decide +kernel
theorem dX10_unpick_28 : decode cX10_unpick 28 = .ok (.athrow, 1) := by decide +kernel
theorem dX10_unpick_29 : decode cX10_unpick 29 = .ok (.iconst 0, 1) := by decide +kernel
theorem dX10_unpick_30 : decode cX10_unpick 30 = .ok (.istore_n 2, 1) := by decide +kernel
theorem dX10_unpick_31 : decode cX10_unpick 31 = .ok (.iload_n 2, 1) := by decide +kernel
theorem dX10_unpick_32 : decode cX10_unpick 32 = .ok (.iload_n 1, 1) := by decide +kernel
theorem dX10_unpick_33 : decode cX10_unpick 33 = .ok (.if_icmp .ge 16, 3) := by decide +kernel
theorem dX10_unpick_36 : decode cX10_unpick 36 = .ok (.aload_n 0, 1) := by decide +kernel
theorem dX10_unpick_37 : decode cX10_unpick 37 = .ok (.getfield 61, 3) := by decide +kernel
theorem dX10_unpick_40 : decode cX10_unpick 40 = .ok (.invokevirtual 223, 3) := by decide +kernel
theorem dX10_unpick_43 : decode cX10_unpick 43 = .ok (.iinc 2 1, 3) := by decide +kernel
theorem dX10_unpick_46 : decode cX10_unpick 46 = .ok (.goto (-15), 3) := by decide +kernel
theorem dX10_unpick_49 : decode cX10_unpick 49 = .ok (.aload_n 0, 1) := by decide +kernel
theorem dX10_unpick_50 : decode cX10_unpick 50 = .ok (.getfield 61, 3) := by decide +kernel
theorem dX10_unpick_53 : decode cX10_unpick 53 = .ok (.getfield 212, 3) := by decide +kernel
theorem dX10_unpick_56 : decode cX10_unpick 56 = .ok (.ireturn, 1) := by decide +kernel
theorem dX10_thread_0 : decode cX10_thread 0 = .ok (.aload_n 0, 1) := by decide +kernel
theorem dX10_thread_1 : decode cX10_thread 1 = .ok (.invokevirtual 206, 3) := by decide +kernel
theorem dX10_thread_4 : decode cX10_thread 4 = .ok (.iload_n 1, 1) := by decide +kernel
theorem dX10_thread_5 : decode cX10_thread 5 = .ok (.tableswitch 83 0 4 #[35, 43, 59, 67, 75], 35) := by decide +kernel
theorem dX10_thread_40 : decode cX10_thread 40 = .ok (.aload_n 0, 1) := by decide +kernel
theorem dX10_thread_41 : decode cX10_thread 41 = .ok (.getfield 61, 3) := by decide +kernel
theorem dX10_thread_44 : decode cX10_thread 44 = .ok (.getfield 226, 3) := by decide +kernel
theorem dX10_thread_47 : decode cX10_thread 47 = .ok (.ireturn, 1) := by decide +kernel
theorem dX10_thread_48 : decode cX10_thread 48 = .ok (.aload_n 0, 1) := by decide +kernel
theorem dX10_thread_49 : decode cX10_thread 49 = .ok (.getfield 61, 3) := by decide +kernel
theorem dX10_thread_52 : decode cX10_thread 52 = .ok (.invokevirtual 229, 3) := by decide +kernel
theorem dX10_thread_55 : decode cX10_thread 55 = .ok (.ifCond .eq 7, 3) := by decide +kernel
theorem dX10_thread_58 : decode cX10_thread 58 = .ok (.iconst 1, 1) := by decide +kernel
theorem dX10_thread_59 : decode cX10_thread 59 = .ok (.goto 4, 3) := by decide +kernel
theorem dX10_thread_62 : decode cX10_thread 62 = .ok (.iconst 0, 1) := by decide +kernel
theorem dX10_thread_63 : decode cX10_thread 63 = .ok (.ireturn, 1) := by decide +kernel
theorem dX10_thread_64 : decode cX10_thread 64 = .ok (.aload_n 0, 1) := by decide +kernel
theorem dX10_thread_65 : decode cX10_thread 65 = .ok (.getfield 61, 3) := by decide +kernel
theorem dX10_thread_68 : decode cX10_thread 68 = .ok (.getfield 212, 3) := by decide +kernel
theorem dX10_thread_71 : decode cX10_thread 71 = .ok (.ireturn, 1) := by decide +kernel
theorem dX10_thread_72 : decode cX10_thread 72 = .ok (.aload_n 0, 1) := by decide +kernel
theorem dX10_thread_73 : decode cX10_thread 73 = .ok (.getfield 61, 3) := by decide +kernel
theorem dX10_thread_76 : decode cX10_thread 76 = .ok (.getfield 233, 3) := by decide +kernel
theorem dX10_thread_79 : decode cX10_thread 79 = .ok (.ireturn, 1) := by decide +kernel
theorem dX10_thread_80 : decode cX10_thread 80 = .ok (.aload_n 0, 1) := by decide +kernel
theorem dX10_thread_81 : decode cX10_thread 81 = .ok (.getfield 61, 3) := by decide +kernel
theorem dX10_thread_84 : decode cX10_thread 84 = .ok (.getfield 236, 3) := by decide +kernel
theorem dX10_thread_87 : decode cX10_thread 87 = .ok (.ireturn, 1) := by decide +kernel
theorem dX10_thread_88 : decode cX10_thread 88 = .ok (.new 100, 3) := by decide +kernel
theorem dX10_thread_91 : decode cX10_thread 91 = .ok (.dup, 1) := by decide +kernel
theorem dX10_thread_92 : decode cX10_thread 92 = .ok (.ldc 239, 2) := by decide +kernel
theorem dX10_thread_94 : decode cX10_thread 94 = .ok (.invokespecial 104, 3) := by decide +kernel
theorem dX10_thread_97 : decode cX10_thread 97 = .ok (.athrow, 1) := by decide +kernel
theorem dX10_done_0 : decode cX10_done 0 = .ok (.aload_n 0, 1) := by decide +kernel
theorem dX10_done_1 : decode cX10_done 1 = .ok (.invokevirtual 206, 3) := by decide +kernel
theorem dX10_done_4 : decode cX10_done 4 = .ok (.aload_n 0, 1) := by decide +kernel
theorem dX10_done_5 : decode cX10_done 5 = .ok (.getfield 61, 3) := by decide +kernel
theorem dX10_done_8 : decode cX10_done 8 = .ok (.iload_n 1, 1) := by decide +kernel
theorem dX10_done_9 : decode cX10_done 9 = .ok (.invokevirtual 241, 3) := by decide +kernel
theorem dX10_done_12 : decode cX10_done 12 = .ok (.ireturn, 1) := by decide +kernel
theorem dX10_judge_0 : decode cX10_judge 0 = .ok (.aload_n 0, 1) := by decide +kernel
theorem dX10_judge_1 : decode cX10_judge 1 = .ok (.iload_n 1, 1) := by decide +kernel
theorem dX10_judge_2 : decode cX10_judge 2 = .ok (.invokevirtual 244, 3) := by decide +kernel
theorem dX10_judge_5 : decode cX10_judge 5 = .ok (.astore_n 3, 1) := by decide +kernel
theorem dX10_judge_6 : decode cX10_judge 6 = .ok (.aload_n 0, 1) := by decide +kernel
theorem dX10_judge_7 : decode cX10_judge 7 = .ok (.invokevirtual 206, 3) := by decide +kernel
theorem dX10_judge_10 : decode cX10_judge 10 = .ok (.aload_n 3, 1) := by decide +kernel
theorem dX10_judge_11 : decode cX10_judge 11 = .ok (.invokestatic 248, 3) := by decide +kernel
theorem dX10_judge_14 : decode cX10_judge 14 = .ok (.iload_n 2, 1) := by decide +kernel
theorem dX10_judge_15 : decode cX10_judge 15 = .ok (.ifCond .lt 8, 3) := by decide +kernel
theorem dX10_judge_18 : decode cX10_judge 18 = .ok (.iload_n 2, 1) := by decide +kernel
theorem dX10_judge_19 : decode cX10_judge 19 = .ok (.iconst 3, 1) := by decide +kernel
theorem dX10_judge_20 : decode cX10_judge 20 = .ok (.if_icmp .le 13, 3) := by decide +kernel
theorem dX10_judge_23 : decode cX10_judge 23 = .ok (.new 100, 3) := by decide +kernel
theorem dX10_judge_26 : decode cX10_judge 26 = .ok (.dup, 1) := by decide +kernel
theorem dX10_judge_27 : decode cX10_judge 27 = .ok (.ldc 252, 2) := by decide +kernel
theorem dX10_judge_29 : decode cX10_judge 29 = .ok (.invokespecial 104, 3) := by decide +kernel
theorem dX10_judge_32 : decode cX10_judge 32 = .ok (.athrow, 1) := by decide +kernel
theorem dX10_judge_33 : decode cX10_judge 33 = .ok (.aload_n 0, 1) := by decide +kernel
theorem dX10_judge_34 : decode cX10_judge 34 = .ok (.getfield 65, 3) := by decide +kernel
theorem dX10_judge_37 : decode cX10_judge 37 = .ok (.aload_n 0, 1) := by decide +kernel
theorem dX10_judge_38 : decode cX10_judge 38 = .ok (.getfield 61, 3) := by decide +kernel
theorem dX10_judge_41 : decode cX10_judge 41 = .ok (.invokevirtual 254, 3) := by decide +kernel
theorem dX10_judge_44 : decode cX10_judge 44 = .ok (.aload_n 0, 1) := by decide +kernel
theorem dX10_judge_45 : decode cX10_judge 45 = .ok (.getfield 65, 3) := by decide +kernel
theorem dX10_judge_48 : decode cX10_judge 48 = .ok (.aload_n 3, 1) := by decide +kernel
theorem dX10_judge_49 : decode cX10_judge 49 = .ok (.invokestatic 257, 3) := by decide +kernel
theorem dX10_judge_52 : decode cX10_judge 52 = .ok (.istore 4, 2) := by decide +kernel
theorem dX10_judge_54 : decode cX10_judge 54 = .ok (.iload_n 2, 1) := by decide +kernel
theorem dX10_judge_55 : decode cX10_judge 55 = .ok (.tableswitch 76 0 2 #[25, 41, 68], 25) := by decide +kernel
theorem dX10_judge_80 : decode cX10_judge 80 = .ok (.iload 4, 2) := by decide +kernel
theorem dX10_judge_82 : decode cX10_judge 82 = .ok (.aload_n 3, 1) := by decide +kernel
theorem dX10_judge_83 : decode cX10_judge 83 = .ok (.getfield 261, 3) := by decide +kernel
theorem dX10_judge_86 : decode cX10_judge 86 = .ok (.if_icmp .ge 8, 3) := by decide +kernel
theorem dX10_judge_89 : decode cX10_judge 89 = .ok (.iload 4, 2) := by decide +kernel
theorem dX10_judge_91 : decode cX10_judge 91 = .ok (.goto 4, 3) := by decide +kernel
theorem dX10_judge_94 : decode cX10_judge 94 = .ok (.iconst (-1), 1) := by decide +kernel
theorem dX10_judge_95 : decode cX10_judge 95 = .ok (.ireturn, 1) := by decide +kernel
theorem dX10_judge_96 : decode cX10_judge 96 = .ok (.iload 4, 2) := by decide +kernel
theorem dX10_judge_98 : decode cX10_judge 98 = .ok (.aload_n 3, 1) := by decide +kernel
theorem dX10_judge_99 : decode cX10_judge 99 = .ok (.getfield 261, 3) := by decide +kernel
theorem dX10_judge_102 : decode cX10_judge 102 = .ok (.if_icmp .ge 19, 3) := by decide +kernel
theorem dX10_judge_105 : decode cX10_judge 105 = .ok (.aload_n 0, 1) := by decide +kernel
theorem dX10_judge_106 : decode cX10_judge 106 = .ok (.getfield 65, 3) := by decide +kernel
theorem dX10_judge_109 : decode cX10_judge 109 = .ok (.aload_n 3, 1) := by decide +kernel
theorem dX10_judge_110 : decode cX10_judge 110 = .ok (.iload 4, 2) := by decide +kernel
theorem dX10_judge_112 : decode cX10_judge 112 = .ok (.invokevirtual 264, 3) := by decide +kernel
theorem dX10_judge_115 : decode cX10_judge 115 = .ok (.invokevirtual 215, 3) := by decide +kernel
theorem dX10_judge_118 : decode cX10_judge 118 = .ok (.goto 4, 3) := by decide +kernel
theorem dX10_judge_121 : decode cX10_judge 121 = .ok (.iconst 0, 1) := by decide +kernel
theorem dX10_judge_122 : decode cX10_judge 122 = .ok (.ireturn, 1) := by decide +kernel
theorem dX10_judge_123 : decode cX10_judge 123 = .ok (.aload_n 0, 1) := by decide +kernel
theorem dX10_judge_124 : decode cX10_judge 124 = .ok (.getfield 65, 3) := by decide +kernel
theorem dX10_judge_127 : decode cX10_judge 127 = .ok (.getfield 226, 3) := by decide +kernel
theorem dX10_judge_130 : decode cX10_judge 130 = .ok (.ireturn, 1) := by decide +kernel
theorem dX10_judge_131 : decode cX10_judge 131 = .ok (.aload_n 0, 1) := by decide +kernel
theorem dX10_judge_132 : decode cX10_judge 132 = .ok (.getfield 65, 3) := by decide +kernel
theorem dX10_judge_135 : decode cX10_judge 135 = .ok (.invokevirtual 267, 3) := by decide +kernel
theorem dX10_judge_138 : decode cX10_judge 138 = .ok (.ireturn, 1) := by decide +kernel
theorem dX10_perform_0 : decode cX10_perform 0 = .ok (.aload_n 0, 1) := by decide +kernel
theorem dX10_perform_1 : decode cX10_perform 1 = .ok (.iload_n 1, 1) := by decide +kernel
theorem dX10_perform_2 : decode cX10_perform 2 = .ok (.invokevirtual 244, 3) := by decide +kernel
theorem dX10_perform_5 : decode cX10_perform 5 = .ok (.astore_n 2, 1) := by decide +kernel
theorem dX10_perform_6 : decode cX10_perform 6 = .ok (.aload_n 0, 1) := by decide +kernel
theorem dX10_perform_7 : decode cX10_perform 7 = .ok (.invokevirtual 206, 3) := by decide +kernel
theorem dX10_perform_10 : decode cX10_perform 10 = .ok (.aload_n 2, 1) := by decide +kernel
theorem dX10_perform_11 : decode cX10_perform 11 = .ok (.invokestatic 248, 3) := by decide +kernel
theorem dX10_perform_14 : decode cX10_perform 14 = .ok (.aload_n 0, 1) := by decide +kernel
theorem dX10_perform_15 : decode cX10_perform 15 = .ok (.getfield 61, 3) := by decide +kernel
theorem dX10_perform_18 : decode cX10_perform 18 = .ok (.aload_n 2, 1) := by decide +kernel
theorem dX10_perform_19 : decode cX10_perform 19 = .ok (.invokestatic 257, 3) := by decide +kernel
theorem dX10_perform_22 : decode cX10_perform 22 = .ok (.ireturn, 1) := by decide +kernel
theorem dX10_goBy_0 : decode cX10_goBy 0 = .ok (.iconst 0, 1) := by decide +kernel
theorem dX10_goBy_1 : decode cX10_goBy 1 = .ok (.istore_n 2, 1) := by decide +kernel
theorem dX10_goBy_2 : decode cX10_goBy 2 = .ok (.iload_n 2, 1) := by decide +kernel
theorem dX10_goBy_3 : decode cX10_goBy 3 = .ok (.aload_n 1, 1) := by decide +kernel
theorem dX10_goBy_4 : decode cX10_goBy 4 = .ok (.getfield 261, 3) := by decide +kernel
theorem dX10_goBy_7 : decode cX10_goBy 7 = .ok (.if_icmp .ge 23, 3) := by decide +kernel
theorem dX10_goBy_10 : decode cX10_goBy 10 = .ok (.aload_n 0, 1) := by decide +kernel
theorem dX10_goBy_11 : decode cX10_goBy 11 = .ok (.aload_n 1, 1) := by decide +kernel
theorem dX10_goBy_12 : decode cX10_goBy 12 = .ok (.iload_n 2, 1) := by decide +kernel
theorem dX10_goBy_13 : decode cX10_goBy 13 = .ok (.invokevirtual 264, 3) := by decide +kernel
theorem dX10_goBy_16 : decode cX10_goBy 16 = .ok (.invokevirtual 218, 3) := by decide +kernel
theorem dX10_goBy_19 : decode cX10_goBy 19 = .ok (.ifCond .eq 5, 3) := by decide +kernel
theorem dX10_goBy_22 : decode cX10_goBy 22 = .ok (.iload_n 2, 1) := by decide +kernel
theorem dX10_goBy_23 : decode cX10_goBy 23 = .ok (.ireturn, 1) := by decide +kernel
theorem dX10_goBy_24 : decode cX10_goBy 24 = .ok (.iinc 2 1, 3) := by decide +kernel
theorem dX10_goBy_27 : decode cX10_goBy 27 = .ok (.goto (-25), 3) := by decide +kernel
theorem dX10_goBy_30 : decode cX10_goBy 30 = .ok (.aload_n 1, 1) := by decide +kernel
theorem dX10_goBy_31 : decode cX10_goBy 31 = .ok (.getfield 261, 3) := by decide +kernel
theorem dX10_goBy_34 : decode cX10_goBy 34 = .ok (.ireturn, 1) := by decide +kernel
theorem dX10_left_0 : decode cX10_left 0 = .ok (.aload_n 0, 1) := by decide +kernel
theorem dX10_left_1 : decode cX10_left 1 = .ok (.invokevirtual 206, 3) := by decide +kernel
theorem dX10_left_4 : decode cX10_left 4 = .ok (.aload_n 0, 1) := by decide +kernel
theorem dX10_left_5 : decode cX10_left 5 = .ok (.getfield 61, 3) := by decide +kernel
theorem dX10_left_8 : decode cX10_left 8 = .ok (.invokevirtual 267, 3) := by decide +kernel
theorem dX10_left_11 : decode cX10_left 11 = .ok (.ireturn, 1) := by decide +kernel
theorem dX10_barred_0 : decode cX10_barred 0 = .ok (.aload_n 0, 1) := by decide +kernel
theorem dX10_barred_1 : decode cX10_barred 1 = .ok (.invokevirtual 206, 3) := by decide +kernel
theorem dX10_barred_4 : decode cX10_barred 4 = .ok (.iload_n 1, 1) := by decide +kernel
theorem dX10_barred_5 : decode cX10_barred 5 = .ok (.ifCond .eq 19, 3) := by decide +kernel
theorem dX10_barred_8 : decode cX10_barred 8 = .ok (.iload_n 1, 1) := by decide +kernel
theorem dX10_barred_9 : decode cX10_barred 9 = .ok (.iconst 1, 1) := by decide +kernel
theorem dX10_barred_10 : decode cX10_barred 10 = .ok (.if_icmp .eq 14, 3) := by decide +kernel
theorem dX10_barred_13 : decode cX10_barred 13 = .ok (.new 100, 3) := by decide +kernel
theorem dX10_barred_16 : decode cX10_barred 16 = .ok (.dup, 1) := by decide +kernel
theorem dX10_barred_17 : decode cX10_barred 17 = .ok (.ldc_w 271, 3) := by decide +kernel
theorem dX10_barred_20 : decode cX10_barred 20 = .ok (.invokespecial 104, 3) := by decide +kernel
theorem dX10_barred_23 : decode cX10_barred 23 = .ok (.athrow, 1) := by decide +kernel
theorem dX10_barred_24 : decode cX10_barred 24 = .ok (.aload_n 0, 1) := by decide +kernel
theorem dX10_barred_25 : decode cX10_barred 25 = .ok (.getfield 71, 3) := by decide +kernel
theorem dX10_barred_28 : decode cX10_barred 28 = .ok (.aload_n 0, 1) := by decide +kernel
theorem dX10_barred_29 : decode cX10_barred 29 = .ok (.getfield 61, 3) := by decide +kernel
theorem dX10_barred_32 : decode cX10_barred 32 = .ok (.invokevirtual 273, 3) := by decide +kernel
theorem dX10_barred_35 : decode cX10_barred 35 = .ok (.aload_n 0, 1) := by decide +kernel
theorem dX10_barred_36 : decode cX10_barred 36 = .ok (.getfield 71, 3) := by decide +kernel
theorem dX10_barred_39 : decode cX10_barred 39 = .ok (.invokevirtual 276, 3) := by decide +kernel
theorem dX10_barred_42 : decode cX10_barred 42 = .ok (.iload_n 1, 1) := by decide +kernel
theorem dX10_barred_43 : decode cX10_barred 43 = .ok (.ifCond .ne 13, 3) := by decide +kernel
theorem dX10_barred_46 : decode cX10_barred 46 = .ok (.aload_n 0, 1) := by decide +kernel
theorem dX10_barred_47 : decode cX10_barred 47 = .ok (.getfield 71, 3) := by decide +kernel
theorem dX10_barred_50 : decode cX10_barred 50 = .ok (.getfield 279, 3) := by decide +kernel
theorem dX10_barred_53 : decode cX10_barred 53 = .ok (.goto 10, 3) := by decide +kernel
theorem dX10_barred_56 : decode cX10_barred 56 = .ok (.aload_n 0, 1) := by decide +kernel
theorem dX10_barred_57 : decode cX10_barred 57 = .ok (.getfield 71, 3) := by decide +kernel
theorem dX10_barred_60 : decode cX10_barred 60 = .ok (.getfield 282, 3) := by decide +kernel
theorem dX10_barred_63 : decode cX10_barred 63 = .ok (.ireturn, 1) := by decide +kernel
theorem dX10_ending_0 : decode cX10_ending 0 = .ok (.aload_n 0, 1) := by decide +kernel
theorem dX10_ending_1 : decode cX10_ending 1 = .ok (.invokevirtual 206, 3) := by decide +kernel
theorem dX10_ending_4 : decode cX10_ending 4 = .ok (.aload_n 0, 1) := by decide +kernel
theorem dX10_ending_5 : decode cX10_ending 5 = .ok (.getfield 71, 3) := by decide +kernel
theorem dX10_ending_8 : decode cX10_ending 8 = .ok (.aload_n 0, 1) := by decide +kernel
theorem dX10_ending_9 : decode cX10_ending 9 = .ok (.getfield 61, 3) := by decide +kernel
theorem dX10_ending_12 : decode cX10_ending 12 = .ok (.invokevirtual 273, 3) := by decide +kernel
theorem dX10_ending_15 : decode cX10_ending 15 = .ok (.aload_n 0, 1) := by decide +kernel
theorem dX10_ending_16 : decode cX10_ending 16 = .ok (.getfield 71, 3) := by decide +kernel
theorem dX10_ending_19 : decode cX10_ending 19 = .ok (.invokevirtual 276, 3) := by decide +kernel
theorem dX10_ending_22 : decode cX10_ending 22 = .ok (.aload_n 0, 1) := by decide +kernel
theorem dX10_ending_23 : decode cX10_ending 23 = .ok (.getfield 71, 3) := by decide +kernel
theorem dX10_ending_26 : decode cX10_ending 26 = .ok (.getfield 285, 3) := by decide +kernel
theorem dX10_ending_29 : decode cX10_ending 29 = .ok (.ireturn, 1) := by decide +kernel
theorem dX10_working_0 : decode cX10_working 0 = .ok (.aload_n 0, 1) := by decide +kernel
theorem dX10_working_1 : decode cX10_working 1 = .ok (.invokevirtual 206, 3) := by decide +kernel
theorem dX10_working_4 : decode cX10_working 4 = .ok (.aload_n 0, 1) := by decide +kernel
theorem dX10_working_5 : decode cX10_working 5 = .ok (.getfield 71, 3) := by decide +kernel
theorem dX10_working_8 : decode cX10_working 8 = .ok (.aload_n 0, 1) := by decide +kernel
theorem dX10_working_9 : decode cX10_working 9 = .ok (.getfield 61, 3) := by decide +kernel
theorem dX10_working_12 : decode cX10_working 12 = .ok (.invokevirtual 273, 3) := by decide +kernel
theorem dX10_working_15 : decode cX10_working 15 = .ok (.aload_n 0, 1) := by decide +kernel
theorem dX10_working_16 : decode cX10_working 16 = .ok (.getfield 71, 3) := by decide +kernel
theorem dX10_working_19 : decode cX10_working 19 = .ok (.invokevirtual 288, 3) := by decide +kernel
theorem dX10_working_22 : decode cX10_working 22 = .ok (.istore_n 2, 1) := by decide +kernel
theorem dX10_working_23 : decode cX10_working 23 = .ok (.iload_n 1, 1) := by decide +kernel
theorem dX10_working_24 : decode cX10_working 24 = .ok (.iconst (-1), 1) := by decide +kernel
theorem dX10_working_25 : decode cX10_working 25 = .ok (.if_icmp .ne 7, 3) := by decide +kernel
theorem dX10_working_28 : decode cX10_working 28 = .ok (.iload_n 2, 1) := by decide +kernel
theorem dX10_working_29 : decode cX10_working 29 = .ok (.goto 11, 3) := by decide +kernel
theorem dX10_working_32 : decode cX10_working 32 = .ok (.aload_n 0, 1) := by decide +kernel
theorem dX10_working_33 : decode cX10_working 33 = .ok (.getfield 71, 3) := by decide +kernel
theorem dX10_working_36 : decode cX10_working 36 = .ok (.iload_n 1, 1) := by decide +kernel
theorem dX10_working_37 : decode cX10_working 37 = .ok (.invokevirtual 291, 3) := by decide +kernel
theorem dX10_working_40 : decode cX10_working 40 = .ok (.ireturn, 1) := by decide +kernel
theorem dX10_work_0 : decode cX10_work 0 = .ok (.aload_n 0, 1) := by decide +kernel
theorem dX10_work_1 : decode cX10_work 1 = .ok (.invokevirtual 206, 3) := by decide +kernel
theorem dX10_work_4 : decode cX10_work 4 = .ok (.aload_n 0, 1) := by decide +kernel
theorem dX10_work_5 : decode cX10_work 5 = .ok (.getfield 71, 3) := by decide +kernel
theorem dX10_work_8 : decode cX10_work 8 = .ok (.aload_n 0, 1) := by decide +kernel
theorem dX10_work_9 : decode cX10_work 9 = .ok (.getfield 61, 3) := by decide +kernel
theorem dX10_work_12 : decode cX10_work 12 = .ok (.invokevirtual 273, 3) := by decide +kernel
theorem dX10_work_15 : decode cX10_work 15 = .ok (.aload_n 0, 1) := by decide +kernel
theorem dX10_work_16 : decode cX10_work 16 = .ok (.getfield 71, 3) := by decide +kernel
theorem dX10_work_19 : decode cX10_work 19 = .ok (.invokevirtual 288, 3) := by decide +kernel
theorem dX10_work_22 : decode cX10_work 22 = .ok (.istore_n 1, 1) := by decide +kernel
theorem dX10_work_23 : decode cX10_work 23 = .ok (.iconst 0, 1) := by decide +kernel
theorem dX10_work_24 : decode cX10_work 24 = .ok (.istore_n 2, 1) := by decide +kernel
theorem dX10_work_25 : decode cX10_work 25 = .ok (.iload_n 2, 1) := by decide +kernel
theorem dX10_work_26 : decode cX10_work 26 = .ok (.iload_n 1, 1) := by decide +kernel
theorem dX10_work_27 : decode cX10_work 27 = .ok (.if_icmp .ge 25, 3) := by decide +kernel
theorem dX10_work_30 : decode cX10_work 30 = .ok (.aload_n 0, 1) := by decide +kernel
theorem dX10_work_31 : decode cX10_work 31 = .ok (.getfield 61, 3) := by decide +kernel
theorem dX10_work_34 : decode cX10_work 34 = .ok (.aload_n 0, 1) := by decide +kernel
theorem dX10_work_35 : decode cX10_work 35 = .ok (.getfield 71, 3) := by decide +kernel
theorem dX10_work_38 : decode cX10_work 38 = .ok (.iload_n 2, 1) := by decide +kernel
theorem dX10_work_39 : decode cX10_work 39 = .ok (.invokevirtual 291, 3) := by decide +kernel
theorem dX10_work_42 : decode cX10_work 42 = .ok (.invokevirtual 218, 3) := by decide +kernel
theorem dX10_work_45 : decode cX10_work 45 = .ok (.pop, 1) := by decide +kernel
theorem dX10_work_46 : decode cX10_work 46 = .ok (.iinc 2 1, 3) := by decide +kernel
theorem dX10_work_49 : decode cX10_work 49 = .ok (.goto (-24), 3) := by decide +kernel
theorem dX10_work_52 : decode cX10_work 52 = .ok (.iload_n 1, 1) := by decide +kernel
theorem dX10_work_53 : decode cX10_work 53 = .ok (.ireturn, 1) := by decide +kernel
theorem dX10_ways_0 : decode cX10_ways 0 = .ok (.aload_n 0, 1) := by decide +kernel
theorem dX10_ways_1 : decode cX10_ways 1 = .ok (.invokevirtual 206, 3) := by decide +kernel
theorem dX10_ways_4 : decode cX10_ways 4 = .ok (.aload_n 0, 1) := by decide +kernel
theorem dX10_ways_5 : decode cX10_ways 5 = .ok (.getfield 71, 3) := by decide +kernel
theorem dX10_ways_8 : decode cX10_ways 8 = .ok (.aload_n 0, 1) := by decide +kernel
theorem dX10_ways_9 : decode cX10_ways 9 = .ok (.getfield 61, 3) := by decide +kernel
theorem dX10_ways_12 : decode cX10_ways 12 = .ok (.invokevirtual 273, 3) := by decide +kernel
theorem dX10_ways_15 : decode cX10_ways 15 = .ok (.aload_n 0, 1) := by decide +kernel
theorem dX10_ways_16 : decode cX10_ways 16 = .ok (.getfield 71, 3) := by decide +kernel
theorem dX10_ways_19 : decode cX10_ways 19 = .ok (.invokevirtual 292, 3) := by decide +kernel
theorem dX10_ways_22 : decode cX10_ways 22 = .ok (.ireturn, 1) := by decide +kernel
theorem dX10_unpicked_0 : decode cX10_unpicked 0 = .ok (.aload_n 0, 1) := by decide +kernel
theorem dX10_unpicked_1 : decode cX10_unpicked 1 = .ok (.invokevirtual 206, 3) := by decide +kernel
theorem dX10_unpicked_4 : decode cX10_unpicked 4 = .ok (.iload_n 2, 1) := by decide +kernel
theorem dX10_unpicked_5 : decode cX10_unpicked 5 = .ok (.ifCond .lt 8, 3) := by decide +kernel
theorem dX10_unpicked_8 : decode cX10_unpicked 8 = .ok (.iload_n 2, 1) := by decide +kernel
theorem dX10_unpicked_9 : decode cX10_unpicked 9 = .ok (.iconst 2, 1) := by decide +kernel
theorem dX10_unpicked_10 : decode cX10_unpicked 10 = .ok (.if_icmp .le 14, 3) := by decide +kernel
theorem dX10_unpicked_13 : decode cX10_unpicked 13 = .ok (.new 100, 3) := by decide +kernel
theorem dX10_unpicked_16 : decode cX10_unpicked 16 = .ok (.dup, 1) := by decide +kernel
theorem dX10_unpicked_17 : decode cX10_unpicked 17 = .ok (.ldc_w 295, 3) := by decide +kernel
theorem dX10_unpicked_20 : decode cX10_unpicked 20 = .ok (.invokespecial 104, 3) := by decide +kernel
theorem dX10_unpicked_23 : decode cX10_unpicked 23 = .ok (.athrow, 1) := by decide +kernel
theorem dX10_unpicked_24 : decode cX10_unpicked 24 = .ok (.aload_n 0, 1) := by decide +kernel
theorem dX10_unpicked_25 : decode cX10_unpicked 25 = .ok (.getfield 80, 3) := by decide +kernel
theorem dX10_unpicked_28 : decode cX10_unpicked 28 = .ok (.aload_n 0, 1) := by decide +kernel
theorem dX10_unpicked_29 : decode cX10_unpicked 29 = .ok (.getfield 61, 3) := by decide +kernel
theorem dX10_unpicked_32 : decode cX10_unpicked 32 = .ok (.iload_n 1, 1) := by decide +kernel
theorem dX10_unpicked_33 : decode cX10_unpicked 33 = .ok (.invokevirtual 297, 3) := by decide +kernel
theorem dX10_unpicked_36 : decode cX10_unpicked 36 = .ok (.aload_n 0, 1) := by decide +kernel
theorem dX10_unpicked_37 : decode cX10_unpicked 37 = .ok (.getfield 80, 3) := by decide +kernel
theorem dX10_unpicked_40 : decode cX10_unpicked 40 = .ok (.getfield 301, 3) := by decide +kernel
theorem dX10_unpicked_43 : decode cX10_unpicked 43 = .ok (.iconst (-1), 1) := by decide +kernel
theorem dX10_unpicked_44 : decode cX10_unpicked 44 = .ok (.if_icmp .eq 8, 3) := by decide +kernel
theorem dX10_unpicked_47 : decode cX10_unpicked 47 = .ok (.iload_n 2, 1) := by decide +kernel
theorem dX10_unpicked_48 : decode cX10_unpicked 48 = .ok (.iconst 1, 1) := by decide +kernel
theorem dX10_unpicked_49 : decode cX10_unpicked 49 = .ok (.if_icmp .ne 11, 3) := by decide +kernel
theorem dX10_unpicked_52 : decode cX10_unpicked 52 = .ok (.aload_n 0, 1) := by decide +kernel
theorem dX10_unpicked_53 : decode cX10_unpicked 53 = .ok (.getfield 80, 3) := by decide +kernel
theorem dX10_unpicked_56 : decode cX10_unpicked 56 = .ok (.getfield 301, 3) := by decide +kernel
theorem dX10_unpicked_59 : decode cX10_unpicked 59 = .ok (.ireturn, 1) := by decide +kernel
theorem dX10_unpicked_60 : decode cX10_unpicked 60 = .ok (.iload_n 2, 1) := by decide +kernel
theorem dX10_unpicked_61 : decode cX10_unpicked 61 = .ok (.ifCond .ne 21, 3) := by decide +kernel
theorem dX10_unpicked_64 : decode cX10_unpicked 64 = .ok (.aload_n 0, 1) := by decide +kernel
theorem dX10_unpicked_65 : decode cX10_unpicked 65 = .ok (.getfield 80, 3) := by decide +kernel
theorem dX10_unpicked_68 : decode cX10_unpicked 68 = .ok (.getfield 301, 3) := by decide +kernel
theorem dX10_unpicked_71 : decode cX10_unpicked 71 = .ok (.aload_n 0, 1) := by decide +kernel
theorem dX10_unpicked_72 : decode cX10_unpicked 72 = .ok (.getfield 80, 3) := by decide +kernel
theorem dX10_unpicked_75 : decode cX10_unpicked 75 = .ok (.getfield 304, 3) := by decide +kernel
theorem dX10_unpicked_78 : decode cX10_unpicked 78 = .ok (.iadd, 1) := by decide +kernel
theorem dX10_unpicked_79 : decode cX10_unpicked 79 = .ok (.goto 10, 3) := by decide +kernel
theorem dX10_unpicked_82 : decode cX10_unpicked 82 = .ok (.aload_n 0, 1) := by decide +kernel
theorem dX10_unpicked_83 : decode cX10_unpicked 83 = .ok (.getfield 80, 3) := by decide +kernel
theorem dX10_unpicked_86 : decode cX10_unpicked 86 = .ok (.getfield 304, 3) := by decide +kernel
theorem dX10_unpicked_89 : decode cX10_unpicked 89 = .ok (.ireturn, 1) := by decide +kernel
theorem dX10_places_0 : decode cX10_places 0 = .ok (.iload_n 1, 1) := by decide +kernel
theorem dX10_places_1 : decode cX10_places 1 = .ok (.invokestatic 176, 3) := by decide +kernel
theorem dX10_places_4 : decode cX10_places 4 = .ok (.aload_n 0, 1) := by decide +kernel
theorem dX10_places_5 : decode cX10_places 5 = .ok (.getfield 71, 3) := by decide +kernel
theorem dX10_places_8 : decode cX10_places 8 = .ok (.aload_n 0, 1) := by decide +kernel
theorem dX10_places_9 : decode cX10_places 9 = .ok (.getfield 61, 3) := by decide +kernel
theorem dX10_places_12 : decode cX10_places 12 = .ok (.iload_n 1, 1) := by decide +kernel
theorem dX10_places_13 : decode cX10_places 13 = .ok (.invokevirtual 307, 3) := by decide +kernel
theorem dX10_places_16 : decode cX10_places 16 = .ok (.ireturn, 1) := by decide +kernel
theorem dX10_threads_0 : decode cX10_threads 0 = .ok (.iload_n 1, 1) := by decide +kernel
theorem dX10_threads_1 : decode cX10_threads 1 = .ok (.invokestatic 176, 3) := by decide +kernel
theorem dX10_threads_4 : decode cX10_threads 4 = .ok (.iload_n 2, 1) := by decide +kernel
theorem dX10_threads_5 : decode cX10_threads 5 = .ok (.iconst 1, 1) := by decide +kernel
theorem dX10_threads_6 : decode cX10_threads 6 = .ok (.if_icmp .lt 9, 3) := by decide +kernel
theorem dX10_threads_9 : decode cX10_threads 9 = .ok (.iload_n 2, 1) := by decide +kernel
theorem dX10_threads_10 : decode cX10_threads 10 = .ok (.bipush 20, 2) := by decide +kernel
theorem dX10_threads_12 : decode cX10_threads 12 = .ok (.if_icmp .le 14, 3) := by decide +kernel
theorem dX10_threads_15 : decode cX10_threads 15 = .ok (.new 100, 3) := by decide +kernel
theorem dX10_threads_18 : decode cX10_threads 18 = .ok (.dup, 1) := by decide +kernel
theorem dX10_threads_19 : decode cX10_threads 19 = .ok (.ldc_w 311, 3) := by decide +kernel
theorem dX10_threads_22 : decode cX10_threads 22 = .ok (.invokespecial 104, 3) := by decide +kernel
theorem dX10_threads_25 : decode cX10_threads 25 = .ok (.athrow, 1) := by decide +kernel
theorem dX10_threads_26 : decode cX10_threads 26 = .ok (.aload_n 0, 1) := by decide +kernel
theorem dX10_threads_27 : decode cX10_threads 27 = .ok (.getfield 87, 3) := by decide +kernel
theorem dX10_threads_30 : decode cX10_threads 30 = .ok (.iload_n 1, 1) := by decide +kernel
theorem dX10_threads_31 : decode cX10_threads 31 = .ok (.iload_n 2, 1) := by decide +kernel
theorem dX10_threads_32 : decode cX10_threads 32 = .ok (.invokevirtual 313, 3) := by decide +kernel
theorem dX10_threads_35 : decode cX10_threads 35 = .ok (.ireturn, 1) := by decide +kernel
theorem dX10_seen_0 : decode cX10_seen 0 = .ok (.iload_n 1, 1) := by decide +kernel
theorem dX10_seen_1 : decode cX10_seen 1 = .ok (.ifCond .eq 13, 3) := by decide +kernel
theorem dX10_seen_4 : decode cX10_seen 4 = .ok (.aload_n 0, 1) := by decide +kernel
theorem dX10_seen_5 : decode cX10_seen 5 = .ok (.getfield 61, 3) := by decide +kernel
theorem dX10_seen_8 : decode cX10_seen 8 = .ok (.getfield 316, 3) := by decide +kernel
theorem dX10_seen_11 : decode cX10_seen 11 = .ok (.goto 10, 3) := by decide +kernel
theorem dX10_seen_14 : decode cX10_seen 14 = .ok (.aload_n 0, 1) := by decide +kernel
theorem dX10_seen_15 : decode cX10_seen 15 = .ok (.getfield 61, 3) := by decide +kernel
theorem dX10_seen_18 : decode cX10_seen 18 = .ok (.getfield 320, 3) := by decide +kernel
theorem dX10_seen_21 : decode cX10_seen 21 = .ok (.invokestatic 167, 3) := by decide +kernel
theorem dX10_seen_24 : decode cX10_seen 24 = .ok (.ireturn, 1) := by decide +kernel
theorem dX10_same_0 : decode cX10_same 0 = .ok (.aload_n 0, 1) := by decide +kernel
theorem dX10_same_1 : decode cX10_same 1 = .ok (.getfield 61, 3) := by decide +kernel
theorem dX10_same_4 : decode cX10_same 4 = .ok (.getfield 316, 3) := by decide +kernel
theorem dX10_same_7 : decode cX10_same 7 = .ok (.aload_n 0, 1) := by decide +kernel
theorem dX10_same_8 : decode cX10_same 8 = .ok (.getfield 61, 3) := by decide +kernel
theorem dX10_same_11 : decode cX10_same 11 = .ok (.getfield 320, 3) := by decide +kernel
theorem dX10_same_14 : decode cX10_same 14 = .ok (.lcmp, 1) := by decide +kernel
theorem dX10_same_15 : decode cX10_same 15 = .ok (.ifCond .ne 7, 3) := by decide +kernel
theorem dX10_same_18 : decode cX10_same 18 = .ok (.iconst 1, 1) := by decide +kernel
theorem dX10_same_19 : decode cX10_same 19 = .ok (.goto 4, 3) := by decide +kernel
theorem dX10_same_22 : decode cX10_same 22 = .ok (.iconst 0, 1) := by decide +kernel
theorem dX10_same_23 : decode cX10_same 23 = .ok (.ireturn, 1) := by decide +kernel
theorem dX10_sameAt_0 : decode cX10_sameAt 0 = .ok (.aload_n 0, 1) := by decide +kernel
theorem dX10_sameAt_1 : decode cX10_sameAt 1 = .ok (.invokevirtual 206, 3) := by decide +kernel
theorem dX10_sameAt_4 : decode cX10_sameAt 4 = .ok (.aload_n 0, 1) := by decide +kernel
theorem dX10_sameAt_5 : decode cX10_sameAt 5 = .ok (.getfield 65, 3) := by decide +kernel
theorem dX10_sameAt_8 : decode cX10_sameAt 8 = .ok (.aload_n 0, 1) := by decide +kernel
theorem dX10_sameAt_9 : decode cX10_sameAt 9 = .ok (.getfield 61, 3) := by decide +kernel
theorem dX10_sameAt_12 : decode cX10_sameAt 12 = .ok (.invokevirtual 254, 3) := by decide +kernel
theorem dX10_sameAt_15 : decode cX10_sameAt 15 = .ok (.aload_n 0, 1) := by decide +kernel
theorem dX10_sameAt_16 : decode cX10_sameAt 16 = .ok (.getfield 65, 3) := by decide +kernel
theorem dX10_sameAt_19 : decode cX10_sameAt 19 = .ok (.getfield 212, 3) := by decide +kernel
theorem dX10_sameAt_22 : decode cX10_sameAt 22 = .ok (.istore_n 2, 1) := by decide +kernel
theorem dX10_sameAt_23 : decode cX10_sameAt 23 = .ok (.iload_n 2, 1) := by decide +kernel
theorem dX10_sameAt_24 : decode cX10_sameAt 24 = .ok (.ifCond .le 16, 3) := by decide +kernel
theorem dX10_sameAt_27 : decode cX10_sameAt 27 = .ok (.aload_n 0, 1) := by decide +kernel
theorem dX10_sameAt_28 : decode cX10_sameAt 28 = .ok (.getfield 65, 3) := by decide +kernel
theorem dX10_sameAt_31 : decode cX10_sameAt 31 = .ok (.invokevirtual 223, 3) := by decide +kernel
theorem dX10_sameAt_34 : decode cX10_sameAt 34 = .ok (.iinc 2 (-1), 3) := by decide +kernel
theorem dX10_sameAt_37 : decode cX10_sameAt 37 = .ok (.goto (-14), 3) := by decide +kernel
theorem dX10_sameAt_40 : decode cX10_sameAt 40 = .ok (.aload_n 0, 1) := by decide +kernel
theorem dX10_sameAt_41 : decode cX10_sameAt 41 = .ok (.iload_n 1, 1) := by decide +kernel
theorem dX10_sameAt_42 : decode cX10_sameAt 42 = .ok (.invokevirtual 323, 3) := by decide +kernel
theorem dX10_sameAt_45 : decode cX10_sameAt 45 = .ok (.ireturn, 1) := by decide +kernel
theorem dX10_kthSame_0 : decode cX10_kthSame 0 = .ok (.iconst 0, 1) := by decide +kernel
theorem dX10_kthSame_1 : decode cX10_kthSame 1 = .ok (.istore_n 2, 1) := by decide +kernel
theorem dX10_kthSame_2 : decode cX10_kthSame 2 = .ok (.iconst 0, 1) := by decide +kernel
theorem dX10_kthSame_3 : decode cX10_kthSame 3 = .ok (.istore_n 3, 1) := by decide +kernel
theorem dX10_kthSame_4 : decode cX10_kthSame 4 = .ok (.iload_n 3, 1) := by decide +kernel
theorem dX10_kthSame_5 : decode cX10_kthSame 5 = .ok (.aload_n 0, 1) := by decide +kernel
theorem dX10_kthSame_6 : decode cX10_kthSame 6 = .ok (.getfield 61, 3) := by decide +kernel
theorem dX10_kthSame_9 : decode cX10_kthSame 9 = .ok (.getfield 212, 3) := by decide +kernel
theorem dX10_kthSame_12 : decode cX10_kthSame 12 = .ok (.if_icmp .gt 53, 3) := by decide +kernel
theorem dX10_kthSame_15 : decode cX10_kthSame 15 = .ok (.aload_n 0, 1) := by decide +kernel
theorem dX10_kthSame_16 : decode cX10_kthSame 16 = .ok (.getfield 65, 3) := by decide +kernel
theorem dX10_kthSame_19 : decode cX10_kthSame 19 = .ok (.getfield 316, 3) := by decide +kernel
theorem dX10_kthSame_22 : decode cX10_kthSame 22 = .ok (.aload_n 0, 1) := by decide +kernel
theorem dX10_kthSame_23 : decode cX10_kthSame 23 = .ok (.getfield 65, 3) := by decide +kernel
theorem dX10_kthSame_26 : decode cX10_kthSame 26 = .ok (.getfield 320, 3) := by decide +kernel
theorem dX10_kthSame_29 : decode cX10_kthSame 29 = .ok (.lcmp, 1) := by decide +kernel
theorem dX10_kthSame_30 : decode cX10_kthSame 30 = .ok (.ifCond .ne 13, 3) := by decide +kernel
theorem dX10_kthSame_33 : decode cX10_kthSame 33 = .ok (.iload_n 2, 1) := by decide +kernel
theorem dX10_kthSame_34 : decode cX10_kthSame 34 = .ok (.iload_n 1, 1) := by decide +kernel
theorem dX10_kthSame_35 : decode cX10_kthSame 35 = .ok (.if_icmp .ne 5, 3) := by decide +kernel
theorem dX10_kthSame_38 : decode cX10_kthSame 38 = .ok (.iload_n 3, 1) := by decide +kernel
theorem dX10_kthSame_39 : decode cX10_kthSame 39 = .ok (.ireturn, 1) := by decide +kernel
theorem dX10_kthSame_40 : decode cX10_kthSame 40 = .ok (.iinc 2 1, 3) := by decide +kernel
theorem dX10_kthSame_43 : decode cX10_kthSame 43 = .ok (.aload_n 0, 1) := by decide +kernel
theorem dX10_kthSame_44 : decode cX10_kthSame 44 = .ok (.getfield 65, 3) := by decide +kernel
theorem dX10_kthSame_47 : decode cX10_kthSame 47 = .ok (.aload_n 0, 1) := by decide +kernel
theorem dX10_kthSame_48 : decode cX10_kthSame 48 = .ok (.getfield 61, 3) := by decide +kernel
theorem dX10_kthSame_51 : decode cX10_kthSame 51 = .ok (.iload_n 3, 1) := by decide +kernel
theorem dX10_kthSame_52 : decode cX10_kthSame 52 = .ok (.invokevirtual 241, 3) := by decide +kernel
theorem dX10_kthSame_55 : decode cX10_kthSame 55 = .ok (.invokevirtual 218, 3) := by decide +kernel
theorem dX10_kthSame_58 : decode cX10_kthSame 58 = .ok (.pop, 1) := by decide +kernel
theorem dX10_kthSame_59 : decode cX10_kthSame 59 = .ok (.iinc 3 1, 3) := by decide +kernel
theorem dX10_kthSame_62 : decode cX10_kthSame 62 = .ok (.goto (-58), 3) := by decide +kernel
theorem dX10_kthSame_65 : decode cX10_kthSame 65 = .ok (.iconst (-1), 1) := by decide +kernel
theorem dX10_kthSame_66 : decode cX10_kthSame 66 = .ok (.ireturn, 1) := by decide +kernel
theorem dX10_unlike_0 : decode cX10_unlike 0 = .ok (.iload_n 1, 1) := by decide +kernel
theorem dX10_unlike_1 : decode cX10_unlike 1 = .ok (.invokestatic 147, 3) := by decide +kernel
theorem dX10_unlike_4 : decode cX10_unlike 4 = .ok (.aload_n 0, 1) := by decide +kernel
theorem dX10_unlike_5 : decode cX10_unlike 5 = .ok (.getfield 28, 3) := by decide +kernel
theorem dX10_unlike_8 : decode cX10_unlike 8 = .ok (.iload_n 1, 1) := by decide +kernel
theorem dX10_unlike_9 : decode cX10_unlike 9 = .ok (.invokevirtual 160, 3) := by decide +kernel
theorem dX10_unlike_12 : decode cX10_unlike 12 = .ok (.aload_n 0, 1) := by decide +kernel
theorem dX10_unlike_13 : decode cX10_unlike 13 = .ok (.getfield 61, 3) := by decide +kernel
theorem dX10_unlike_16 : decode cX10_unlike 16 = .ok (.getfield 316, 3) := by decide +kernel
theorem dX10_unlike_19 : decode cX10_unlike 19 = .ok (.aload_n 0, 1) := by decide +kernel
theorem dX10_unlike_20 : decode cX10_unlike 20 = .ok (.getfield 61, 3) := by decide +kernel
theorem dX10_unlike_23 : decode cX10_unlike 23 = .ok (.getfield 320, 3) := by decide +kernel
theorem dX10_unlike_26 : decode cX10_unlike 26 = .ok (.lxor, 1) := by decide +kernel
theorem dX10_unlike_27 : decode cX10_unlike 27 = .ok (.land, 1) := by decide +kernel
theorem dX10_unlike_28 : decode cX10_unlike 28 = .ok (.invokestatic 167, 3) := by decide +kernel
theorem dX10_unlike_31 : decode cX10_unlike 31 = .ok (.ireturn, 1) := by decide +kernel
theorem dX10_tray_0 : decode cX10_tray 0 = .ok (.aload_n 0, 1) := by decide +kernel
theorem dX10_tray_1 : decode cX10_tray 1 = .ok (.iload_n 1, 1) := by decide +kernel
theorem dX10_tray_2 : decode cX10_tray 2 = .ok (.invokevirtual 244, 3) := by decide +kernel
theorem dX10_tray_5 : decode cX10_tray 5 = .ok (.astore 4, 2) := by decide +kernel
theorem dX10_tray_7 : decode cX10_tray 7 = .ok (.iload_n 2, 1) := by decide +kernel
theorem dX10_tray_8 : decode cX10_tray 8 = .ok (.ifCond .lt 18, 3) := by decide +kernel
theorem dX10_tray_11 : decode cX10_tray 11 = .ok (.iload_n 2, 1) := by decide +kernel
theorem dX10_tray_12 : decode cX10_tray 12 = .ok (.iconst 3, 1) := by decide +kernel
theorem dX10_tray_13 : decode cX10_tray 13 = .ok (.if_icmp .gt 13, 3) := by decide +kernel
theorem dX10_tray_16 : decode cX10_tray 16 = .ok (.iload_n 3, 1) := by decide +kernel
theorem dX10_tray_17 : decode cX10_tray 17 = .ok (.ifCond .lt 9, 3) := by decide +kernel
theorem dX10_tray_20 : decode cX10_tray 20 = .ok (.iload_n 3, 1) := by decide +kernel
theorem dX10_tray_21 : decode cX10_tray 21 = .ok (.bipush 40, 2) := by decide +kernel
theorem dX10_tray_23 : decode cX10_tray 23 = .ok (.if_icmp .le 14, 3) := by decide +kernel
theorem dX10_tray_26 : decode cX10_tray 26 = .ok (.new 100, 3) := by decide +kernel
theorem dX10_tray_29 : decode cX10_tray 29 = .ok (.dup, 1) := by decide +kernel
theorem dX10_tray_30 : decode cX10_tray 30 = .ok (.ldc_w 326, 3) := by decide +kernel
theorem dX10_tray_33 : decode cX10_tray 33 = .ok (.invokespecial 104, 3) := by decide +kernel
theorem dX10_tray_36 : decode cX10_tray 36 = .ok (.athrow, 1) := by decide +kernel
theorem dX10_tray_37 : decode cX10_tray 37 = .ok (.aload 4, 2) := by decide +kernel
theorem dX10_tray_39 : decode cX10_tray 39 = .ok (.iload_n 2, 1) := by decide +kernel
theorem dX10_tray_40 : decode cX10_tray 40 = .ok (.iload_n 3, 1) := by decide +kernel
theorem dX10_tray_41 : decode cX10_tray 41 = .ok (.invokevirtual 328, 3) := by decide +kernel
theorem dX10_tray_44 : decode cX10_tray 44 = .ok (.return_, 1) := by decide +kernel
theorem dX10_write_0 : decode cX10_write 0 = .ok (.aload_n 0, 1) := by decide +kernel
theorem dX10_write_1 : decode cX10_write 1 = .ok (.iload_n 1, 1) := by decide +kernel
theorem dX10_write_2 : decode cX10_write 2 = .ok (.invokevirtual 244, 3) := by decide +kernel
theorem dX10_write_5 : decode cX10_write 5 = .ok (.astore 5, 2) := by decide +kernel
theorem dX10_write_7 : decode cX10_write 7 = .ok (.aload 5, 2) := by decide +kernel
theorem dX10_write_9 : decode cX10_write 9 = .ok (.invokestatic 248, 3) := by decide +kernel
theorem dX10_write_12 : decode cX10_write 12 = .ok (.iload_n 2, 1) := by decide +kernel
theorem dX10_write_13 : decode cX10_write 13 = .ok (.ifCond .lt 12, 3) := by decide +kernel
theorem dX10_write_16 : decode cX10_write 16 = .ok (.iload_n 2, 1) := by decide +kernel
theorem dX10_write_17 : decode cX10_write 17 = .ok (.aload 5, 2) := by decide +kernel
theorem dX10_write_19 : decode cX10_write 19 = .ok (.getfield 261, 3) := by decide +kernel
theorem dX10_write_22 : decode cX10_write 22 = .ok (.if_icmp .lt 14, 3) := by decide +kernel
theorem dX10_write_25 : decode cX10_write 25 = .ok (.new 332, 3) := by decide +kernel
theorem dX10_write_28 : decode cX10_write 28 = .ok (.dup, 1) := by decide +kernel
theorem dX10_write_29 : decode cX10_write 29 = .ok (.ldc_w 334, 3) := by decide +kernel
theorem dX10_write_32 : decode cX10_write 32 = .ok (.invokespecial 336, 3) := by decide +kernel
theorem dX10_write_35 : decode cX10_write 35 = .ok (.athrow, 1) := by decide +kernel
theorem dX10_write_36 : decode cX10_write 36 = .ok (.aload 5, 2) := by decide +kernel
theorem dX10_write_38 : decode cX10_write 38 = .ok (.iload_n 2, 1) := by decide +kernel
theorem dX10_write_39 : decode cX10_write 39 = .ok (.lload_n 3, 1) := by decide +kernel
theorem dX10_write_40 : decode cX10_write 40 = .ok (.invokevirtual 337, 3) := by decide +kernel
theorem dX10_write_43 : decode cX10_write 43 = .ok (.lreturn, 1) := by decide +kernel
theorem dX10_image_0 : decode cX10_image 0 = .ok (.aload_n 0, 1) := by decide +kernel
theorem dX10_image_1 : decode cX10_image 1 = .ok (.iload_n 1, 1) := by decide +kernel
theorem dX10_image_2 : decode cX10_image 2 = .ok (.invokevirtual 341, 3) := by decide +kernel
theorem dX10_image_5 : decode cX10_image 5 = .ok (.aload_n 0, 1) := by decide +kernel
theorem dX10_image_6 : decode cX10_image 6 = .ok (.getfield 28, 3) := by decide +kernel
theorem dX10_image_9 : decode cX10_image 9 = .ok (.aload_n 0, 1) := by decide +kernel
theorem dX10_image_10 : decode cX10_image 10 = .ok (.getfield 61, 3) := by decide +kernel
theorem dX10_image_13 : decode cX10_image 13 = .ok (.invokevirtual 345, 3) := by decide +kernel
theorem dX10_image_16 : decode cX10_image 16 = .ok (.return_, 1) := by decide +kernel
theorem dX10_restore_0 : decode cX10_restore 0 = .ok (.aload_n 0, 1) := by decide +kernel
theorem dX10_restore_1 : decode cX10_restore 1 = .ok (.iload_n 1, 1) := by decide +kernel
theorem dX10_restore_2 : decode cX10_restore 2 = .ok (.invokevirtual 341, 3) := by decide +kernel
theorem dX10_restore_5 : decode cX10_restore 5 = .ok (.astore_n 2, 1) := by decide +kernel
theorem dX10_restore_6 : decode cX10_restore 6 = .ok (.aload_n 2, 1) := by decide +kernel
theorem dX10_restore_7 : decode cX10_restore 7 = .ok (.getfield 349, 3) := by decide +kernel
theorem dX10_restore_10 : decode cX10_restore 10 = .ok (.ifCond .ne 14, 3) := by decide +kernel
theorem dX10_restore_13 : decode cX10_restore 13 = .ok (.new 353, 3) := by decide +kernel
theorem dX10_restore_16 : decode cX10_restore 16 = .ok (.dup, 1) := by decide +kernel
theorem dX10_restore_17 : decode cX10_restore 17 = .ok (.ldc_w 355, 3) := by decide +kernel
theorem dX10_restore_20 : decode cX10_restore 20 = .ok (.invokespecial 357, 3) := by decide +kernel
theorem dX10_restore_23 : decode cX10_restore 23 = .ok (.athrow, 1) := by decide +kernel
theorem dX10_restore_24 : decode cX10_restore 24 = .ok (.aload_n 0, 1) := by decide +kernel
theorem dX10_restore_25 : decode cX10_restore 25 = .ok (.getfield 28, 3) := by decide +kernel
theorem dX10_restore_28 : decode cX10_restore 28 = .ok (.aload_n 2, 1) := by decide +kernel
theorem dX10_restore_29 : decode cX10_restore 29 = .ok (.getfield 358, 3) := by decide +kernel
theorem dX10_restore_32 : decode cX10_restore 32 = .ok (.invokevirtual 120, 3) := by decide +kernel
theorem dX10_restore_35 : decode cX10_restore 35 = .ok (.aload_n 0, 1) := by decide +kernel
theorem dX10_restore_36 : decode cX10_restore 36 = .ok (.getfield 61, 3) := by decide +kernel
theorem dX10_restore_39 : decode cX10_restore 39 = .ok (.aload_n 2, 1) := by decide +kernel
theorem dX10_restore_40 : decode cX10_restore 40 = .ok (.getfield 359, 3) := by decide +kernel
theorem dX10_restore_43 : decode cX10_restore 43 = .ok (.invokevirtual 254, 3) := by decide +kernel
theorem dX10_restore_46 : decode cX10_restore 46 = .ok (.return_, 1) := by decide +kernel
theorem dX10_count_0 : decode cX10_count 0 = .ok (.iload_n 1, 1) := by decide +kernel
theorem dX10_count_1 : decode cX10_count 1 = .ok (.tableswitch 86 0 4 #[35, 43, 51, 59, 78], 35) := by decide +kernel
theorem dX10_count_36 : decode cX10_count 36 = .ok (.aload_n 0, 1) := by decide +kernel
theorem dX10_count_37 : decode cX10_count 37 = .ok (.getfield 28, 3) := by decide +kernel
theorem dX10_count_40 : decode cX10_count 40 = .ok (.getfield 126, 3) := by decide +kernel
theorem dX10_count_43 : decode cX10_count 43 = .ok (.ireturn, 1) := by decide +kernel
theorem dX10_count_44 : decode cX10_count 44 = .ok (.aload_n 0, 1) := by decide +kernel
theorem dX10_count_45 : decode cX10_count 45 = .ok (.getfield 28, 3) := by decide +kernel
theorem dX10_count_48 : decode cX10_count 48 = .ok (.getfield 360, 3) := by decide +kernel
theorem dX10_count_51 : decode cX10_count 51 = .ok (.ireturn, 1) := by decide +kernel
theorem dX10_count_52 : decode cX10_count 52 = .ok (.aload_n 0, 1) := by decide +kernel
theorem dX10_count_53 : decode cX10_count 53 = .ok (.getfield 61, 3) := by decide +kernel
theorem dX10_count_56 : decode cX10_count 56 = .ok (.getfield 363, 3) := by decide +kernel
theorem dX10_count_59 : decode cX10_count 59 = .ok (.ireturn, 1) := by decide +kernel
theorem dX10_count_60 : decode cX10_count 60 = .ok (.aload_n 0, 1) := by decide +kernel
theorem dX10_count_61 : decode cX10_count 61 = .ok (.getfield 61, 3) := by decide +kernel
theorem dX10_count_64 : decode cX10_count 64 = .ok (.getfield 316, 3) := by decide +kernel
theorem dX10_count_67 : decode cX10_count 67 = .ok (.aload_n 0, 1) := by decide +kernel
theorem dX10_count_68 : decode cX10_count 68 = .ok (.getfield 61, 3) := by decide +kernel
theorem dX10_count_71 : decode cX10_count 71 = .ok (.getfield 320, 3) := by decide +kernel
theorem dX10_count_74 : decode cX10_count 74 = .ok (.land, 1) := by decide +kernel
theorem dX10_count_75 : decode cX10_count 75 = .ok (.invokestatic 167, 3) := by decide +kernel
theorem dX10_count_78 : decode cX10_count 78 = .ok (.ireturn, 1) := by decide +kernel
theorem dX10_count_79 : decode cX10_count 79 = .ok (.aload_n 0, 1) := by decide +kernel
theorem dX10_count_80 : decode cX10_count 80 = .ok (.getfield 43, 3) := by decide +kernel
theorem dX10_count_83 : decode cX10_count 83 = .ok (.getfield 93, 3) := by decide +kernel
theorem dX10_count_86 : decode cX10_count 86 = .ok (.ireturn, 1) := by decide +kernel
theorem dX10_count_87 : decode cX10_count 87 = .ok (.iconst (-1), 1) := by decide +kernel
theorem dX10_count_88 : decode cX10_count 88 = .ok (.ireturn, 1) := by decide +kernel
theorem dX10_checkHole_0 : decode cX10_checkHole 0 = .ok (.iload_n 0, 1) := by decide +kernel
theorem dX10_checkHole_1 : decode cX10_checkHole 1 = .ok (.ifCond .lt 10, 3) := by decide +kernel
theorem dX10_checkHole_4 : decode cX10_checkHole 4 = .ok (.iload_n 0, 1) := by decide +kernel
theorem dX10_checkHole_5 : decode cX10_checkHole 5 = .ok (.sipush 144, 3) := by decide +kernel
theorem dX10_checkHole_8 : decode cX10_checkHole 8 = .ok (.if_icmp .lt 14, 3) := by decide +kernel
theorem dX10_checkHole_11 : decode cX10_checkHole 11 = .ok (.new 366, 3) := by decide +kernel
theorem dX10_checkHole_14 : decode cX10_checkHole 14 = .ok (.dup, 1) := by decide +kernel
theorem dX10_checkHole_15 : decode cX10_checkHole 15 = .ok (.ldc_w 368, 3) := by decide +kernel
theorem dX10_checkHole_18 : decode cX10_checkHole 18 = .ok (.invokespecial 370, 3) := by decide +kernel
theorem dX10_checkHole_21 : decode cX10_checkHole 21 = .ok (.athrow, 1) := by decide +kernel
theorem dX10_checkHole_22 : decode cX10_checkHole 22 = .ok (.return_, 1) := by decide +kernel
theorem dX10_checkWay_0 : decode cX10_checkWay 0 = .ok (.iload_n 0, 1) := by decide +kernel
theorem dX10_checkWay_1 : decode cX10_checkWay 1 = .ok (.ifCond .lt 9, 3) := by decide +kernel
theorem dX10_checkWay_4 : decode cX10_checkWay 4 = .ok (.iload_n 0, 1) := by decide +kernel
theorem dX10_checkWay_5 : decode cX10_checkWay 5 = .ok (.bipush 8, 2) := by decide +kernel
theorem dX10_checkWay_7 : decode cX10_checkWay 7 = .ok (.if_icmp .lt 14, 3) := by decide +kernel
theorem dX10_checkWay_10 : decode cX10_checkWay 10 = .ok (.new 366, 3) := by decide +kernel
theorem dX10_checkWay_13 : decode cX10_checkWay 13 = .ok (.dup, 1) := by decide +kernel
theorem dX10_checkWay_14 : decode cX10_checkWay 14 = .ok (.ldc_w 371, 3) := by decide +kernel
theorem dX10_checkWay_17 : decode cX10_checkWay 17 = .ok (.invokespecial 370, 3) := by decide +kernel
theorem dX10_checkWay_20 : decode cX10_checkWay 20 = .ok (.athrow, 1) := by decide +kernel
theorem dX10_checkWay_21 : decode cX10_checkWay 21 = .ok (.return_, 1) := by decide +kernel
theorem dX10_checkLine_0 : decode cX10_checkLine 0 = .ok (.iload_n 1, 1) := by decide +kernel
theorem dX10_checkLine_1 : decode cX10_checkLine 1 = .ok (.ifCond .lt 14, 3) := by decide +kernel
theorem dX10_checkLine_4 : decode cX10_checkLine 4 = .ok (.iload_n 1, 1) := by decide +kernel
theorem dX10_checkLine_5 : decode cX10_checkLine 5 = .ok (.aload_n 0, 1) := by decide +kernel
theorem dX10_checkLine_6 : decode cX10_checkLine 6 = .ok (.getfield 28, 3) := by decide +kernel
theorem dX10_checkLine_9 : decode cX10_checkLine 9 = .ok (.getfield 126, 3) := by decide +kernel
theorem dX10_checkLine_12 : decode cX10_checkLine 12 = .ok (.if_icmp .lt 14, 3) := by decide +kernel
theorem dX10_checkLine_15 : decode cX10_checkLine 15 = .ok (.new 366, 3) := by decide +kernel
theorem dX10_checkLine_18 : decode cX10_checkLine 18 = .ok (.dup, 1) := by decide +kernel
theorem dX10_checkLine_19 : decode cX10_checkLine 19 = .ok (.ldc_w 373, 3) := by decide +kernel
theorem dX10_checkLine_22 : decode cX10_checkLine 22 = .ok (.invokespecial 370, 3) := by decide +kernel
theorem dX10_checkLine_25 : decode cX10_checkLine 25 = .ok (.athrow, 1) := by decide +kernel
theorem dX10_checkLine_26 : decode cX10_checkLine 26 = .ok (.return_, 1) := by decide +kernel
theorem dX10_checkInk_0 : decode cX10_checkInk 0 = .ok (.iload_n 0, 1) := by decide +kernel
theorem dX10_checkInk_1 : decode cX10_checkInk 1 = .ok (.ifCond .lt 8, 3) := by decide +kernel
theorem dX10_checkInk_4 : decode cX10_checkInk 4 = .ok (.iload_n 0, 1) := by decide +kernel
theorem dX10_checkInk_5 : decode cX10_checkInk 5 = .ok (.iconst 4, 1) := by decide +kernel
theorem dX10_checkInk_6 : decode cX10_checkInk 6 = .ok (.if_icmp .lt 14, 3) := by decide +kernel
theorem dX10_checkInk_9 : decode cX10_checkInk 9 = .ok (.new 100, 3) := by decide +kernel
theorem dX10_checkInk_12 : decode cX10_checkInk 12 = .ok (.dup, 1) := by decide +kernel
theorem dX10_checkInk_13 : decode cX10_checkInk 13 = .ok (.ldc_w 375, 3) := by decide +kernel
theorem dX10_checkInk_16 : decode cX10_checkInk 16 = .ok (.invokespecial 104, 3) := by decide +kernel
theorem dX10_checkInk_19 : decode cX10_checkInk 19 = .ok (.athrow, 1) := by decide +kernel
theorem dX10_checkInk_20 : decode cX10_checkInk 20 = .ok (.return_, 1) := by decide +kernel
theorem dX10_checkInkOrAll_0 : decode cX10_checkInkOrAll 0 = .ok (.iload_n 0, 1) := by decide +kernel
theorem dX10_checkInkOrAll_1 : decode cX10_checkInkOrAll 1 = .ok (.iconst (-1), 1) := by decide +kernel
theorem dX10_checkInkOrAll_2 : decode cX10_checkInkOrAll 2 = .ok (.if_icmp .eq 7, 3) := by decide +kernel
theorem dX10_checkInkOrAll_5 : decode cX10_checkInkOrAll 5 = .ok (.iload_n 0, 1) := by decide +kernel
theorem dX10_checkInkOrAll_6 : decode cX10_checkInkOrAll 6 = .ok (.invokestatic 176, 3) := by decide +kernel
theorem dX10_checkInkOrAll_9 : decode cX10_checkInkOrAll 9 = .ok (.return_, 1) := by decide +kernel
theorem dX10_checkThread_0 : decode cX10_checkThread 0 = .ok (.aload_n 0, 1) := by decide +kernel
theorem dX10_checkThread_1 : decode cX10_checkThread 1 = .ok (.getfield 61, 3) := by decide +kernel
theorem dX10_checkThread_4 : decode cX10_checkThread 4 = .ok (.getfield 377, 3) := by decide +kernel
theorem dX10_checkThread_7 : decode cX10_checkThread 7 = .ok (.ifCond .ne 14, 3) := by decide +kernel
theorem dX10_checkThread_10 : decode cX10_checkThread 10 = .ok (.new 353, 3) := by decide +kernel
theorem dX10_checkThread_13 : decode cX10_checkThread 13 = .ok (.dup, 1) := by decide +kernel
theorem dX10_checkThread_14 : decode cX10_checkThread 14 = .ok (.ldc_w 380, 3) := by decide +kernel
theorem dX10_checkThread_17 : decode cX10_checkThread 17 = .ok (.invokespecial 357, 3) := by decide +kernel
theorem dX10_checkThread_20 : decode cX10_checkThread 20 = .ok (.athrow, 1) := by decide +kernel
theorem dX10_checkThread_21 : decode cX10_checkThread 21 = .ok (.return_, 1) := by decide +kernel
theorem dX10_checkTray_0 : decode cX10_checkTray 0 = .ok (.iload_n 1, 1) := by decide +kernel
theorem dX10_checkTray_1 : decode cX10_checkTray 1 = .ok (.ifCond .lt 12, 3) := by decide +kernel
theorem dX10_checkTray_4 : decode cX10_checkTray 4 = .ok (.iload_n 1, 1) := by decide +kernel
theorem dX10_checkTray_5 : decode cX10_checkTray 5 = .ok (.aload_n 0, 1) := by decide +kernel
theorem dX10_checkTray_6 : decode cX10_checkTray 6 = .ok (.getfield 11, 3) := by decide +kernel
theorem dX10_checkTray_9 : decode cX10_checkTray 9 = .ok (.arraylength, 1) := by decide +kernel
theorem dX10_checkTray_10 : decode cX10_checkTray 10 = .ok (.if_icmp .lt 14, 3) := by decide +kernel
theorem dX10_checkTray_13 : decode cX10_checkTray 13 = .ok (.new 366, 3) := by decide +kernel
theorem dX10_checkTray_16 : decode cX10_checkTray 16 = .ok (.dup, 1) := by decide +kernel
theorem dX10_checkTray_17 : decode cX10_checkTray 17 = .ok (.ldc_w 382, 3) := by decide +kernel
theorem dX10_checkTray_20 : decode cX10_checkTray 20 = .ok (.invokespecial 370, 3) := by decide +kernel
theorem dX10_checkTray_23 : decode cX10_checkTray 23 = .ok (.athrow, 1) := by decide +kernel
theorem dX10_checkTray_24 : decode cX10_checkTray 24 = .ok (.aload_n 0, 1) := by decide +kernel
theorem dX10_checkTray_25 : decode cX10_checkTray 25 = .ok (.getfield 11, 3) := by decide +kernel
theorem dX10_checkTray_28 : decode cX10_checkTray 28 = .ok (.iload_n 1, 1) := by decide +kernel
theorem dX10_checkTray_29 : decode cX10_checkTray 29 = .ok (.aaload, 1) := by decide +kernel
theorem dX10_checkTray_30 : decode cX10_checkTray 30 = .ok (.areturn, 1) := by decide +kernel
theorem dX10_checkThere_0 : decode cX10_checkThere 0 = .ok (.aload_n 0, 1) := by decide +kernel
theorem dX10_checkThere_1 : decode cX10_checkThere 1 = .ok (.getfield 384, 3) := by decide +kernel
theorem dX10_checkThere_4 : decode cX10_checkThere 4 = .ok (.ifCond .ne 14, 3) := by decide +kernel
theorem dX10_checkThere_7 : decode cX10_checkThere 7 = .ok (.new 353, 3) := by decide +kernel
theorem dX10_checkThere_10 : decode cX10_checkThere 10 = .ok (.dup, 1) := by decide +kernel
theorem dX10_checkThere_11 : decode cX10_checkThere 11 = .ok (.ldc_w 385, 3) := by decide +kernel
theorem dX10_checkThere_14 : decode cX10_checkThere 14 = .ok (.invokespecial 357, 3) := by decide +kernel
theorem dX10_checkThere_17 : decode cX10_checkThere 17 = .ok (.athrow, 1) := by decide +kernel
theorem dX10_checkThere_18 : decode cX10_checkThere 18 = .ok (.return_, 1) := by decide +kernel
theorem dX10_checkImage_0 : decode cX10_checkImage 0 = .ok (.iload_n 1, 1) := by decide +kernel
theorem dX10_checkImage_1 : decode cX10_checkImage 1 = .ok (.ifCond .lt 12, 3) := by decide +kernel
theorem dX10_checkImage_4 : decode cX10_checkImage 4 = .ok (.iload_n 1, 1) := by decide +kernel
theorem dX10_checkImage_5 : decode cX10_checkImage 5 = .ok (.aload_n 0, 1) := by decide +kernel
theorem dX10_checkImage_6 : decode cX10_checkImage 6 = .ok (.getfield 17, 3) := by decide +kernel
theorem dX10_checkImage_9 : decode cX10_checkImage 9 = .ok (.arraylength, 1) := by decide +kernel
theorem dX10_checkImage_10 : decode cX10_checkImage 10 = .ok (.if_icmp .lt 14, 3) := by decide +kernel
theorem dX10_checkImage_13 : decode cX10_checkImage 13 = .ok (.new 366, 3) := by decide +kernel
theorem dX10_checkImage_16 : decode cX10_checkImage 16 = .ok (.dup, 1) := by decide +kernel
theorem dX10_checkImage_17 : decode cX10_checkImage 17 = .ok (.ldc_w 387, 3) := by decide +kernel
theorem dX10_checkImage_20 : decode cX10_checkImage 20 = .ok (.invokespecial 370, 3) := by decide +kernel
theorem dX10_checkImage_23 : decode cX10_checkImage 23 = .ok (.athrow, 1) := by decide +kernel
theorem dX10_checkImage_24 : decode cX10_checkImage 24 = .ok (.aload_n 0, 1) := by decide +kernel
theorem dX10_checkImage_25 : decode cX10_checkImage 25 = .ok (.getfield 17, 3) := by decide +kernel
theorem dX10_checkImage_28 : decode cX10_checkImage 28 = .ok (.iload_n 1, 1) := by decide +kernel
theorem dX10_checkImage_29 : decode cX10_checkImage 29 = .ok (.aaload, 1) := by decide +kernel
theorem dX10_checkImage_30 : decode cX10_checkImage 30 = .ok (.areturn, 1) := by decide +kernel
theorem dX10_lowest_0 : decode cX10_lowest 0 = .ok (.lload_n 0, 1) := by decide +kernel
theorem dX10_lowest_1 : decode cX10_lowest 1 = .ok (.lload_n 0, 1) := by decide +kernel
theorem dX10_lowest_2 : decode cX10_lowest 2 = .ok (.lneg, 1) := by decide +kernel
theorem dX10_lowest_3 : decode cX10_lowest 3 = .ok (.land, 1) := by decide +kernel
theorem dX10_lowest_4 : decode cX10_lowest 4 = .ok (.lconst 1, 1) := by decide +kernel
theorem dX10_lowest_5 : decode cX10_lowest 5 = .ok (.lsub, 1) := by decide +kernel
theorem dX10_lowest_6 : decode cX10_lowest 6 = .ok (.invokestatic 167, 3) := by decide +kernel
theorem dX10_lowest_9 : decode cX10_lowest 9 = .ok (.ireturn, 1) := by decide +kernel
theorem dX10_step_0 : decode cX10_step 0 = .ok (.iload_n 0, 1) := by decide +kernel
theorem dX10_step_1 : decode cX10_step 1 = .ok (.ifCond .lt 30, 3) := by decide +kernel
theorem dX10_step_4 : decode cX10_step 4 = .ok (.iload_n 0, 1) := by decide +kernel
theorem dX10_step_5 : decode cX10_step 5 = .ok (.sipush 144, 3) := by decide +kernel
theorem dX10_step_8 : decode cX10_step 8 = .ok (.if_icmp .ge 23, 3) := by decide +kernel
theorem dX10_step_11 : decode cX10_step 11 = .ok (.iload_n 1, 1) := by decide +kernel
theorem dX10_step_12 : decode cX10_step 12 = .ok (.ifCond .lt 19, 3) := by decide +kernel
theorem dX10_step_15 : decode cX10_step 15 = .ok (.iload_n 1, 1) := by decide +kernel
theorem dX10_step_16 : decode cX10_step 16 = .ok (.getstatic 389, 3) := by decide +kernel
theorem dX10_step_19 : decode cX10_step 19 = .ok (.arraylength, 1) := by decide +kernel
theorem dX10_step_20 : decode cX10_step 20 = .ok (.if_icmp .ge 11, 3) := by decide +kernel
theorem dX10_step_23 : decode cX10_step 23 = .ok (.iload_n 1, 1) := by decide +kernel
theorem dX10_step_24 : decode cX10_step 24 = .ok (.getstatic 393, 3) := by decide +kernel
theorem dX10_step_27 : decode cX10_step 27 = .ok (.arraylength, 1) := by decide +kernel
theorem dX10_step_28 : decode cX10_step 28 = .ok (.if_icmp .lt 5, 3) := by decide +kernel
theorem dX10_step_31 : decode cX10_step 31 = .ok (.iconst (-1), 1) := by decide +kernel
theorem dX10_step_32 : decode cX10_step 32 = .ok (.ireturn, 1) := by decide +kernel
theorem dX10_step_33 : decode cX10_step 33 = .ok (.iload_n 0, 1) := by decide +kernel
theorem dX10_step_34 : decode cX10_step 34 = .ok (.bipush 12, 2) := by decide +kernel
theorem dX10_step_36 : decode cX10_step 36 = .ok (.irem, 1) := by decide +kernel
theorem dX10_step_37 : decode cX10_step 37 = .ok (.getstatic 389, 3) := by decide +kernel
theorem dX10_step_40 : decode cX10_step 40 = .ok (.iload_n 1, 1) := by decide +kernel
theorem dX10_step_41 : decode cX10_step 41 = .ok (.iaload, 1) := by decide +kernel
theorem dX10_step_42 : decode cX10_step 42 = .ok (.iadd, 1) := by decide +kernel
theorem dX10_step_43 : decode cX10_step 43 = .ok (.iload_n 0, 1) := by decide +kernel
theorem dX10_step_44 : decode cX10_step 44 = .ok (.bipush 12, 2) := by decide +kernel
theorem dX10_step_46 : decode cX10_step 46 = .ok (.idiv, 1) := by decide +kernel
theorem dX10_step_47 : decode cX10_step 47 = .ok (.getstatic 393, 3) := by decide +kernel
theorem dX10_step_50 : decode cX10_step 50 = .ok (.iload_n 1, 1) := by decide +kernel
theorem dX10_step_51 : decode cX10_step 51 = .ok (.iaload, 1) := by decide +kernel
theorem dX10_step_52 : decode cX10_step 52 = .ok (.iadd, 1) := by decide +kernel
theorem dX10_step_53 : decode cX10_step 53 = .ok (.invokestatic 396, 3) := by decide +kernel
theorem dX10_step_56 : decode cX10_step 56 = .ok (.ireturn, 1) := by decide +kernel
theorem dX10_holeAt_0 : decode cX10_holeAt 0 = .ok (.iload_n 0, 1) := by decide +kernel
theorem dX10_holeAt_1 : decode cX10_holeAt 1 = .ok (.ifCond .lt 19, 3) := by decide +kernel
theorem dX10_holeAt_4 : decode cX10_holeAt 4 = .ok (.iload_n 0, 1) := by decide +kernel
theorem dX10_holeAt_5 : decode cX10_holeAt 5 = .ok (.bipush 12, 2) := by decide +kernel
theorem dX10_holeAt_7 : decode cX10_holeAt 7 = .ok (.if_icmp .ge 13, 3) := by decide +kernel
theorem dX10_holeAt_10 : decode cX10_holeAt 10 = .ok (.iload_n 1, 1) := by decide +kernel
theorem dX10_holeAt_11 : decode cX10_holeAt 11 = .ok (.ifCond .lt 9, 3) := by decide +kernel
theorem dX10_holeAt_14 : decode cX10_holeAt 14 = .ok (.iload_n 1, 1) := by decide +kernel
theorem dX10_holeAt_15 : decode cX10_holeAt 15 = .ok (.bipush 12, 2) := by decide +kernel
theorem dX10_holeAt_17 : decode cX10_holeAt 17 = .ok (.if_icmp .lt 7, 3) := by decide +kernel
theorem dX10_holeAt_20 : decode cX10_holeAt 20 = .ok (.iconst (-1), 1) := by decide +kernel
theorem dX10_holeAt_21 : decode cX10_holeAt 21 = .ok (.goto 9, 3) := by decide +kernel
theorem dX10_holeAt_24 : decode cX10_holeAt 24 = .ok (.bipush 12, 2) := by decide +kernel
theorem dX10_holeAt_26 : decode cX10_holeAt 26 = .ok (.iload_n 1, 1) := by decide +kernel
theorem dX10_holeAt_27 : decode cX10_holeAt 27 = .ok (.imul, 1) := by decide +kernel
theorem dX10_holeAt_28 : decode cX10_holeAt 28 = .ok (.iload_n 0, 1) := by decide +kernel
theorem dX10_holeAt_29 : decode cX10_holeAt 29 = .ok (.iadd, 1) := by decide +kernel
theorem dX10_holeAt_30 : decode cX10_holeAt 30 = .ok (.ireturn, 1) := by decide +kernel
theorem dX11_init_0 : decode cX11_init 0 = .ok (.aload_n 0, 1) := by decide +kernel
theorem dX11_init_1 : decode cX11_init 1 = .ok (.invokespecial 1, 3) := by decide +kernel
theorem dX11_init_4 : decode cX11_init 4 = .ok (.aload_n 0, 1) := by decide +kernel
theorem dX11_init_5 : decode cX11_init 5 = .ok (.sipush 512, 3) := by decide +kernel
theorem dX11_init_8 : decode cX11_init 8 = .ok (.newarray .int, 2) := by decide +kernel
theorem dX11_init_10 : decode cX11_init 10 = .ok (.putfield 9, 3) := by decide +kernel
theorem dX11_init_13 : decode cX11_init 13 = .ok (.aload_n 0, 1) := by decide +kernel
theorem dX11_init_14 : decode cX11_init 14 = .ok (.sipush 512, 3) := by decide +kernel
theorem dX11_init_17 : decode cX11_init 17 = .ok (.newarray .int, 2) := by decide +kernel
theorem dX11_init_19 : decode cX11_init 19 = .ok (.putfield 13, 3) := by decide +kernel
theorem dX11_init_22 : decode cX11_init 22 = .ok (.aload_n 0, 1) := by decide +kernel
theorem dX11_init_23 : decode cX11_init 23 = .ok (.sipush 1536, 3) := by decide +kernel
theorem dX11_init_26 : decode cX11_init 26 = .ok (.newarray .int, 2) := by decide +kernel
theorem dX11_init_28 : decode cX11_init 28 = .ok (.putfield 16, 3) := by decide +kernel
theorem dX11_init_31 : decode cX11_init 31 = .ok (.aload_n 0, 1) := by decide +kernel
theorem dX11_init_32 : decode cX11_init 32 = .ok (.sipush 512, 3) := by decide +kernel
theorem dX11_init_35 : decode cX11_init 35 = .ok (.newarray .int, 2) := by decide +kernel
theorem dX11_init_37 : decode cX11_init 37 = .ok (.putfield 19, 3) := by decide +kernel
theorem dX11_init_40 : decode cX11_init 40 = .ok (.aload_n 0, 1) := by decide +kernel
theorem dX11_init_41 : decode cX11_init 41 = .ok (.iconst 3, 1) := by decide +kernel
theorem dX11_init_42 : decode cX11_init 42 = .ok (.newarray .boolean, 2) := by decide +kernel
theorem dX11_init_44 : decode cX11_init 44 = .ok (.putfield 22, 3) := by decide +kernel
theorem dX11_init_47 : decode cX11_init 47 = .ok (.aload_n 0, 1) := by decide +kernel
theorem dX11_init_48 : decode cX11_init 48 = .ok (.sipush 700, 3) := by decide +kernel
theorem dX11_init_51 : decode cX11_init 51 = .ok (.newarray .int, 2) := by decide +kernel
theorem dX11_init_53 : decode cX11_init 53 = .ok (.putfield 26, 3) := by decide +kernel
theorem dX11_init_56 : decode cX11_init 56 = .ok (.aload_n 0, 1) := by decide +kernel
theorem dX11_init_57 : decode cX11_init 57 = .ok (.iconst (-1), 1) := by decide +kernel
theorem dX11_init_58 : decode cX11_init 58 = .ok (.putfield 29, 3) := by decide +kernel
theorem dX11_init_61 : decode cX11_init 61 = .ok (.aload_n 0, 1) := by decide +kernel
theorem dX11_init_62 : decode cX11_init 62 = .ok (.sipush 1600, 3) := by decide +kernel
theorem dX11_init_65 : decode cX11_init 65 = .ok (.newarray .int, 2) := by decide +kernel
theorem dX11_init_67 : decode cX11_init 67 = .ok (.putfield 33, 3) := by decide +kernel
theorem dX11_init_70 : decode cX11_init 70 = .ok (.aload_n 0, 1) := by decide +kernel
theorem dX11_init_71 : decode cX11_init 71 = .ok (.bipush 6, 2) := by decide +kernel
theorem dX11_init_73 : decode cX11_init 73 = .ok (.newarray .int, 2) := by decide +kernel
theorem dX11_init_75 : decode cX11_init 75 = .ok (.putfield 36, 3) := by decide +kernel
theorem dX11_init_78 : decode cX11_init 78 = .ok (.aload_n 0, 1) := by decide +kernel
theorem dX11_init_79 : decode cX11_init 79 = .ok (.bipush 6, 2) := by decide +kernel
theorem dX11_init_81 : decode cX11_init 81 = .ok (.newarray .int, 2) := by decide +kernel
theorem dX11_init_83 : decode cX11_init 83 = .ok (.putfield 39, 3) := by decide +kernel
theorem dX11_init_86 : decode cX11_init 86 = .ok (.aload_n 0, 1) := by decide +kernel
theorem dX11_init_87 : decode cX11_init 87 = .ok (.bipush 7, 2) := by decide +kernel
theorem dX11_init_89 : decode cX11_init 89 = .ok (.newarray .int, 2) := by decide +kernel
theorem dX11_init_91 : decode cX11_init 91 = .ok (.putfield 42, 3) := by decide +kernel
theorem dX11_init_94 : decode cX11_init 94 = .ok (.aload_n 0, 1) := by decide +kernel
theorem dX11_init_95 : decode cX11_init 95 = .ok (.bipush 7, 2) := by decide +kernel
theorem dX11_init_97 : decode cX11_init 97 = .ok (.newarray .int, 2) := by decide +kernel
theorem dX11_init_99 : decode cX11_init 99 = .ok (.putfield 45, 3) := by decide +kernel
theorem dX11_init_102 : decode cX11_init 102 = .ok (.aload_n 0, 1) := by decide +kernel
theorem dX11_init_103 : decode cX11_init 103 = .ok (.bipush 60, 2) := by decide +kernel
theorem dX11_init_105 : decode cX11_init 105 = .ok (.newarray .boolean, 2) := by decide +kernel
theorem dX11_init_107 : decode cX11_init 107 = .ok (.putfield 48, 3) := by decide +kernel
theorem dX11_init_110 : decode cX11_init 110 = .ok (.aload_n 0, 1) := by decide +kernel
theorem dX11_init_111 : decode cX11_init 111 = .ok (.sipush 144, 3) := by decide +kernel
theorem dX11_init_114 : decode cX11_init 114 = .ok (.newarray .boolean, 2) := by decide +kernel
theorem dX11_init_116 : decode cX11_init 116 = .ok (.putfield 51, 3) := by decide +kernel
theorem dX11_init_119 : decode cX11_init 119 = .ok (.aload_n 0, 1) := by decide +kernel
theorem dX11_init_120 : decode cX11_init 120 = .ok (.sipush 144, 3) := by decide +kernel
theorem dX11_init_123 : decode cX11_init 123 = .ok (.newarray .int, 2) := by decide +kernel
theorem dX11_init_125 : decode cX11_init 125 = .ok (.putfield 54, 3) := by decide +kernel
theorem dX11_init_128 : decode cX11_init 128 = .ok (.aload_n 0, 1) := by decide +kernel
theorem dX11_init_129 : decode cX11_init 129 = .ok (.bipush 6, 2) := by decide +kernel
theorem dX11_init_131 : decode cX11_init 131 = .ok (.newarray .int, 2) := by decide +kernel
theorem dX11_init_133 : decode cX11_init 133 = .ok (.putfield 57, 3) := by decide +kernel
theorem dX11_init_136 : decode cX11_init 136 = .ok (.aload_n 0, 1) := by decide +kernel
theorem dX11_init_137 : decode cX11_init 137 = .ok (.bipush 12, 2) := by decide +kernel
theorem dX11_init_139 : decode cX11_init 139 = .ok (.newarray .int, 2) := by decide +kernel
theorem dX11_init_141 : decode cX11_init 141 = .ok (.putfield 60, 3) := by decide +kernel
theorem dX11_init_144 : decode cX11_init 144 = .ok (.aload_n 0, 1) := by decide +kernel
theorem dX11_init_145 : decode cX11_init 145 = .ok (.sipush 4096, 3) := by decide +kernel
theorem dX11_init_148 : decode cX11_init 148 = .ok (.newarray .int, 2) := by decide +kernel
theorem dX11_init_150 : decode cX11_init 150 = .ok (.putfield 63, 3) := by decide +kernel
theorem dX11_init_153 : decode cX11_init 153 = .ok (.aload_n 0, 1) := by decide +kernel
theorem dX11_init_154 : decode cX11_init 154 = .ok (.ldc 66, 2) := by decide +kernel
theorem dX11_init_156 : decode cX11_init 156 = .ok (.newarray .int, 2) := by decide +kernel
theorem dX11_init_158 : decode cX11_init 158 = .ok (.putfield 67, 3) := by decide +kernel
theorem dX11_init_161 : decode cX11_init 161 = .ok (.aload_n 0, 1) := by decide +kernel
theorem dX11_init_162 : decode cX11_init 162 = .ok (.ldc 66, 2) := by decide +kernel
theorem dX11_init_164 : decode cX11_init 164 = .ok (.newarray .boolean, 2) := by decide +kernel
theorem dX11_init_166 : decode cX11_init 166 = .ok (.putfield 70, 3) := by decide +kernel
theorem dX11_init_169 : decode cX11_init 169 = .ok (.aload_n 0, 1) := by decide +kernel
theorem dX11_init_170 : decode cX11_init 170 = .ok (.sipush 4096, 3) := by decide +kernel
theorem dX11_init_173 : decode cX11_init 173 = .ok (.newarray .boolean, 2) := by decide +kernel
theorem dX11_init_175 : decode cX11_init 175 = .ok (.putfield 73, 3) := by decide +kernel
theorem dX11_init_178 : decode cX11_init 178 = .ok (.aload_n 0, 1) := by decide +kernel
theorem dX11_init_179 : decode cX11_init 179 = .ok (.iconst 4, 1) := by decide +kernel
theorem dX11_init_180 : decode cX11_init 180 = .ok (.newarray .int, 2) := by decide +kernel
theorem dX11_init_182 : decode cX11_init 182 = .ok (.dup, 1) := by decide +kernel
theorem dX11_init_183 : decode cX11_init 183 = .ok (.iconst 0, 1) := by decide +kernel
theorem dX11_init_184 : decode cX11_init 184 = .ok (.iconst (-1), 1) := by decide +kernel
theorem dX11_init_185 : decode cX11_init 185 = .ok (.iastore, 1) := by decide +kernel
theorem dX11_init_186 : decode cX11_init 186 = .ok (.dup, 1) := by decide +kernel
theorem dX11_init_187 : decode cX11_init 187 = .ok (.iconst 1, 1) := by decide +kernel
theorem dX11_init_188 : decode cX11_init 188 = .ok (.iconst (-1), 1) := by decide +kernel
theorem dX11_init_189 : decode cX11_init 189 = .ok (.iastore, 1) := by decide +kernel
theorem dX11_init_190 : decode cX11_init 190 = .ok (.dup, 1) := by decide +kernel
theorem dX11_init_191 : decode cX11_init 191 = .ok (.iconst 2, 1) := by decide +kernel
theorem dX11_init_192 : decode cX11_init 192 = .ok (.iconst (-1), 1) := by decide +kernel
theorem dX11_init_193 : decode cX11_init 193 = .ok (.iastore, 1) := by decide +kernel
theorem dX11_init_194 : decode cX11_init 194 = .ok (.dup, 1) := by decide +kernel
theorem dX11_init_195 : decode cX11_init 195 = .ok (.iconst 3, 1) := by decide +kernel
theorem dX11_init_196 : decode cX11_init 196 = .ok (.iconst (-1), 1) := by decide +kernel
theorem dX11_init_197 : decode cX11_init 197 = .ok (.iastore, 1) := by decide +kernel
theorem dX11_init_198 : decode cX11_init 198 = .ok (.putfield 76, 3) := by decide +kernel
theorem dX11_init_201 : decode cX11_init 201 = .ok (.aload_n 0, 1) := by decide +kernel
theorem dX11_init_202 : decode cX11_init 202 = .ok (.iconst 4, 1) := by decide +kernel
theorem dX11_init_203 : decode cX11_init 203 = .ok (.newarray .int, 2) := by decide +kernel
theorem dX11_init_205 : decode cX11_init 205 = .ok (.putfield 79, 3) := by decide +kernel
theorem dX11_init_208 : decode cX11_init 208 = .ok (.aload_n 0, 1) := by decide +kernel
theorem dX11_init_209 : decode cX11_init 209 = .ok (.sipush 160, 3) := by decide +kernel
theorem dX11_init_212 : decode cX11_init 212 = .ok (.newarray .long, 2) := by decide +kernel
theorem dX11_init_214 : decode cX11_init 214 = .ok (.putfield 82, 3) := by decide +kernel
theorem dX11_init_217 : decode cX11_init 217 = .ok (.return_, 1) := by decide +kernel
theorem dX11_thrown_0 : decode cX11_thrown 0 = .ok (.aload_n 0, 1) := by decide +kernel
theorem dX11_thrown_1 : decode cX11_thrown 1 = .ok (.getfield 86, 3) := by decide +kernel
theorem dX11_thrown_4 : decode cX11_thrown 4 = .ok (.ireturn, 1) := by decide +kernel
theorem dX11_fails_0 : decode cX11_fails 0 = .ok (.aload_n 0, 1) := by decide +kernel
theorem dX11_fails_1 : decode cX11_fails 1 = .ok (.iload_n 1, 1) := by decide +kernel
theorem dX11_fails_2 : decode cX11_fails 2 = .ok (.putfield 86, 3) := by decide +kernel
theorem dX11_fails_5 : decode cX11_fails 5 = .ok (.iconst 0, 1) := by decide +kernel
theorem dX11_fails_6 : decode cX11_fails 6 = .ok (.ireturn, 1) := by decide +kernel
theorem dX11_within_0 : decode cX11_within 0 = .ok (.lload_n 0, 1) := by decide +kernel
theorem dX11_within_1 : decode cX11_within 1 = .ok (.lload_n 2, 1) := by decide +kernel
theorem dX11_within_2 : decode cX11_within 2 = .ok (.lcmp, 1) := by decide +kernel
theorem dX11_within_3 : decode cX11_within 3 = .ok (.ifCond .lt 14, 3) := by decide +kernel
theorem dX11_within_6 : decode cX11_within 6 = .ok (.lload_n 0, 1) := by decide +kernel
theorem dX11_within_7 : decode cX11_within 7 = .ok (.lload 4, 2) := by decide +kernel
theorem dX11_within_9 : decode cX11_within 9 = .ok (.lcmp, 1) := by decide +kernel
theorem dX11_within_10 : decode cX11_within 10 = .ok (.ifCond .gt 7, 3) := by decide +kernel
theorem dX11_within_13 : decode cX11_within 13 = .ok (.iconst 1, 1) := by decide +kernel
theorem dX11_within_14 : decode cX11_within 14 = .ok (.goto 4, 3) := by decide +kernel
theorem dX11_within_17 : decode cX11_within 17 = .ok (.iconst 0, 1) := by decide +kernel
theorem dX11_within_18 : decode cX11_within 18 = .ok (.ireturn, 1) := by decide +kernel
theorem dX11_copies_0 : decode cX11_copies 0 = .ok (.iconst 0, 1) := by decide +kernel
theorem dX11_copies_1 : decode cX11_copies 1 = .ok (.istore_n 2, 1) := by decide +kernel
theorem dX11_copies_2 : decode cX11_copies 2 = .ok (.iload_n 2, 1) := by decide +kernel
theorem dX11_copies_3 : decode cX11_copies 3 = .ok (.sipush 512, 3) := by decide +kernel
theorem dX11_copies_6 : decode cX11_copies 6 = .ok (.if_icmp .ge 15, 3) := by decide +kernel
theorem dX11_copies_9 : decode cX11_copies 9 = .ok (.aload_n 1, 1) := by decide +kernel
theorem dX11_copies_10 : decode cX11_copies 10 = .ok (.iload_n 2, 1) := by decide +kernel
theorem dX11_copies_11 : decode cX11_copies 11 = .ok (.aload_n 0, 1) := by decide +kernel
theorem dX11_copies_12 : decode cX11_copies 12 = .ok (.iload_n 2, 1) := by decide +kernel
theorem dX11_copies_13 : decode cX11_copies 13 = .ok (.iaload, 1) := by decide +kernel
theorem dX11_copies_14 : decode cX11_copies 14 = .ok (.iastore, 1) := by decide +kernel
theorem dX11_copies_15 : decode cX11_copies 15 = .ok (.iinc 2 1, 3) := by decide +kernel
theorem dX11_copies_18 : decode cX11_copies 18 = .ok (.goto (-16), 3) := by decide +kernel
theorem dX11_copies_21 : decode cX11_copies 21 = .ok (.return_, 1) := by decide +kernel
theorem dX11_acrossOf_0 : decode cX11_acrossOf 0 = .ok (.iload_n 0, 1) := by decide +kernel
theorem dX11_acrossOf_1 : decode cX11_acrossOf 1 = .ok (.ifCond .eq 14, 3) := by decide +kernel
theorem dX11_acrossOf_4 : decode cX11_acrossOf 4 = .ok (.iload_n 0, 1) := by decide +kernel
theorem dX11_acrossOf_5 : decode cX11_acrossOf 5 = .ok (.iconst 1, 1) := by decide +kernel
theorem dX11_acrossOf_6 : decode cX11_acrossOf 6 = .ok (.if_icmp .eq 9, 3) := by decide +kernel
theorem dX11_acrossOf_9 : decode cX11_acrossOf 9 = .ok (.iload_n 0, 1) := by decide +kernel
theorem dX11_acrossOf_10 : decode cX11_acrossOf 10 = .ok (.bipush 7, 2) := by decide +kernel
theorem dX11_acrossOf_12 : decode cX11_acrossOf 12 = .ok (.if_icmp .ne 7, 3) := by decide +kernel
theorem dX11_acrossOf_15 : decode cX11_acrossOf 15 = .ok (.iconst 1, 1) := by decide +kernel
theorem dX11_acrossOf_16 : decode cX11_acrossOf 16 = .ok (.goto 19, 3) := by decide +kernel
theorem dX11_acrossOf_19 : decode cX11_acrossOf 19 = .ok (.iload_n 0, 1) := by decide +kernel
theorem dX11_acrossOf_20 : decode cX11_acrossOf 20 = .ok (.iconst 2, 1) := by decide +kernel
theorem dX11_acrossOf_21 : decode cX11_acrossOf 21 = .ok (.if_icmp .eq 9, 3) := by decide +kernel
theorem dX11_acrossOf_24 : decode cX11_acrossOf 24 = .ok (.iload_n 0, 1) := by decide +kernel
theorem dX11_acrossOf_25 : decode cX11_acrossOf 25 = .ok (.bipush 6, 2) := by decide +kernel
theorem dX11_acrossOf_27 : decode cX11_acrossOf 27 = .ok (.if_icmp .ne 7, 3) := by decide +kernel
theorem dX11_acrossOf_30 : decode cX11_acrossOf 30 = .ok (.iconst 0, 1) := by decide +kernel
theorem dX11_acrossOf_31 : decode cX11_acrossOf 31 = .ok (.goto 4, 3) := by decide +kernel
theorem dX11_acrossOf_34 : decode cX11_acrossOf 34 = .ok (.iconst (-1), 1) := by decide +kernel
theorem dX11_acrossOf_35 : decode cX11_acrossOf 35 = .ok (.ireturn, 1) := by decide +kernel
theorem dX11_upOf_0 : decode cX11_upOf 0 = .ok (.iload_n 0, 1) := by decide +kernel
theorem dX11_upOf_1 : decode cX11_upOf 1 = .ok (.ifCond .eq 8, 3) := by decide +kernel
theorem dX11_upOf_4 : decode cX11_upOf 4 = .ok (.iload_n 0, 1) := by decide +kernel
theorem dX11_upOf_5 : decode cX11_upOf 5 = .ok (.iconst 4, 1) := by decide +kernel
theorem dX11_upOf_6 : decode cX11_upOf 6 = .ok (.if_icmp .ne 7, 3) := by decide +kernel
theorem dX11_upOf_9 : decode cX11_upOf 9 = .ok (.iconst 0, 1) := by decide +kernel
theorem dX11_upOf_10 : decode cX11_upOf 10 = .ok (.goto 13, 3) := by decide +kernel
theorem dX11_upOf_13 : decode cX11_upOf 13 = .ok (.iload_n 0, 1) := by decide +kernel
theorem dX11_upOf_14 : decode cX11_upOf 14 = .ok (.iconst 4, 1) := by decide +kernel
theorem dX11_upOf_15 : decode cX11_upOf 15 = .ok (.if_icmp .ge 7, 3) := by decide +kernel
theorem dX11_upOf_18 : decode cX11_upOf 18 = .ok (.iconst 1, 1) := by decide +kernel
theorem dX11_upOf_19 : decode cX11_upOf 19 = .ok (.goto 4, 3) := by decide +kernel
theorem dX11_upOf_22 : decode cX11_upOf 22 = .ok (.iconst (-1), 1) := by decide +kernel
theorem dX11_upOf_23 : decode cX11_upOf 23 = .ok (.ireturn, 1) := by decide +kernel
theorem dX11_step_0 : decode cX11_step 0 = .ok (.iload_n 0, 1) := by decide +kernel
theorem dX11_step_1 : decode cX11_step 1 = .ok (.bipush 12, 2) := by decide +kernel
theorem dX11_step_3 : decode cX11_step 3 = .ok (.irem, 1) := by decide +kernel
theorem dX11_step_4 : decode cX11_step 4 = .ok (.iload_n 1, 1) := by decide +kernel
theorem dX11_step_5 : decode cX11_step 5 = .ok (.invokestatic 89, 3) := by decide +kernel
theorem dX11_step_8 : decode cX11_step 8 = .ok (.iadd, 1) := by decide +kernel
theorem dX11_step_9 : decode cX11_step 9 = .ok (.istore_n 2, 1) := by decide +kernel
theorem dX11_step_10 : decode cX11_step 10 = .ok (.iload_n 0, 1) := by decide +kernel
theorem dX11_step_11 : decode cX11_step 11 = .ok (.bipush 12, 2) := by decide +kernel
theorem dX11_step_13 : decode cX11_step 13 = .ok (.idiv, 1) := by decide +kernel
theorem dX11_step_14 : decode cX11_step 14 = .ok (.iload_n 1, 1) := by decide +kernel
theorem dX11_step_15 : decode cX11_step 15 = .ok (.invokestatic 93, 3) := by decide +kernel
theorem dX11_step_18 : decode cX11_step 18 = .ok (.iadd, 1) := by decide +kernel
theorem dX11_step_19 : decode cX11_step 19 = .ok (.istore_n 3, 1) := by decide +kernel
theorem dX11_step_20 : decode cX11_step 20 = .ok (.iload_n 2, 1) := by decide +kernel
theorem dX11_step_21 : decode cX11_step 21 = .ok (.i2l, 1) := by decide +kernel
theorem dX11_step_22 : decode cX11_step 22 = .ok (.lconst 0, 1) := by decide +kernel
theorem dX11_step_23 : decode cX11_step 23 = .ok (.ldc2_w 96, 3) := by decide +kernel
theorem dX11_step_26 : decode cX11_step 26 = .ok (.invokestatic 98, 3) := by decide +kernel
theorem dX11_step_29 : decode cX11_step 29 = .ok (.ifCond .eq 24, 3) := by decide +kernel
theorem dX11_step_32 : decode cX11_step 32 = .ok (.iload_n 3, 1) := by decide +kernel
theorem dX11_step_33 : decode cX11_step 33 = .ok (.i2l, 1) := by decide +kernel
theorem dX11_step_34 : decode cX11_step 34 = .ok (.lconst 0, 1) := by decide +kernel
theorem dX11_step_35 : decode cX11_step 35 = .ok (.ldc2_w 96, 3) := by decide +kernel
theorem dX11_step_38 : decode cX11_step 38 = .ok (.invokestatic 98, 3) := by decide +kernel
theorem dX11_step_41 : decode cX11_step 41 = .ok (.ifCond .eq 12, 3) := by decide +kernel
theorem dX11_step_44 : decode cX11_step 44 = .ok (.bipush 12, 2) := by decide +kernel
theorem dX11_step_46 : decode cX11_step 46 = .ok (.iload_n 3, 1) := by decide +kernel
theorem dX11_step_47 : decode cX11_step 47 = .ok (.imul, 1) := by decide +kernel
theorem dX11_step_48 : decode cX11_step 48 = .ok (.iload_n 2, 1) := by decide +kernel
theorem dX11_step_49 : decode cX11_step 49 = .ok (.iadd, 1) := by decide +kernel
theorem dX11_step_50 : decode cX11_step 50 = .ok (.goto 4, 3) := by decide +kernel
theorem dX11_step_53 : decode cX11_step 53 = .ok (.iconst (-1), 1) := by decide +kernel
theorem dX11_step_54 : decode cX11_step 54 = .ok (.ireturn, 1) := by decide +kernel
theorem dX11_isHole_0 : decode cX11_isHole 0 = .ok (.iload_n 0, 1) := by decide +kernel
theorem dX11_isHole_1 : decode cX11_isHole 1 = .ok (.i2l, 1) := by decide +kernel
theorem dX11_isHole_2 : decode cX11_isHole 2 = .ok (.lconst 0, 1) := by decide +kernel
theorem dX11_isHole_3 : decode cX11_isHole 3 = .ok (.ldc2_w 102, 3) := by decide +kernel
theorem dX11_isHole_6 : decode cX11_isHole 6 = .ok (.invokestatic 98, 3) := by decide +kernel
theorem dX11_isHole_9 : decode cX11_isHole 9 = .ok (.ireturn, 1) := by decide +kernel
theorem dX11_isWay_0 : decode cX11_isWay 0 = .ok (.lload_n 0, 1) := by decide +kernel
theorem dX11_isWay_1 : decode cX11_isWay 1 = .ok (.lconst 0, 1) := by decide +kernel
theorem dX11_isWay_2 : decode cX11_isWay 2 = .ok (.ldc2_w 104, 3) := by decide +kernel
theorem dX11_isWay_5 : decode cX11_isWay 5 = .ok (.invokestatic 98, 3) := by decide +kernel
theorem dX11_isWay_8 : decode cX11_isWay 8 = .ok (.ireturn, 1) := by decide +kernel
theorem dX11_isInk_0 : decode cX11_isInk 0 = .ok (.iload_n 0, 1) := by decide +kernel
theorem dX11_isInk_1 : decode cX11_isInk 1 = .ok (.i2l, 1) := by decide +kernel
theorem dX11_isInk_2 : decode cX11_isInk 2 = .ok (.lconst 0, 1) := by decide +kernel
theorem dX11_isInk_3 : decode cX11_isInk 3 = .ok (.ldc2_w 106, 3) := by decide +kernel
theorem dX11_isInk_6 : decode cX11_isInk 6 = .ok (.invokestatic 98, 3) := by decide +kernel
theorem dX11_isInk_9 : decode cX11_isInk 9 = .ok (.ireturn, 1) := by decide +kernel
theorem dX11_endOf_0 : decode cX11_endOf 0 = .ok (.aload_n 0, 1) := by decide +kernel
theorem dX11_endOf_1 : decode cX11_endOf 1 = .ok (.bipush 8, 2) := by decide +kernel
theorem dX11_endOf_3 : decode cX11_endOf 3 = .ok (.iconst 4, 1) := by decide +kernel
theorem dX11_endOf_4 : decode cX11_endOf 4 = .ok (.iload_n 1, 1) := by decide +kernel
theorem dX11_endOf_5 : decode cX11_endOf 5 = .ok (.imul, 1) := by decide +kernel
theorem dX11_endOf_6 : decode cX11_endOf 6 = .ok (.iadd, 1) := by decide +kernel
theorem dX11_endOf_7 : decode cX11_endOf 7 = .ok (.iconst 0, 1) := by decide +kernel
theorem dX11_endOf_8 : decode cX11_endOf 8 = .ok (.iadd, 1) := by decide +kernel
theorem dX11_endOf_9 : decode cX11_endOf 9 = .ok (.iaload, 1) := by decide +kernel
theorem dX11_endOf_10 : decode cX11_endOf 10 = .ok (.aload_n 0, 1) := by decide +kernel
theorem dX11_endOf_11 : decode cX11_endOf 11 = .ok (.bipush 8, 2) := by decide +kernel
theorem dX11_endOf_13 : decode cX11_endOf 13 = .ok (.iconst 4, 1) := by decide +kernel
theorem dX11_endOf_14 : decode cX11_endOf 14 = .ok (.iload_n 1, 1) := by decide +kernel
theorem dX11_endOf_15 : decode cX11_endOf 15 = .ok (.imul, 1) := by decide +kernel
theorem dX11_endOf_16 : decode cX11_endOf 16 = .ok (.iadd, 1) := by decide +kernel
theorem dX11_endOf_17 : decode cX11_endOf 17 = .ok (.iconst 1, 1) := by decide +kernel
theorem dX11_endOf_18 : decode cX11_endOf 18 = .ok (.iadd, 1) := by decide +kernel
theorem dX11_endOf_19 : decode cX11_endOf 19 = .ok (.iaload, 1) := by decide +kernel
theorem dX11_endOf_20 : decode cX11_endOf 20 = .ok (.invokestatic 108, 3) := by decide +kernel
theorem dX11_endOf_23 : decode cX11_endOf 23 = .ok (.ireturn, 1) := by decide +kernel
theorem dX11_find_0 : decode cX11_find 0 = .ok (.iload_n 1, 1) := by decide +kernel
theorem dX11_find_1 : decode cX11_find 1 = .ok (.iload_n 2, 1) := by decide +kernel
theorem dX11_find_2 : decode cX11_find 2 = .ok (.invokestatic 108, 3) := by decide +kernel
theorem dX11_find_5 : decode cX11_find 5 = .ok (.istore_n 3, 1) := by decide +kernel
theorem dX11_find_6 : decode cX11_find 6 = .ok (.iconst 0, 1) := by decide +kernel
theorem dX11_find_7 : decode cX11_find 7 = .ok (.istore 4, 2) := by decide +kernel
theorem dX11_find_9 : decode cX11_find 9 = .ok (.iload 4, 2) := by decide +kernel
theorem dX11_find_11 : decode cX11_find 11 = .ok (.aload_n 0, 1) := by decide +kernel
theorem dX11_find_12 : decode cX11_find 12 = .ok (.iconst 0, 1) := by decide +kernel
theorem dX11_find_13 : decode cX11_find 13 = .ok (.iaload, 1) := by decide +kernel
theorem dX11_find_14 : decode cX11_find 14 = .ok (.if_icmp .ge 62, 3) := by decide +kernel
theorem dX11_find_17 : decode cX11_find 17 = .ok (.iload_n 3, 1) := by decide +kernel
theorem dX11_find_18 : decode cX11_find 18 = .ok (.iconst (-1), 1) := by decide +kernel
theorem dX11_find_19 : decode cX11_find 19 = .ok (.if_icmp .eq 57, 3) := by decide +kernel
theorem dX11_find_22 : decode cX11_find 22 = .ok (.aload_n 0, 1) := by decide +kernel
theorem dX11_find_23 : decode cX11_find 23 = .ok (.bipush 8, 2) := by decide +kernel
theorem dX11_find_25 : decode cX11_find 25 = .ok (.iconst 4, 1) := by decide +kernel
theorem dX11_find_26 : decode cX11_find 26 = .ok (.iload 4, 2) := by decide +kernel
theorem dX11_find_28 : decode cX11_find 28 = .ok (.imul, 1) := by decide +kernel
theorem dX11_find_29 : decode cX11_find 29 = .ok (.iadd, 1) := by decide +kernel
theorem dX11_find_30 : decode cX11_find 30 = .ok (.iconst 0, 1) := by decide +kernel
theorem dX11_find_31 : decode cX11_find 31 = .ok (.iadd, 1) := by decide +kernel
theorem dX11_find_32 : decode cX11_find 32 = .ok (.iaload, 1) := by decide +kernel
theorem dX11_find_33 : decode cX11_find 33 = .ok (.istore 5, 2) := by decide +kernel
theorem dX11_find_35 : decode cX11_find 35 = .ok (.aload_n 0, 1) := by decide +kernel
theorem dX11_find_36 : decode cX11_find 36 = .ok (.iload 4, 2) := by decide +kernel
theorem dX11_find_38 : decode cX11_find 38 = .ok (.invokestatic 112, 3) := by decide +kernel
theorem dX11_find_41 : decode cX11_find 41 = .ok (.istore 6, 2) := by decide +kernel
theorem dX11_find_43 : decode cX11_find 43 = .ok (.iload 5, 2) := by decide +kernel
theorem dX11_find_45 : decode cX11_find 45 = .ok (.iload_n 1, 1) := by decide +kernel
theorem dX11_find_46 : decode cX11_find 46 = .ok (.if_icmp .ne 9, 3) := by decide +kernel
theorem dX11_find_49 : decode cX11_find 49 = .ok (.iload 6, 2) := by decide +kernel
theorem dX11_find_51 : decode cX11_find 51 = .ok (.iload_n 3, 1) := by decide +kernel
theorem dX11_find_52 : decode cX11_find 52 = .ok (.if_icmp .eq 15, 3) := by decide +kernel
theorem dX11_find_55 : decode cX11_find 55 = .ok (.iload 5, 2) := by decide +kernel
theorem dX11_find_57 : decode cX11_find 57 = .ok (.iload_n 3, 1) := by decide +kernel
theorem dX11_find_58 : decode cX11_find 58 = .ok (.if_icmp .ne 12, 3) := by decide +kernel
theorem dX11_find_61 : decode cX11_find 61 = .ok (.iload 6, 2) := by decide +kernel
theorem dX11_find_63 : decode cX11_find 63 = .ok (.iload_n 1, 1) := by decide +kernel
theorem dX11_find_64 : decode cX11_find 64 = .ok (.if_icmp .ne 6, 3) := by decide +kernel
theorem dX11_find_67 : decode cX11_find 67 = .ok (.iload 4, 2) := by decide +kernel
theorem dX11_find_69 : decode cX11_find 69 = .ok (.ireturn, 1) := by decide +kernel
theorem dX11_find_70 : decode cX11_find 70 = .ok (.iinc 4 1, 3) := by decide +kernel
theorem dX11_find_73 : decode cX11_find 73 = .ok (.goto (-64), 3) := by decide +kernel
theorem dX11_find_76 : decode cX11_find 76 = .ok (.iconst (-1), 1) := by decide +kernel
theorem dX11_find_77 : decode cX11_find 77 = .ok (.ireturn, 1) := by decide +kernel
theorem dX11_feed_0 : decode cX11_feed 0 = .ok (.aload_n 0, 1) := by decide +kernel
theorem dX11_feed_1 : decode cX11_feed 1 = .ok (.iconst 0, 1) := by decide +kernel
theorem dX11_feed_2 : decode cX11_feed 2 = .ok (.putfield 86, 3) := by decide +kernel
theorem dX11_feed_5 : decode cX11_feed 5 = .ok (.aload_n 0, 1) := by decide +kernel
theorem dX11_feed_6 : decode cX11_feed 6 = .ok (.getfield 116, 3) := by decide +kernel
theorem dX11_feed_9 : decode cX11_feed 9 = .ok (.bipush 20, 2) := by decide +kernel
theorem dX11_feed_11 : decode cX11_feed 11 = .ok (.iadd, 1) := by decide +kernel
theorem dX11_feed_12 : decode cX11_feed 12 = .ok (.sipush 700, 3) := by decide +kernel
theorem dX11_feed_15 : decode cX11_feed 15 = .ok (.if_icmp .le 5, 3) := by decide +kernel
theorem dX11_feed_18 : decode cX11_feed 18 = .ok (.iconst (-1), 1) := by decide +kernel
theorem dX11_feed_19 : decode cX11_feed 19 = .ok (.ireturn, 1) := by decide +kernel
theorem dX11_feed_20 : decode cX11_feed 20 = .ok (.iconst 0, 1) := by decide +kernel
theorem dX11_feed_21 : decode cX11_feed 21 = .ok (.istore 6, 2) := by decide +kernel
theorem dX11_feed_23 : decode cX11_feed 23 = .ok (.iload 6, 2) := by decide +kernel
theorem dX11_feed_25 : decode cX11_feed 25 = .ok (.bipush 20, 2) := by decide +kernel
theorem dX11_feed_27 : decode cX11_feed 27 = .ok (.if_icmp .ge 93, 3) := by decide +kernel
theorem dX11_feed_30 : decode cX11_feed 30 = .ok (.iload 6, 2) := by decide +kernel
theorem dX11_feed_32 : decode cX11_feed 32 = .ok (.iconst 4, 1) := by decide +kernel
theorem dX11_feed_33 : decode cX11_feed 33 = .ok (.if_icmp .ge 7, 3) := by decide +kernel
theorem dX11_feed_36 : decode cX11_feed 36 = .ok (.iload_n 1, 1) := by decide +kernel
theorem dX11_feed_37 : decode cX11_feed 37 = .ok (.goto 39, 3) := by decide +kernel
theorem dX11_feed_40 : decode cX11_feed 40 = .ok (.iload 6, 2) := by decide +kernel
theorem dX11_feed_42 : decode cX11_feed 42 = .ok (.bipush 8, 2) := by decide +kernel
theorem dX11_feed_44 : decode cX11_feed 44 = .ok (.if_icmp .ge 7, 3) := by decide +kernel
theorem dX11_feed_47 : decode cX11_feed 47 = .ok (.iload_n 2, 1) := by decide +kernel
theorem dX11_feed_48 : decode cX11_feed 48 = .ok (.goto 28, 3) := by decide +kernel
theorem dX11_feed_51 : decode cX11_feed 51 = .ok (.iload 6, 2) := by decide +kernel
theorem dX11_feed_53 : decode cX11_feed 53 = .ok (.bipush 12, 2) := by decide +kernel
theorem dX11_feed_55 : decode cX11_feed 55 = .ok (.if_icmp .ge 7, 3) := by decide +kernel
theorem dX11_feed_58 : decode cX11_feed 58 = .ok (.iload_n 3, 1) := by decide +kernel
theorem dX11_feed_59 : decode cX11_feed 59 = .ok (.goto 17, 3) := by decide +kernel
theorem dX11_feed_62 : decode cX11_feed 62 = .ok (.iload 6, 2) := by decide +kernel
theorem dX11_feed_64 : decode cX11_feed 64 = .ok (.bipush 16, 2) := by decide +kernel
theorem dX11_feed_66 : decode cX11_feed 66 = .ok (.if_icmp .ge 8, 3) := by decide +kernel
theorem dX11_feed_69 : decode cX11_feed 69 = .ok (.iload 4, 2) := by decide +kernel
theorem dX11_feed_71 : decode cX11_feed 71 = .ok (.goto 5, 3) := by decide +kernel
theorem dX11_feed_74 : decode cX11_feed 74 = .ok (.iload 5, 2) := by decide +kernel
theorem dX11_feed_76 : decode cX11_feed 76 = .ok (.istore 7, 2) := by decide +kernel
theorem dX11_feed_78 : decode cX11_feed 78 = .ok (.aload_n 0, 1) := by decide +kernel
theorem dX11_feed_79 : decode cX11_feed 79 = .ok (.getfield 26, 3) := by decide +kernel
theorem dX11_feed_82 : decode cX11_feed 82 = .ok (.aload_n 0, 1) := by decide +kernel
theorem dX11_feed_83 : decode cX11_feed 83 = .ok (.getfield 116, 3) := by decide +kernel
theorem dX11_feed_86 : decode cX11_feed 86 = .ok (.iload 7, 2) := by decide +kernel
theorem dX11_feed_88 : decode cX11_feed 88 = .ok (.bipush 24, 2) := by decide +kernel
theorem dX11_feed_90 : decode cX11_feed 90 = .ok (.bipush 8, 2) := by decide +kernel
theorem dX11_feed_92 : decode cX11_feed 92 = .ok (.iload 6, 2) := by decide +kernel
theorem dX11_feed_94 : decode cX11_feed 94 = .ok (.iconst 3, 1) := by decide +kernel
theorem dX11_feed_95 : decode cX11_feed 95 = .ok (.iand, 1) := by decide +kernel
theorem dX11_feed_96 : decode cX11_feed 96 = .ok (.imul, 1) := by decide +kernel
theorem dX11_feed_97 : decode cX11_feed 97 = .ok (.isub, 1) := by decide +kernel
theorem dX11_feed_98 : decode cX11_feed 98 = .ok (.iushr, 1) := by decide +kernel
theorem dX11_feed_99 : decode cX11_feed 99 = .ok (.sipush 255, 3) := by decide +kernel
theorem dX11_feed_102 : decode cX11_feed 102 = .ok (.iand, 1) := by decide +kernel
theorem dX11_feed_103 : decode cX11_feed 103 = .ok (.iastore, 1) := by decide +kernel
theorem dX11_feed_104 : decode cX11_feed 104 = .ok (.aload_n 0, 1) := by decide +kernel
theorem dX11_feed_105 : decode cX11_feed 105 = .ok (.dup, 1) := by decide +kernel
theorem dX11_feed_106 : decode cX11_feed 106 = .ok (.getfield 116, 3) := by decide +kernel
theorem dX11_feed_109 : decode cX11_feed 109 = .ok (.iconst 1, 1) := by decide +kernel
theorem dX11_feed_110 : decode cX11_feed 110 = .ok (.iadd, 1) := by decide +kernel
theorem dX11_feed_111 : decode cX11_feed 111 = .ok (.putfield 116, 3) := by decide +kernel
theorem dX11_feed_114 : decode cX11_feed 114 = .ok (.iinc 6 1, 3) := by decide +kernel
theorem dX11_feed_117 : decode cX11_feed 117 = .ok (.goto (-94), 3) := by decide +kernel
theorem dX11_feed_120 : decode cX11_feed 120 = .ok (.aload_n 0, 1) := by decide +kernel
theorem dX11_feed_121 : decode cX11_feed 121 = .ok (.getfield 116, 3) := by decide +kernel
theorem dX11_feed_124 : decode cX11_feed 124 = .ok (.ireturn, 1) := by decide +kernel
theorem dX11_see_0 : decode cX11_see 0 = .ok (.iload_n 1, 1) := by decide +kernel
theorem dX11_see_1 : decode cX11_see 1 = .ok (.aload_n 0, 1) := by decide +kernel
theorem dX11_see_2 : decode cX11_see 2 = .ok (.getfield 119, 3) := by decide +kernel
theorem dX11_see_5 : decode cX11_see 5 = .ok (.if_icmp .ge 12, 3) := by decide +kernel
theorem dX11_see_8 : decode cX11_see 8 = .ok (.aload_n 0, 1) := by decide +kernel
theorem dX11_see_9 : decode cX11_see 9 = .ok (.getfield 26, 3) := by decide +kernel
theorem dX11_see_12 : decode cX11_see 12 = .ok (.iload_n 1, 1) := by decide +kernel
theorem dX11_see_13 : decode cX11_see 13 = .ok (.iaload, 1) := by decide +kernel
theorem dX11_see_14 : decode cX11_see 14 = .ok (.goto 4, 3) := by decide +kernel
theorem dX11_see_17 : decode cX11_see 17 = .ok (.iconst 0, 1) := by decide +kernel
theorem dX11_see_18 : decode cX11_see 18 = .ok (.ireturn, 1) := by decide +kernel
theorem dX11_isLetter_0 : decode cX11_isLetter 0 = .ok (.iload_n 0, 1) := by decide +kernel
theorem dX11_isLetter_1 : decode cX11_isLetter 1 = .ok (.bipush 97, 2) := by decide +kernel
theorem dX11_isLetter_3 : decode cX11_isLetter 3 = .ok (.if_icmp .lt 13, 3) := by decide +kernel
theorem dX11_isLetter_6 : decode cX11_isLetter 6 = .ok (.iload_n 0, 1) := by decide +kernel
theorem dX11_isLetter_7 : decode cX11_isLetter 7 = .ok (.bipush 122, 2) := by decide +kernel
theorem dX11_isLetter_9 : decode cX11_isLetter 9 = .ok (.if_icmp .gt 7, 3) := by decide +kernel
theorem dX11_isLetter_12 : decode cX11_isLetter 12 = .ok (.iconst 1, 1) := by decide +kernel
theorem dX11_isLetter_13 : decode cX11_isLetter 13 = .ok (.goto 4, 3) := by decide +kernel
theorem dX11_isLetter_16 : decode cX11_isLetter 16 = .ok (.iconst 0, 1) := by decide +kernel
theorem dX11_isLetter_17 : decode cX11_isLetter 17 = .ok (.ireturn, 1) := by decide +kernel
theorem dX11_isDigit_0 : decode cX11_isDigit 0 = .ok (.iload_n 0, 1) := by decide +kernel
theorem dX11_isDigit_1 : decode cX11_isDigit 1 = .ok (.bipush 48, 2) := by decide +kernel
theorem dX11_isDigit_3 : decode cX11_isDigit 3 = .ok (.if_icmp .lt 13, 3) := by decide +kernel
theorem dX11_isDigit_6 : decode cX11_isDigit 6 = .ok (.iload_n 0, 1) := by decide +kernel
theorem dX11_isDigit_7 : decode cX11_isDigit 7 = .ok (.bipush 57, 2) := by decide +kernel
theorem dX11_isDigit_9 : decode cX11_isDigit 9 = .ok (.if_icmp .gt 7, 3) := by decide +kernel
theorem dX11_isDigit_12 : decode cX11_isDigit 12 = .ok (.iconst 1, 1) := by decide +kernel
theorem dX11_isDigit_13 : decode cX11_isDigit 13 = .ok (.goto 4, 3) := by decide +kernel
theorem dX11_isDigit_16 : decode cX11_isDigit 16 = .ok (.iconst 0, 1) := by decide +kernel
theorem dX11_isDigit_17 : decode cX11_isDigit 17 = .ok (.ireturn, 1) := by decide +kernel
theorem dX11_reads_0 : decode cX11_reads 0 = .ok (.aload_n 0, 1) := by decide +kernel
theorem dX11_reads_1 : decode cX11_reads 1 = .ok (.getfield 122, 3) := by decide +kernel
theorem dX11_reads_4 : decode cX11_reads 4 = .ok (.aload_n 0, 1) := by decide +kernel
theorem dX11_reads_5 : decode cX11_reads 5 = .ok (.getfield 119, 3) := by decide +kernel
theorem dX11_reads_8 : decode cX11_reads 8 = .ok (.if_icmp .ge 44, 3) := by decide +kernel
theorem dX11_reads_11 : decode cX11_reads 11 = .ok (.aload_n 0, 1) := by decide +kernel
theorem dX11_reads_12 : decode cX11_reads 12 = .ok (.getfield 26, 3) := by decide +kernel
theorem dX11_reads_15 : decode cX11_reads 15 = .ok (.aload_n 0, 1) := by decide +kernel
theorem dX11_reads_16 : decode cX11_reads 16 = .ok (.getfield 122, 3) := by decide +kernel
theorem dX11_reads_19 : decode cX11_reads 19 = .ok (.iaload, 1) := by decide +kernel
theorem dX11_reads_20 : decode cX11_reads 20 = .ok (.bipush 32, 2) := by decide +kernel
theorem dX11_reads_22 : decode cX11_reads 22 = .ok (.if_icmp .eq 17, 3) := by decide +kernel
theorem dX11_reads_25 : decode cX11_reads 25 = .ok (.aload_n 0, 1) := by decide +kernel
theorem dX11_reads_26 : decode cX11_reads 26 = .ok (.getfield 26, 3) := by decide +kernel
theorem dX11_reads_29 : decode cX11_reads 29 = .ok (.aload_n 0, 1) := by decide +kernel
theorem dX11_reads_30 : decode cX11_reads 30 = .ok (.getfield 122, 3) := by decide +kernel
theorem dX11_reads_33 : decode cX11_reads 33 = .ok (.iaload, 1) := by decide +kernel
theorem dX11_reads_34 : decode cX11_reads 34 = .ok (.bipush 10, 2) := by decide +kernel
theorem dX11_reads_36 : decode cX11_reads 36 = .ok (.if_icmp .ne 16, 3) := by decide +kernel
theorem dX11_reads_39 : decode cX11_reads 39 = .ok (.aload_n 0, 1) := by decide +kernel
theorem dX11_reads_40 : decode cX11_reads 40 = .ok (.dup, 1) := by decide +kernel
theorem dX11_reads_41 : decode cX11_reads 41 = .ok (.getfield 122, 3) := by decide +kernel
theorem dX11_reads_44 : decode cX11_reads 44 = .ok (.iconst 1, 1) := by decide +kernel
theorem dX11_reads_45 : decode cX11_reads 45 = .ok (.iadd, 1) := by decide +kernel
theorem dX11_reads_46 : decode cX11_reads 46 = .ok (.putfield 122, 3) := by decide +kernel
theorem dX11_reads_49 : decode cX11_reads 49 = .ok (.goto (-49), 3) := by decide +kernel
theorem dX11_reads_52 : decode cX11_reads 52 = .ok (.aload_n 0, 1) := by decide +kernel
theorem dX11_reads_53 : decode cX11_reads 53 = .ok (.aload_n 0, 1) := by decide +kernel
theorem dX11_reads_54 : decode cX11_reads 54 = .ok (.getfield 122, 3) := by decide +kernel
theorem dX11_reads_57 : decode cX11_reads 57 = .ok (.putfield 125, 3) := by decide +kernel
theorem dX11_reads_60 : decode cX11_reads 60 = .ok (.aload_n 0, 1) := by decide +kernel
theorem dX11_reads_61 : decode cX11_reads 61 = .ok (.getfield 122, 3) := by decide +kernel
theorem dX11_reads_64 : decode cX11_reads 64 = .ok (.aload_n 0, 1) := by decide +kernel
theorem dX11_reads_65 : decode cX11_reads 65 = .ok (.getfield 119, 3) := by decide +kernel
theorem dX11_reads_68 : decode cX11_reads 68 = .ok (.if_icmp .lt 9, 3) := by decide +kernel
theorem dX11_reads_71 : decode cX11_reads 71 = .ok (.aload_n 0, 1) := by decide +kernel
theorem dX11_reads_72 : decode cX11_reads 72 = .ok (.iconst 0, 1) := by decide +kernel
theorem dX11_reads_73 : decode cX11_reads 73 = .ok (.putfield 128, 3) := by decide +kernel
theorem dX11_reads_76 : decode cX11_reads 76 = .ok (.return_, 1) := by decide +kernel
theorem dX11_reads_77 : decode cX11_reads 77 = .ok (.aload_n 0, 1) := by decide +kernel
theorem dX11_reads_78 : decode cX11_reads 78 = .ok (.getfield 26, 3) := by decide +kernel
theorem dX11_reads_81 : decode cX11_reads 81 = .ok (.aload_n 0, 1) := by decide +kernel
theorem dX11_reads_82 : decode cX11_reads 82 = .ok (.getfield 122, 3) := by decide +kernel
theorem dX11_reads_85 : decode cX11_reads 85 = .ok (.iaload, 1) := by decide +kernel
theorem dX11_reads_86 : decode cX11_reads 86 = .ok (.istore_n 1, 1) := by decide +kernel
theorem dX11_reads_87 : decode cX11_reads 87 = .ok (.iload_n 1, 1) := by decide +kernel
theorem dX11_reads_88 : decode cX11_reads 88 = .ok (.invokestatic 131, 3) := by decide +kernel
theorem dX11_reads_91 : decode cX11_reads 91 = .ok (.ifCond .eq 38, 3) := by decide +kernel
theorem dX11_reads_94 : decode cX11_reads 94 = .ok (.aload_n 0, 1) := by decide +kernel
theorem dX11_reads_95 : decode cX11_reads 95 = .ok (.aload_n 0, 1) := by decide +kernel
theorem dX11_reads_96 : decode cX11_reads 96 = .ok (.getfield 122, 3) := by decide +kernel
theorem dX11_reads_99 : decode cX11_reads 99 = .ok (.invokevirtual 135, 3) := by decide +kernel
theorem dX11_reads_102 : decode cX11_reads 102 = .ok (.invokestatic 131, 3) := by decide +kernel
theorem dX11_reads_105 : decode cX11_reads 105 = .ok (.ifCond .eq 16, 3) := by decide +kernel
theorem dX11_reads_108 : decode cX11_reads 108 = .ok (.aload_n 0, 1) := by decide +kernel
theorem dX11_reads_109 : decode cX11_reads 109 = .ok (.dup, 1) := by decide +kernel
theorem dX11_reads_110 : decode cX11_reads 110 = .ok (.getfield 122, 3) := by decide +kernel
theorem dX11_reads_113 : decode cX11_reads 113 = .ok (.iconst 1, 1) := by decide +kernel
theorem dX11_reads_114 : decode cX11_reads 114 = .ok (.iadd, 1) := by decide +kernel
theorem dX11_reads_115 : decode cX11_reads 115 = .ok (.putfield 122, 3) := by decide +kernel
theorem dX11_reads_118 : decode cX11_reads 118 = .ok (.goto (-24), 3) := by decide +kernel
theorem dX11_reads_121 : decode cX11_reads 121 = .ok (.aload_n 0, 1) := by decide +kernel
theorem dX11_reads_122 : decode cX11_reads 122 = .ok (.iconst 1, 1) := by decide +kernel
theorem dX11_reads_123 : decode cX11_reads 123 = .ok (.putfield 128, 3) := by decide +kernel
theorem dX11_reads_126 : decode cX11_reads 126 = .ok (.goto 153, 3) := by decide +kernel
theorem dX11_reads_129 : decode cX11_reads 129 = .ok (.iload_n 1, 1) := by decide +kernel
theorem dX11_reads_130 : decode cX11_reads 130 = .ok (.invokestatic 138, 3) := by decide +kernel
theorem dX11_reads_133 : decode cX11_reads 133 = .ok (.ifCond .eq 104, 3) := by decide +kernel
theorem dX11_reads_136 : decode cX11_reads 136 = .ok (.aload_n 0, 1) := by decide +kernel
theorem dX11_reads_137 : decode cX11_reads 137 = .ok (.iconst 0, 1) := by decide +kernel
theorem dX11_reads_138 : decode cX11_reads 138 = .ok (.putfield 141, 3) := by decide +kernel
theorem dX11_reads_141 : decode cX11_reads 141 = .ok (.aload_n 0, 1) := by decide +kernel
theorem dX11_reads_142 : decode cX11_reads 142 = .ok (.aload_n 0, 1) := by decide +kernel
theorem dX11_reads_143 : decode cX11_reads 143 = .ok (.getfield 122, 3) := by decide +kernel
theorem dX11_reads_146 : decode cX11_reads 146 = .ok (.invokevirtual 135, 3) := by decide +kernel
theorem dX11_reads_149 : decode cX11_reads 149 = .ok (.invokestatic 138, 3) := by decide +kernel
theorem dX11_reads_152 : decode cX11_reads 152 = .ok (.ifCond .eq 60, 3) := by decide +kernel
theorem dX11_reads_155 : decode cX11_reads 155 = .ok (.aload_n 0, 1) := by decide +kernel
theorem dX11_reads_156 : decode cX11_reads 156 = .ok (.aload_n 0, 1) := by decide +kernel
theorem dX11_reads_157 : decode cX11_reads 157 = .ok (.getfield 122, 3) := by decide +kernel
theorem dX11_reads_160 : decode cX11_reads 160 = .ok (.aload_n 0, 1) := by decide +kernel
theorem dX11_reads_161 : decode cX11_reads 161 = .ok (.getfield 125, 3) := by decide +kernel
theorem dX11_reads_164 : decode cX11_reads 164 = .ok (.isub, 1) := by decide +kernel
theorem dX11_reads_165 : decode cX11_reads 165 = .ok (.iconst 3, 1) := by decide +kernel
theorem dX11_reads_166 : decode cX11_reads 166 = .ok (.if_icmp .ge 26, 3) := by decide +kernel
theorem dX11_reads_169 : decode cX11_reads 169 = .ok (.bipush 10, 2) := by decide +kernel
theorem dX11_reads_171 : decode cX11_reads 171 = .ok (.aload_n 0, 1) := by decide +kernel
theorem dX11_reads_172 : decode cX11_reads 172 = .ok (.getfield 141, 3) := by decide +kernel
theorem dX11_reads_175 : decode cX11_reads 175 = .ok (.imul, 1) := by decide +kernel
theorem dX11_reads_176 : decode cX11_reads 176 = .ok (.aload_n 0, 1) := by decide +kernel
theorem dX11_reads_177 : decode cX11_reads 177 = .ok (.getfield 26, 3) := by decide +kernel
theorem dX11_reads_180 : decode cX11_reads 180 = .ok (.aload_n 0, 1) := by decide +kernel
theorem dX11_reads_181 : decode cX11_reads 181 = .ok (.getfield 122, 3) := by decide +kernel
theorem dX11_reads_184 : decode cX11_reads 184 = .ok (.iaload, 1) := by decide +kernel
theorem dX11_reads_185 : decode cX11_reads 185 = .ok (.iadd, 1) := by decide +kernel
theorem dX11_reads_186 : decode cX11_reads 186 = .ok (.bipush 48, 2) := by decide +kernel
theorem dX11_reads_188 : decode cX11_reads 188 = .ok (.isub, 1) := by decide +kernel
theorem dX11_reads_189 : decode cX11_reads 189 = .ok (.goto 7, 3) := by decide +kernel
theorem dX11_reads_192 : decode cX11_reads 192 = .ok (.aload_n 0, 1) := by decide +kernel
theorem dX11_reads_193 : decode cX11_reads 193 = .ok (.getfield 141, 3) := by decide +kernel
theorem dX11_reads_196 : decode cX11_reads 196 = .ok (.putfield 141, 3) := by decide +kernel
theorem dX11_reads_199 : decode cX11_reads 199 = .ok (.aload_n 0, 1) := by decide +kernel
theorem dX11_reads_200 : decode cX11_reads 200 = .ok (.dup, 1) := by decide +kernel
theorem dX11_reads_201 : decode cX11_reads 201 = .ok (.getfield 122, 3) := by decide +kernel
theorem dX11_reads_204 : decode cX11_reads 204 = .ok (.iconst 1, 1) := by decide +kernel
theorem dX11_reads_205 : decode cX11_reads 205 = .ok (.iadd, 1) := by decide +kernel
theorem dX11_reads_206 : decode cX11_reads 206 = .ok (.putfield 122, 3) := by decide +kernel
theorem dX11_reads_209 : decode cX11_reads 209 = .ok (.goto (-68), 3) := by decide +kernel
theorem dX11_reads_212 : decode cX11_reads 212 = .ok (.aload_n 0, 1) := by decide +kernel
theorem dX11_reads_213 : decode cX11_reads 213 = .ok (.aload_n 0, 1) := by decide +kernel
theorem dX11_reads_214 : decode cX11_reads 214 = .ok (.getfield 122, 3) := by decide +kernel
theorem dX11_reads_217 : decode cX11_reads 217 = .ok (.aload_n 0, 1) := by decide +kernel
theorem dX11_reads_218 : decode cX11_reads 218 = .ok (.getfield 125, 3) := by decide +kernel
theorem dX11_reads_221 : decode cX11_reads 221 = .ok (.isub, 1) := by decide +kernel
theorem dX11_reads_222 : decode cX11_reads 222 = .ok (.iconst 3, 1) := by decide +kernel
theorem dX11_reads_223 : decode cX11_reads 223 = .ok (.if_icmp .le 7, 3) := by decide +kernel
theorem dX11_reads_226 : decode cX11_reads 226 = .ok (.iconst 4, 1) := by decide +kernel
theorem dX11_reads_227 : decode cX11_reads 227 = .ok (.goto 4, 3) := by decide +kernel
theorem dX11_reads_230 : decode cX11_reads 230 = .ok (.iconst 2, 1) := by decide +kernel
theorem dX11_reads_231 : decode cX11_reads 231 = .ok (.putfield 128, 3) := by decide +kernel
theorem dX11_reads_234 : decode cX11_reads 234 = .ok (.goto 45, 3) := by decide +kernel
theorem dX11_reads_237 : decode cX11_reads 237 = .ok (.aload_n 0, 1) := by decide +kernel
theorem dX11_reads_238 : decode cX11_reads 238 = .ok (.iload_n 1, 1) := by decide +kernel
theorem dX11_reads_239 : decode cX11_reads 239 = .ok (.bipush 59, 2) := by decide +kernel
theorem dX11_reads_241 : decode cX11_reads 241 = .ok (.if_icmp .eq 15, 3) := by decide +kernel
theorem dX11_reads_244 : decode cX11_reads 244 = .ok (.iload_n 1, 1) := by decide +kernel
theorem dX11_reads_245 : decode cX11_reads 245 = .ok (.bipush 40, 2) := by decide +kernel
theorem dX11_reads_247 : decode cX11_reads 247 = .ok (.if_icmp .eq 9, 3) := by decide +kernel
theorem dX11_reads_250 : decode cX11_reads 250 = .ok (.iload_n 1, 1) := by decide +kernel
theorem dX11_reads_251 : decode cX11_reads 251 = .ok (.bipush 41, 2) := by decide +kernel
theorem dX11_reads_253 : decode cX11_reads 253 = .ok (.if_icmp .ne 7, 3) := by decide +kernel
theorem dX11_reads_256 : decode cX11_reads 256 = .ok (.iconst 3, 1) := by decide +kernel
theorem dX11_reads_257 : decode cX11_reads 257 = .ok (.goto 4, 3) := by decide +kernel
theorem dX11_reads_260 : decode cX11_reads 260 = .ok (.iconst 4, 1) := by decide +kernel
theorem dX11_reads_261 : decode cX11_reads 261 = .ok (.putfield 128, 3) := by decide +kernel
theorem dX11_reads_264 : decode cX11_reads 264 = .ok (.aload_n 0, 1) := by decide +kernel
theorem dX11_reads_265 : decode cX11_reads 265 = .ok (.iload_n 1, 1) := by decide +kernel
theorem dX11_reads_266 : decode cX11_reads 266 = .ok (.putfield 141, 3) := by decide +kernel
theorem dX11_reads_269 : decode cX11_reads 269 = .ok (.aload_n 0, 1) := by decide +kernel
theorem dX11_reads_270 : decode cX11_reads 270 = .ok (.dup, 1) := by decide +kernel
theorem dX11_reads_271 : decode cX11_reads 271 = .ok (.getfield 122, 3) := by decide +kernel
theorem dX11_reads_274 : decode cX11_reads 274 = .ok (.iconst 1, 1) := by decide +kernel
theorem dX11_reads_275 : decode cX11_reads 275 = .ok (.iadd, 1) := by decide +kernel
theorem dX11_reads_276 : decode cX11_reads 276 = .ok (.putfield 122, 3) := by decide +kernel
theorem dX11_reads_279 : decode cX11_reads 279 = .ok (.return_, 1) := by decide +kernel
theorem dX11_isSign_0 : decode cX11_isSign 0 = .ok (.aload_n 0, 1) := by decide +kernel
theorem dX11_isSign_1 : decode cX11_isSign 1 = .ok (.getfield 144, 3) := by decide +kernel
theorem dX11_isSign_4 : decode cX11_isSign 4 = .ok (.ifCond .ne 23, 3) := by decide +kernel
theorem dX11_isSign_7 : decode cX11_isSign 7 = .ok (.aload_n 0, 1) := by decide +kernel
theorem dX11_isSign_8 : decode cX11_isSign 8 = .ok (.getfield 128, 3) := by decide +kernel
theorem dX11_isSign_11 : decode cX11_isSign 11 = .ok (.iconst 3, 1) := by decide +kernel
theorem dX11_isSign_12 : decode cX11_isSign 12 = .ok (.if_icmp .ne 15, 3) := by decide +kernel
theorem dX11_isSign_15 : decode cX11_isSign 15 = .ok (.aload_n 0, 1) := by decide +kernel
theorem dX11_isSign_16 : decode cX11_isSign 16 = .ok (.getfield 141, 3) := by decide +kernel
theorem dX11_isSign_19 : decode cX11_isSign 19 = .ok (.iload_n 1, 1) := by decide +kernel
theorem dX11_isSign_20 : decode cX11_isSign 20 = .ok (.if_icmp .ne 7, 3) := by decide +kernel
theorem dX11_isSign_23 : decode cX11_isSign 23 = .ok (.iconst 1, 1) := by decide +kernel
theorem dX11_isSign_24 : decode cX11_isSign 24 = .ok (.goto 4, 3) := by decide +kernel
theorem dX11_isSign_27 : decode cX11_isSign 27 = .ok (.iconst 0, 1) := by decide +kernel
theorem dX11_isSign_28 : decode cX11_isSign 28 = .ok (.ireturn, 1) := by decide +kernel
theorem dX11_sign_0 : decode cX11_sign 0 = .ok (.aload_n 0, 1) := by decide +kernel
theorem dX11_sign_1 : decode cX11_sign 1 = .ok (.iload_n 1, 1) := by decide +kernel
theorem dX11_sign_2 : decode cX11_sign 2 = .ok (.invokevirtual 147, 3) := by decide +kernel
theorem dX11_sign_5 : decode cX11_sign 5 = .ok (.ifCond .ne 8, 3) := by decide +kernel
theorem dX11_sign_8 : decode cX11_sign 8 = .ok (.aload_n 0, 1) := by decide +kernel
theorem dX11_sign_9 : decode cX11_sign 9 = .ok (.iconst 2, 1) := by decide +kernel
theorem dX11_sign_10 : decode cX11_sign 10 = .ok (.invokevirtual 150, 3) := by decide +kernel
theorem dX11_sign_13 : decode cX11_sign 13 = .ok (.aload_n 0, 1) := by decide +kernel
theorem dX11_sign_14 : decode cX11_sign 14 = .ok (.getfield 144, 3) := by decide +kernel
theorem dX11_sign_17 : decode cX11_sign 17 = .ok (.ifCond .ne 7, 3) := by decide +kernel
theorem dX11_sign_20 : decode cX11_sign 20 = .ok (.aload_n 0, 1) := by decide +kernel
theorem dX11_sign_21 : decode cX11_sign 21 = .ok (.invokevirtual 154, 3) := by decide +kernel
theorem dX11_sign_24 : decode cX11_sign 24 = .ok (.return_, 1) := by decide +kernel
theorem dX11_blames_0 : decode cX11_blames 0 = .ok (.aload_n 0, 1) := by decide +kernel
theorem dX11_blames_1 : decode cX11_blames 1 = .ok (.getfield 144, 3) := by decide +kernel
theorem dX11_blames_4 : decode cX11_blames 4 = .ok (.ifCond .eq 4, 3) := by decide +kernel
theorem dX11_blames_7 : decode cX11_blames 7 = .ok (.return_, 1) := by decide +kernel
theorem dX11_blames_8 : decode cX11_blames 8 = .ok (.aload_n 0, 1) := by decide +kernel
theorem dX11_blames_9 : decode cX11_blames 9 = .ok (.aload_n 0, 1) := by decide +kernel
theorem dX11_blames_10 : decode cX11_blames 10 = .ok (.getfield 128, 3) := by decide +kernel
theorem dX11_blames_13 : decode cX11_blames 13 = .ok (.iconst 4, 1) := by decide +kernel
theorem dX11_blames_14 : decode cX11_blames 14 = .ok (.if_icmp .ne 7, 3) := by decide +kernel
theorem dX11_blames_17 : decode cX11_blames 17 = .ok (.iconst 1, 1) := by decide +kernel
theorem dX11_blames_18 : decode cX11_blames 18 = .ok (.goto 4, 3) := by decide +kernel
theorem dX11_blames_21 : decode cX11_blames 21 = .ok (.iload_n 1, 1) := by decide +kernel
theorem dX11_blames_22 : decode cX11_blames 22 = .ok (.putfield 144, 3) := by decide +kernel
theorem dX11_blames_25 : decode cX11_blames 25 = .ok (.aload_n 0, 1) := by decide +kernel
theorem dX11_blames_26 : decode cX11_blames 26 = .ok (.aload_n 0, 1) := by decide +kernel
theorem dX11_blames_27 : decode cX11_blames 27 = .ok (.getfield 125, 3) := by decide +kernel
theorem dX11_blames_30 : decode cX11_blames 30 = .ok (.putfield 157, 3) := by decide +kernel
theorem dX11_blames_33 : decode cX11_blames 33 = .ok (.return_, 1) := by decide +kernel
theorem dX11_isWord_0 : decode cX11_isWord 0 = .ok (.aload_n 0, 1) := by decide +kernel
theorem dX11_isWord_1 : decode cX11_isWord 1 = .ok (.getfield 144, 3) := by decide +kernel
theorem dX11_isWord_4 : decode cX11_isWord 4 = .ok (.ifCond .ne 31, 3) := by decide +kernel
theorem dX11_isWord_7 : decode cX11_isWord 7 = .ok (.aload_n 0, 1) := by decide +kernel
theorem dX11_isWord_8 : decode cX11_isWord 8 = .ok (.getfield 128, 3) := by decide +kernel
theorem dX11_isWord_11 : decode cX11_isWord 11 = .ok (.iconst 1, 1) := by decide +kernel
theorem dX11_isWord_12 : decode cX11_isWord 12 = .ok (.if_icmp .ne 23, 3) := by decide +kernel
theorem dX11_isWord_15 : decode cX11_isWord 15 = .ok (.aload_n 0, 1) := by decide +kernel
theorem dX11_isWord_16 : decode cX11_isWord 16 = .ok (.getfield 122, 3) := by decide +kernel
theorem dX11_isWord_19 : decode cX11_isWord 19 = .ok (.aload_n 0, 1) := by decide +kernel
theorem dX11_isWord_20 : decode cX11_isWord 20 = .ok (.getfield 125, 3) := by decide +kernel
theorem dX11_isWord_23 : decode cX11_isWord 23 = .ok (.isub, 1) := by decide +kernel
theorem dX11_isWord_24 : decode cX11_isWord 24 = .ok (.aload_n 1, 1) := by decide +kernel
theorem dX11_isWord_25 : decode cX11_isWord 25 = .ok (.invokevirtual 160, 3) := by decide +kernel
theorem dX11_isWord_28 : decode cX11_isWord 28 = .ok (.if_icmp .ne 7, 3) := by decide +kernel
theorem dX11_isWord_31 : decode cX11_isWord 31 = .ok (.iconst 1, 1) := by decide +kernel
theorem dX11_isWord_32 : decode cX11_isWord 32 = .ok (.goto 4, 3) := by decide +kernel
theorem dX11_isWord_35 : decode cX11_isWord 35 = .ok (.iconst 0, 1) := by decide +kernel
theorem dX11_isWord_36 : decode cX11_isWord 36 = .ok (.istore_n 2, 1) := by decide +kernel
theorem dX11_isWord_37 : decode cX11_isWord 37 = .ok (.iconst 0, 1) := by decide +kernel
theorem dX11_isWord_38 : decode cX11_isWord 38 = .ok (.istore_n 3, 1) := by decide +kernel
theorem dX11_isWord_39 : decode cX11_isWord 39 = .ok (.iload_n 2, 1) := by decide +kernel
theorem dX11_isWord_40 : decode cX11_isWord 40 = .ok (.ifCond .eq 42, 3) := by decide +kernel
theorem dX11_isWord_43 : decode cX11_isWord 43 = .ok (.iload_n 3, 1) := by decide +kernel
theorem dX11_isWord_44 : decode cX11_isWord 44 = .ok (.aload_n 1, 1) := by decide +kernel
theorem dX11_isWord_45 : decode cX11_isWord 45 = .ok (.invokevirtual 160, 3) := by decide +kernel
theorem dX11_isWord_48 : decode cX11_isWord 48 = .ok (.if_icmp .ge 34, 3) := by decide +kernel
theorem dX11_isWord_51 : decode cX11_isWord 51 = .ok (.aload_n 0, 1) := by decide +kernel
theorem dX11_isWord_52 : decode cX11_isWord 52 = .ok (.getfield 26, 3) := by decide +kernel
theorem dX11_isWord_55 : decode cX11_isWord 55 = .ok (.aload_n 0, 1) := by decide +kernel
theorem dX11_isWord_56 : decode cX11_isWord 56 = .ok (.getfield 125, 3) := by decide +kernel
theorem dX11_isWord_59 : decode cX11_isWord 59 = .ok (.iload_n 3, 1) := by decide +kernel
theorem dX11_isWord_60 : decode cX11_isWord 60 = .ok (.iadd, 1) := by decide +kernel
theorem dX11_isWord_61 : decode cX11_isWord 61 = .ok (.iaload, 1) := by decide +kernel
theorem dX11_isWord_62 : decode cX11_isWord 62 = .ok (.aload_n 1, 1) := by decide +kernel
theorem dX11_isWord_63 : decode cX11_isWord 63 = .ok (.iload_n 3, 1) := by decide +kernel
theorem dX11_isWord_64 : decode cX11_isWord 64 = .ok (.invokevirtual 166, 3) := by decide +kernel
theorem dX11_isWord_67 : decode cX11_isWord 67 = .ok (.if_icmp .ne 7, 3) := by decide +kernel
theorem dX11_isWord_70 : decode cX11_isWord 70 = .ok (.iconst 1, 1) := by decide +kernel
theorem dX11_isWord_71 : decode cX11_isWord 71 = .ok (.goto 4, 3) := by decide +kernel
theorem dX11_isWord_74 : decode cX11_isWord 74 = .ok (.iconst 0, 1) := by decide +kernel
theorem dX11_isWord_75 : decode cX11_isWord 75 = .ok (.istore_n 2, 1) := by decide +kernel
theorem dX11_isWord_76 : decode cX11_isWord 76 = .ok (.iinc 3 1, 3) := by decide +kernel
theorem dX11_isWord_79 : decode cX11_isWord 79 = .ok (.goto (-40), 3) := by decide +kernel
theorem dX11_isWord_82 : decode cX11_isWord 82 = .ok (.iload_n 2, 1) := by decide +kernel
theorem dX11_isWord_83 : decode cX11_isWord 83 = .ok (.ireturn, 1) := by decide +kernel
theorem dX11_number_0 : decode cX11_number 0 = .ok (.aload_n 0, 1) := by decide +kernel
theorem dX11_number_1 : decode cX11_number 1 = .ok (.getfield 128, 3) := by decide +kernel
theorem dX11_number_4 : decode cX11_number 4 = .ok (.iconst 2, 1) := by decide +kernel
theorem dX11_number_5 : decode cX11_number 5 = .ok (.if_icmp .eq 11, 3) := by decide +kernel
theorem dX11_number_8 : decode cX11_number 8 = .ok (.aload_n 0, 1) := by decide +kernel
theorem dX11_number_9 : decode cX11_number 9 = .ok (.iconst 2, 1) := by decide +kernel
theorem dX11_number_10 : decode cX11_number 10 = .ok (.invokevirtual 150, 3) := by decide +kernel
theorem dX11_number_13 : decode cX11_number 13 = .ok (.goto 23, 3) := by decide +kernel
theorem dX11_number_16 : decode cX11_number 16 = .ok (.aload_n 0, 1) := by decide +kernel
theorem dX11_number_17 : decode cX11_number 17 = .ok (.getfield 141, 3) := by decide +kernel
theorem dX11_number_20 : decode cX11_number 20 = .ok (.i2l, 1) := by decide +kernel
theorem dX11_number_21 : decode cX11_number 21 = .ok (.iload_n 1, 1) := by decide +kernel
theorem dX11_number_22 : decode cX11_number 22 = .ok (.i2l, 1) := by decide +kernel
theorem dX11_number_23 : decode cX11_number 23 = .ok (.iload_n 2, 1) := by decide +kernel
theorem dX11_number_24 : decode cX11_number 24 = .ok (.i2l, 1) := by decide +kernel
theorem dX11_number_25 : decode cX11_number 25 = .ok (.invokestatic 98, 3) := by decide +kernel
theorem dX11_number_28 : decode cX11_number 28 = .ok (.ifCond .ne 8, 3) := by decide +kernel
theorem dX11_number_31 : decode cX11_number 31 = .ok (.aload_n 0, 1) := by decide +kernel
theorem dX11_number_32 : decode cX11_number 32 = .ok (.iconst 3, 1) := by decide +kernel
theorem dX11_number_33 : decode cX11_number 33 = .ok (.invokevirtual 150, 3) := by decide +kernel
theorem dX11_number_36 : decode cX11_number 36 = .ok (.aload_n 0, 1) := by decide +kernel
theorem dX11_number_37 : decode cX11_number 37 = .ok (.getfield 141, 3) := by decide +kernel
theorem dX11_number_40 : decode cX11_number 40 = .ok (.istore_n 3, 1) := by decide +kernel
theorem dX11_number_41 : decode cX11_number 41 = .ok (.aload_n 0, 1) := by decide +kernel
theorem dX11_number_42 : decode cX11_number 42 = .ok (.getfield 144, 3) := by decide +kernel
theorem dX11_number_45 : decode cX11_number 45 = .ok (.ifCond .ne 7, 3) := by decide +kernel
theorem dX11_number_48 : decode cX11_number 48 = .ok (.aload_n 0, 1) := by decide +kernel
theorem dX11_number_49 : decode cX11_number 49 = .ok (.invokevirtual 154, 3) := by decide +kernel
theorem dX11_number_52 : decode cX11_number 52 = .ok (.aload_n 0, 1) := by decide +kernel
theorem dX11_number_53 : decode cX11_number 53 = .ok (.getfield 144, 3) := by decide +kernel
theorem dX11_number_56 : decode cX11_number 56 = .ok (.ifCond .ne 7, 3) := by decide +kernel
theorem dX11_number_59 : decode cX11_number 59 = .ok (.iload_n 3, 1) := by decide +kernel
theorem dX11_number_60 : decode cX11_number 60 = .ok (.goto 4, 3) := by decide +kernel
theorem dX11_number_63 : decode cX11_number 63 = .ok (.iload_n 1, 1) := by decide +kernel
theorem dX11_number_64 : decode cX11_number 64 = .ok (.ireturn, 1) := by decide +kernel
theorem dX11_code_0 : decode cX11_code 0 = .ok (.aload_n 0, 1) := by decide +kernel
theorem dX11_code_1 : decode cX11_code 1 = .ok (.getfield 144, 3) := by decide +kernel
theorem dX11_code_4 : decode cX11_code 4 = .ok (.ifCond .eq 4, 3) := by decide +kernel
theorem dX11_code_7 : decode cX11_code 7 = .ok (.return_, 1) := by decide +kernel
theorem dX11_code_8 : decode cX11_code 8 = .ok (.aload_n 0, 1) := by decide +kernel
theorem dX11_code_9 : decode cX11_code 9 = .ok (.getfield 33, 3) := by decide +kernel
theorem dX11_code_12 : decode cX11_code 12 = .ok (.iconst 4, 1) := by decide +kernel
theorem dX11_code_13 : decode cX11_code 13 = .ok (.aload_n 0, 1) := by decide +kernel
theorem dX11_code_14 : decode cX11_code 14 = .ok (.getfield 170, 3) := by decide +kernel
theorem dX11_code_17 : decode cX11_code 17 = .ok (.imul, 1) := by decide +kernel
theorem dX11_code_18 : decode cX11_code 18 = .ok (.iload_n 1, 1) := by decide +kernel
theorem dX11_code_19 : decode cX11_code 19 = .ok (.iastore, 1) := by decide +kernel
theorem dX11_code_20 : decode cX11_code 20 = .ok (.aload_n 0, 1) := by decide +kernel
theorem dX11_code_21 : decode cX11_code 21 = .ok (.getfield 33, 3) := by decide +kernel
theorem dX11_code_24 : decode cX11_code 24 = .ok (.iconst 4, 1) := by decide +kernel
theorem dX11_code_25 : decode cX11_code 25 = .ok (.aload_n 0, 1) := by decide +kernel
theorem dX11_code_26 : decode cX11_code 26 = .ok (.getfield 170, 3) := by decide +kernel
theorem dX11_code_29 : decode cX11_code 29 = .ok (.imul, 1) := by decide +kernel
theorem dX11_code_30 : decode cX11_code 30 = .ok (.iconst 1, 1) := by decide +kernel
theorem dX11_code_31 : decode cX11_code 31 = .ok (.iadd, 1) := by decide +kernel
theorem dX11_code_32 : decode cX11_code 32 = .ok (.iload_n 2, 1) := by decide +kernel
theorem dX11_code_33 : decode cX11_code 33 = .ok (.iastore, 1) := by decide +kernel
theorem dX11_code_34 : decode cX11_code 34 = .ok (.aload_n 0, 1) := by decide +kernel
theorem dX11_code_35 : decode cX11_code 35 = .ok (.getfield 33, 3) := by decide +kernel
theorem dX11_code_38 : decode cX11_code 38 = .ok (.iconst 4, 1) := by decide +kernel
theorem dX11_code_39 : decode cX11_code 39 = .ok (.aload_n 0, 1) := by decide +kernel
theorem dX11_code_40 : decode cX11_code 40 = .ok (.getfield 170, 3) := by decide +kernel
theorem dX11_code_43 : decode cX11_code 43 = .ok (.imul, 1) := by decide +kernel
theorem dX11_code_44 : decode cX11_code 44 = .ok (.iconst 2, 1) := by decide +kernel
theorem dX11_code_45 : decode cX11_code 45 = .ok (.iadd, 1) := by decide +kernel
theorem dX11_code_46 : decode cX11_code 46 = .ok (.iload_n 3, 1) := by decide +kernel
theorem dX11_code_47 : decode cX11_code 47 = .ok (.iastore, 1) := by decide +kernel
theorem dX11_code_48 : decode cX11_code 48 = .ok (.aload_n 0, 1) := by decide +kernel
theorem dX11_code_49 : decode cX11_code 49 = .ok (.getfield 33, 3) := by decide +kernel
theorem dX11_code_52 : decode cX11_code 52 = .ok (.iconst 4, 1) := by decide +kernel
theorem dX11_code_53 : decode cX11_code 53 = .ok (.aload_n 0, 1) := by decide +kernel
theorem dX11_code_54 : decode cX11_code 54 = .ok (.getfield 170, 3) := by decide +kernel
theorem dX11_code_57 : decode cX11_code 57 = .ok (.imul, 1) := by decide +kernel
theorem dX11_code_58 : decode cX11_code 58 = .ok (.iconst 3, 1) := by decide +kernel
theorem dX11_code_59 : decode cX11_code 59 = .ok (.iadd, 1) := by decide +kernel
theorem dX11_code_60 : decode cX11_code 60 = .ok (.iload 4, 2) := by decide +kernel
theorem dX11_code_62 : decode cX11_code 62 = .ok (.iastore, 1) := by decide +kernel
theorem dX11_code_63 : decode cX11_code 63 = .ok (.aload_n 0, 1) := by decide +kernel
theorem dX11_code_64 : decode cX11_code 64 = .ok (.dup, 1) := by decide +kernel
theorem dX11_code_65 : decode cX11_code 65 = .ok (.getfield 170, 3) := by decide +kernel
theorem dX11_code_68 : decode cX11_code 68 = .ok (.iconst 1, 1) := by decide +kernel
theorem dX11_code_69 : decode cX11_code 69 = .ok (.iadd, 1) := by decide +kernel
theorem dX11_code_70 : decode cX11_code 70 = .ok (.putfield 170, 3) := by decide +kernel
theorem dX11_code_73 : decode cX11_code 73 = .ok (.return_, 1) := by decide +kernel
theorem dX11_wayTold_0 : decode cX11_wayTold 0 = .ok (.aload_n 0, 1) := by decide +kernel
theorem dX11_wayTold_1 : decode cX11_wayTold 1 = .ok (.ldc 173, 2) := by decide +kernel
theorem dX11_wayTold_3 : decode cX11_wayTold 3 = .ok (.invokevirtual 175, 3) := by decide +kernel
theorem dX11_wayTold_6 : decode cX11_wayTold 6 = .ok (.ifCond .eq 5, 3) := by decide +kernel
theorem dX11_wayTold_9 : decode cX11_wayTold 9 = .ok (.iconst 0, 1) := by decide +kernel
theorem dX11_wayTold_10 : decode cX11_wayTold 10 = .ok (.ireturn, 1) := by decide +kernel
theorem dX11_wayTold_11 : decode cX11_wayTold 11 = .ok (.aload_n 0, 1) := by decide +kernel
theorem dX11_wayTold_12 : decode cX11_wayTold 12 = .ok (.ldc 179, 2) := by decide +kernel
theorem dX11_wayTold_14 : decode cX11_wayTold 14 = .ok (.invokevirtual 175, 3) := by decide +kernel
theorem dX11_wayTold_17 : decode cX11_wayTold 17 = .ok (.ifCond .eq 5, 3) := by decide +kernel
theorem dX11_wayTold_20 : decode cX11_wayTold 20 = .ok (.iconst 1, 1) := by decide +kernel
theorem dX11_wayTold_21 : decode cX11_wayTold 21 = .ok (.ireturn, 1) := by decide +kernel
theorem dX11_wayTold_22 : decode cX11_wayTold 22 = .ok (.aload_n 0, 1) := by decide +kernel
theorem dX11_wayTold_23 : decode cX11_wayTold 23 = .ok (.ldc 181, 2) := by decide +kernel
theorem dX11_wayTold_25 : decode cX11_wayTold 25 = .ok (.invokevirtual 175, 3) := by decide +kernel
theorem dX11_wayTold_28 : decode cX11_wayTold 28 = .ok (.ifCond .eq 5, 3) := by decide +kernel
theorem dX11_wayTold_31 : decode cX11_wayTold 31 = .ok (.iconst 2, 1) := by decide +kernel
theorem dX11_wayTold_32 : decode cX11_wayTold 32 = .ok (.ireturn, 1) := by decide +kernel
theorem dX11_wayTold_33 : decode cX11_wayTold 33 = .ok (.aload_n 0, 1) := by decide +kernel
theorem dX11_wayTold_34 : decode cX11_wayTold 34 = .ok (.ldc 183, 2) := by decide +kernel
theorem dX11_wayTold_36 : decode cX11_wayTold 36 = .ok (.invokevirtual 175, 3) := by decide +kernel
theorem dX11_wayTold_39 : decode cX11_wayTold 39 = .ok (.ifCond .eq 5, 3) := by decide +kernel
theorem dX11_wayTold_42 : decode cX11_wayTold 42 = .ok (.iconst 3, 1) := by decide +kernel
theorem dX11_wayTold_43 : decode cX11_wayTold 43 = .ok (.ireturn, 1) := by decide +kernel
theorem dX11_wayTold_44 : decode cX11_wayTold 44 = .ok (.aload_n 0, 1) := by decide +kernel
theorem dX11_wayTold_45 : decode cX11_wayTold 45 = .ok (.ldc 185, 2) := by decide +kernel
theorem dX11_wayTold_47 : decode cX11_wayTold 47 = .ok (.invokevirtual 175, 3) := by decide +kernel
theorem dX11_wayTold_50 : decode cX11_wayTold 50 = .ok (.ifCond .eq 5, 3) := by decide +kernel
theorem dX11_wayTold_53 : decode cX11_wayTold 53 = .ok (.iconst 4, 1) := by decide +kernel
theorem dX11_wayTold_54 : decode cX11_wayTold 54 = .ok (.ireturn, 1) := by decide +kernel
theorem dX11_wayTold_55 : decode cX11_wayTold 55 = .ok (.aload_n 0, 1) := by decide +kernel
theorem dX11_wayTold_56 : decode cX11_wayTold 56 = .ok (.ldc 187, 2) := by decide +kernel
theorem dX11_wayTold_58 : decode cX11_wayTold 58 = .ok (.invokevirtual 175, 3) := by decide +kernel
theorem dX11_wayTold_61 : decode cX11_wayTold 61 = .ok (.ifCond .eq 5, 3) := by decide +kernel
theorem dX11_wayTold_64 : decode cX11_wayTold 64 = .ok (.iconst 5, 1) := by decide +kernel
theorem dX11_wayTold_65 : decode cX11_wayTold 65 = .ok (.ireturn, 1) := by decide +kernel
theorem dX11_wayTold_66 : decode cX11_wayTold 66 = .ok (.aload_n 0, 1) := by decide +kernel
theorem dX11_wayTold_67 : decode cX11_wayTold 67 = .ok (.ldc 189, 2) := by decide +kernel
theorem dX11_wayTold_69 : decode cX11_wayTold 69 = .ok (.invokevirtual 175, 3) := by decide +kernel
theorem dX11_wayTold_72 : decode cX11_wayTold 72 = .ok (.ifCond .eq 6, 3) := by decide +kernel
theorem dX11_wayTold_75 : decode cX11_wayTold 75 = .ok (.bipush 6, 2) := by decide +kernel
theorem dX11_wayTold_77 : decode cX11_wayTold 77 = .ok (.ireturn, 1) := by decide +kernel
theorem dX11_wayTold_78 : decode cX11_wayTold 78 = .ok (.aload_n 0, 1) := by decide +kernel
theorem dX11_wayTold_79 : decode cX11_wayTold 79 = .ok (.ldc 191, 2) := by decide +kernel
theorem dX11_wayTold_81 : decode cX11_wayTold 81 = .ok (.invokevirtual 175, 3) := by decide +kernel
theorem dX11_wayTold_84 : decode cX11_wayTold 84 = .ok (.ifCond .eq 8, 3) := by decide +kernel
theorem dX11_wayTold_87 : decode cX11_wayTold 87 = .ok (.bipush 7, 2) := by decide +kernel
theorem dX11_wayTold_89 : decode cX11_wayTold 89 = .ok (.goto 4, 3) := by decide +kernel
theorem dX11_wayTold_92 : decode cX11_wayTold 92 = .ok (.iconst (-1), 1) := by decide +kernel
theorem dX11_wayTold_93 : decode cX11_wayTold 93 = .ok (.ireturn, 1) := by decide +kernel
theorem dX11_readPlace_0 : decode cX11_readPlace 0 = .ok (.aload_n 0, 1) := by decide +kernel
theorem dX11_readPlace_1 : decode cX11_readPlace 1 = .ok (.invokevirtual 154, 3) := by decide +kernel
theorem dX11_readPlace_4 : decode cX11_readPlace 4 = .ok (.aload_n 0, 1) := by decide +kernel
theorem dX11_readPlace_5 : decode cX11_readPlace 5 = .ok (.iconst 0, 1) := by decide +kernel
theorem dX11_readPlace_6 : decode cX11_readPlace 6 = .ok (.bipush 11, 2) := by decide +kernel
theorem dX11_readPlace_8 : decode cX11_readPlace 8 = .ok (.invokevirtual 193, 3) := by decide +kernel
theorem dX11_readPlace_11 : decode cX11_readPlace 11 = .ok (.istore_n 2, 1) := by decide +kernel
theorem dX11_readPlace_12 : decode cX11_readPlace 12 = .ok (.aload_n 0, 1) := by decide +kernel
theorem dX11_readPlace_13 : decode cX11_readPlace 13 = .ok (.iconst 0, 1) := by decide +kernel
theorem dX11_readPlace_14 : decode cX11_readPlace 14 = .ok (.bipush 11, 2) := by decide +kernel
theorem dX11_readPlace_16 : decode cX11_readPlace 16 = .ok (.invokevirtual 193, 3) := by decide +kernel
theorem dX11_readPlace_19 : decode cX11_readPlace 19 = .ok (.istore_n 3, 1) := by decide +kernel
theorem dX11_readPlace_20 : decode cX11_readPlace 20 = .ok (.aload_n 0, 1) := by decide +kernel
theorem dX11_readPlace_21 : decode cX11_readPlace 21 = .ok (.iload_n 1, 1) := by decide +kernel
theorem dX11_readPlace_22 : decode cX11_readPlace 22 = .ok (.bipush 12, 2) := by decide +kernel
theorem dX11_readPlace_24 : decode cX11_readPlace 24 = .ok (.iload_n 3, 1) := by decide +kernel
theorem dX11_readPlace_25 : decode cX11_readPlace 25 = .ok (.imul, 1) := by decide +kernel
theorem dX11_readPlace_26 : decode cX11_readPlace 26 = .ok (.iload_n 2, 1) := by decide +kernel
theorem dX11_readPlace_27 : decode cX11_readPlace 27 = .ok (.iadd, 1) := by decide +kernel
theorem dX11_readPlace_28 : decode cX11_readPlace 28 = .ok (.iconst 0, 1) := by decide +kernel
theorem dX11_readPlace_29 : decode cX11_readPlace 29 = .ok (.iconst 0, 1) := by decide +kernel
theorem dX11_readPlace_30 : decode cX11_readPlace 30 = .ok (.invokevirtual 196, 3) := by decide +kernel
theorem dX11_readPlace_33 : decode cX11_readPlace 33 = .ok (.return_, 1) := by decide +kernel
theorem dX11_readWithin_0 : decode cX11_readWithin 0 = .ok (.aload_n 0, 1) := by decide +kernel
theorem dX11_readWithin_1 : decode cX11_readWithin 1 = .ok (.iload_n 1, 1) := by decide +kernel
theorem dX11_readWithin_2 : decode cX11_readWithin 2 = .ok (.iload_n 2, 1) := by decide +kernel
theorem dX11_readWithin_3 : decode cX11_readWithin 3 = .ok (.iconst 0, 1) := by decide +kernel
theorem dX11_readWithin_4 : decode cX11_readWithin 4 = .ok (.iconst 0, 1) := by decide +kernel
theorem dX11_readWithin_5 : decode cX11_readWithin 5 = .ok (.invokevirtual 196, 3) := by decide +kernel
theorem dX11_readWithin_8 : decode cX11_readWithin 8 = .ok (.aload_n 0, 1) := by decide +kernel
theorem dX11_readWithin_9 : decode cX11_readWithin 9 = .ok (.bipush 40, 2) := by decide +kernel
theorem dX11_readWithin_11 : decode cX11_readWithin 11 = .ok (.invokevirtual 147, 3) := by decide +kernel
theorem dX11_readWithin_14 : decode cX11_readWithin 14 = .ok (.ifCond .eq 16, 3) := by decide +kernel
theorem dX11_readWithin_17 : decode cX11_readWithin 17 = .ok (.aload_n 0, 1) := by decide +kernel
theorem dX11_readWithin_18 : decode cX11_readWithin 18 = .ok (.getfield 200, 3) := by decide +kernel
theorem dX11_readWithin_21 : decode cX11_readWithin 21 = .ok (.iconst 5, 1) := by decide +kernel
theorem dX11_readWithin_22 : decode cX11_readWithin 22 = .ok (.if_icmp .ne 8, 3) := by decide +kernel
theorem dX11_readWithin_25 : decode cX11_readWithin 25 = .ok (.aload_n 0, 1) := by decide +kernel
theorem dX11_readWithin_26 : decode cX11_readWithin 26 = .ok (.iconst 4, 1) := by decide +kernel
theorem dX11_readWithin_27 : decode cX11_readWithin 27 = .ok (.invokevirtual 150, 3) := by decide +kernel
theorem dX11_readWithin_30 : decode cX11_readWithin 30 = .ok (.aload_n 0, 1) := by decide +kernel
theorem dX11_readWithin_31 : decode cX11_readWithin 31 = .ok (.bipush 40, 2) := by decide +kernel
theorem dX11_readWithin_33 : decode cX11_readWithin 33 = .ok (.invokevirtual 203, 3) := by decide +kernel
theorem dX11_readWithin_36 : decode cX11_readWithin 36 = .ok (.aload_n 0, 1) := by decide +kernel
theorem dX11_readWithin_37 : decode cX11_readWithin 37 = .ok (.dup, 1) := by decide +kernel
theorem dX11_readWithin_38 : decode cX11_readWithin 38 = .ok (.getfield 200, 3) := by decide +kernel
theorem dX11_readWithin_41 : decode cX11_readWithin 41 = .ok (.iconst 1, 1) := by decide +kernel
theorem dX11_readWithin_42 : decode cX11_readWithin 42 = .ok (.iadd, 1) := by decide +kernel
theorem dX11_readWithin_43 : decode cX11_readWithin 43 = .ok (.putfield 200, 3) := by decide +kernel
theorem dX11_readWithin_46 : decode cX11_readWithin 46 = .ok (.aload_n 0, 1) := by decide +kernel
theorem dX11_readWithin_47 : decode cX11_readWithin 47 = .ok (.getfield 144, 3) := by decide +kernel
theorem dX11_readWithin_50 : decode cX11_readWithin 50 = .ok (.ifCond .ne 19, 3) := by decide +kernel
theorem dX11_readWithin_53 : decode cX11_readWithin 53 = .ok (.aload_n 0, 1) := by decide +kernel
theorem dX11_readWithin_54 : decode cX11_readWithin 54 = .ok (.bipush 41, 2) := by decide +kernel
theorem dX11_readWithin_56 : decode cX11_readWithin 56 = .ok (.invokevirtual 147, 3) := by decide +kernel
theorem dX11_readWithin_59 : decode cX11_readWithin 59 = .ok (.ifCond .ne 10, 3) := by decide +kernel
theorem dX11_readWithin_62 : decode cX11_readWithin 62 = .ok (.aload_n 0, 1) := by decide +kernel
theorem dX11_readWithin_63 : decode cX11_readWithin 63 = .ok (.invokevirtual 206, 3) := by decide +kernel
theorem dX11_readWithin_66 : decode cX11_readWithin 66 = .ok (.goto (-20), 3) := by decide +kernel
theorem dX11_readWithin_69 : decode cX11_readWithin 69 = .ok (.aload_n 0, 1) := by decide +kernel
theorem dX11_readWithin_70 : decode cX11_readWithin 70 = .ok (.bipush 41, 2) := by decide +kernel
theorem dX11_readWithin_72 : decode cX11_readWithin 72 = .ok (.invokevirtual 203, 3) := by decide +kernel
theorem dX11_readWithin_75 : decode cX11_readWithin 75 = .ok (.aload_n 0, 1) := by decide +kernel
theorem dX11_readWithin_76 : decode cX11_readWithin 76 = .ok (.dup, 1) := by decide +kernel
theorem dX11_readWithin_77 : decode cX11_readWithin 77 = .ok (.getfield 200, 3) := by decide +kernel
theorem dX11_readWithin_80 : decode cX11_readWithin 80 = .ok (.iconst 1, 1) := by decide +kernel
theorem dX11_readWithin_81 : decode cX11_readWithin 81 = .ok (.isub, 1) := by decide +kernel
theorem dX11_readWithin_82 : decode cX11_readWithin 82 = .ok (.putfield 200, 3) := by decide +kernel
theorem dX11_readWithin_85 : decode cX11_readWithin 85 = .ok (.aload_n 0, 1) := by decide +kernel
theorem dX11_readWithin_86 : decode cX11_readWithin 86 = .ok (.bipush 14, 2) := by decide +kernel
theorem dX11_readWithin_88 : decode cX11_readWithin 88 = .ok (.iconst 0, 1) := by decide +kernel
theorem dX11_readWithin_89 : decode cX11_readWithin 89 = .ok (.iconst 0, 1) := by decide +kernel
theorem dX11_readWithin_90 : decode cX11_readWithin 90 = .ok (.iconst 0, 1) := by decide +kernel
theorem dX11_readWithin_91 : decode cX11_readWithin 91 = .ok (.invokevirtual 196, 3) := by decide +kernel
theorem dX11_readWithin_94 : decode cX11_readWithin 94 = .ok (.return_, 1) := by decide +kernel
theorem dX11_readStatement_0 : decode cX11_readStatement 0 = .ok (.aload_n 0, 1) := by decide +kernel
theorem dX11_readStatement_1 : decode cX11_readStatement 1 = .ok (.getfield 125, 3) := by decide +kernel
theorem dX11_readStatement_4 : decode cX11_readStatement 4 = .ok (.istore_n 1, 1) := by decide +kernel
theorem dX11_readStatement_5 : decode cX11_readStatement 5 = .ok (.aload_n 0, 1) := by decide +kernel
theorem dX11_readStatement_6 : decode cX11_readStatement 6 = .ok (.invokevirtual 209, 3) := by decide +kernel
theorem dX11_readStatement_9 : decode cX11_readStatement 9 = .ok (.istore_n 2, 1) := by decide +kernel
theorem dX11_readStatement_10 : decode cX11_readStatement 10 = .ok (.iload_n 2, 1) := by decide +kernel
theorem dX11_readStatement_11 : decode cX11_readStatement 11 = .ok (.iconst (-1), 1) := by decide +kernel
theorem dX11_readStatement_12 : decode cX11_readStatement 12 = .ok (.if_icmp .eq 24, 3) := by decide +kernel
theorem dX11_readStatement_15 : decode cX11_readStatement 15 = .ok (.aload_n 0, 1) := by decide +kernel
theorem dX11_readStatement_16 : decode cX11_readStatement 16 = .ok (.invokevirtual 154, 3) := by decide +kernel
theorem dX11_readStatement_19 : decode cX11_readStatement 19 = .ok (.aload_n 0, 1) := by decide +kernel
theorem dX11_readStatement_20 : decode cX11_readStatement 20 = .ok (.iload_n 2, 1) := by decide +kernel
theorem dX11_readStatement_21 : decode cX11_readStatement 21 = .ok (.aload_n 0, 1) := by decide +kernel
theorem dX11_readStatement_22 : decode cX11_readStatement 22 = .ok (.iconst 1, 1) := by decide +kernel
theorem dX11_readStatement_23 : decode cX11_readStatement 23 = .ok (.bipush 11, 2) := by decide +kernel
theorem dX11_readStatement_25 : decode cX11_readStatement 25 = .ok (.invokevirtual 193, 3) := by decide +kernel
theorem dX11_readStatement_28 : decode cX11_readStatement 28 = .ok (.iconst 0, 1) := by decide +kernel
theorem dX11_readStatement_29 : decode cX11_readStatement 29 = .ok (.iload_n 1, 1) := by decide +kernel
theorem dX11_readStatement_30 : decode cX11_readStatement 30 = .ok (.invokevirtual 196, 3) := by decide +kernel
theorem dX11_readStatement_33 : decode cX11_readStatement 33 = .ok (.goto 158, 3) := by decide +kernel
theorem dX11_readStatement_36 : decode cX11_readStatement 36 = .ok (.aload_n 0, 1) := by decide +kernel
theorem dX11_readStatement_37 : decode cX11_readStatement 37 = .ok (.ldc 212, 2) := by decide +kernel
theorem dX11_readStatement_39 : decode cX11_readStatement 39 = .ok (.invokevirtual 175, 3) := by decide +kernel
theorem dX11_readStatement_42 : decode cX11_readStatement 42 = .ok (.ifCond .eq 12, 3) := by decide +kernel
theorem dX11_readStatement_45 : decode cX11_readStatement 45 = .ok (.aload_n 0, 1) := by decide +kernel
theorem dX11_readStatement_46 : decode cX11_readStatement 46 = .ok (.bipush 8, 2) := by decide +kernel
theorem dX11_readStatement_48 : decode cX11_readStatement 48 = .ok (.invokevirtual 213, 3) := by decide +kernel
theorem dX11_readStatement_51 : decode cX11_readStatement 51 = .ok (.goto 140, 3) := by decide +kernel
theorem dX11_readStatement_54 : decode cX11_readStatement 54 = .ok (.aload_n 0, 1) := by decide +kernel
theorem dX11_readStatement_55 : decode cX11_readStatement 55 = .ok (.ldc 216, 2) := by decide +kernel
theorem dX11_readStatement_57 : decode cX11_readStatement 57 = .ok (.invokevirtual 175, 3) := by decide +kernel
theorem dX11_readStatement_60 : decode cX11_readStatement 60 = .ok (.ifCond .eq 12, 3) := by decide +kernel
theorem dX11_readStatement_63 : decode cX11_readStatement 63 = .ok (.aload_n 0, 1) := by decide +kernel
theorem dX11_readStatement_64 : decode cX11_readStatement 64 = .ok (.bipush 10, 2) := by decide +kernel
theorem dX11_readStatement_66 : decode cX11_readStatement 66 = .ok (.invokevirtual 213, 3) := by decide +kernel
theorem dX11_readStatement_69 : decode cX11_readStatement 69 = .ok (.goto 122, 3) := by decide +kernel
theorem dX11_readStatement_72 : decode cX11_readStatement 72 = .ok (.aload_n 0, 1) := by decide +kernel
theorem dX11_readStatement_73 : decode cX11_readStatement 73 = .ok (.ldc 218, 2) := by decide +kernel
theorem dX11_readStatement_75 : decode cX11_readStatement 75 = .ok (.invokevirtual 175, 3) := by decide +kernel
theorem dX11_readStatement_78 : decode cX11_readStatement 78 = .ok (.ifCond .eq 24, 3) := by decide +kernel
theorem dX11_readStatement_81 : decode cX11_readStatement 81 = .ok (.aload_n 0, 1) := by decide +kernel
theorem dX11_readStatement_82 : decode cX11_readStatement 82 = .ok (.invokevirtual 154, 3) := by decide +kernel
theorem dX11_readStatement_85 : decode cX11_readStatement 85 = .ok (.aload_n 0, 1) := by decide +kernel
theorem dX11_readStatement_86 : decode cX11_readStatement 86 = .ok (.bipush 9, 2) := by decide +kernel
theorem dX11_readStatement_88 : decode cX11_readStatement 88 = .ok (.aload_n 0, 1) := by decide +kernel
theorem dX11_readStatement_89 : decode cX11_readStatement 89 = .ok (.iconst 0, 1) := by decide +kernel
theorem dX11_readStatement_90 : decode cX11_readStatement 90 = .ok (.iconst 3, 1) := by decide +kernel
theorem dX11_readStatement_91 : decode cX11_readStatement 91 = .ok (.invokevirtual 193, 3) := by decide +kernel
theorem dX11_readStatement_94 : decode cX11_readStatement 94 = .ok (.iconst 0, 1) := by decide +kernel
theorem dX11_readStatement_95 : decode cX11_readStatement 95 = .ok (.iconst 0, 1) := by decide +kernel
theorem dX11_readStatement_96 : decode cX11_readStatement 96 = .ok (.invokevirtual 196, 3) := by decide +kernel
theorem dX11_readStatement_99 : decode cX11_readStatement 99 = .ok (.goto 92, 3) := by decide +kernel
theorem dX11_readStatement_102 : decode cX11_readStatement 102 = .ok (.aload_n 0, 1) := by decide +kernel
theorem dX11_readStatement_103 : decode cX11_readStatement 103 = .ok (.ldc 220, 2) := by decide +kernel
theorem dX11_readStatement_105 : decode cX11_readStatement 105 = .ok (.invokevirtual 175, 3) := by decide +kernel
