theorem dX11_readStatement_108 : decode cX11_readStatement 108 = .ok (.ifCond .eq 32, 3) := by decide +kernel
theorem dX11_readStatement_111 : decode cX11_readStatement 111 = .ok (.aload_n 0, 1) := by decide +kernel
theorem dX11_readStatement_112 : decode cX11_readStatement 112 = .ok (.invokevirtual 154, 3) := by decide +kernel
theorem dX11_readStatement_115 : decode cX11_readStatement 115 = .ok (.aload_n 0, 1) := by decide +kernel
theorem dX11_readStatement_116 : decode cX11_readStatement 116 = .ok (.iconst 1, 1) := by decide +kernel
theorem dX11_readStatement_117 : decode cX11_readStatement 117 = .ok (.bipush 12, 2) := by decide +kernel
theorem dX11_readStatement_119 : decode cX11_readStatement 119 = .ok (.invokevirtual 193, 3) := by decide +kernel
theorem dX11_readStatement_122 : decode cX11_readStatement 122 = .ok (.istore_n 3, 1) := by decide +kernel
theorem dX11_readStatement_123 : decode cX11_readStatement 123 = .ok (.aload_n 0, 1) := by decide +kernel
theorem dX11_readStatement_124 : decode cX11_readStatement 124 = .ok (.getfield 144, 3) := by decide +kernel
theorem dX11_readStatement_127 : decode cX11_readStatement 127 = .ok (.ifCond .ne 10, 3) := by decide +kernel
theorem dX11_readStatement_130 : decode cX11_readStatement 130 = .ok (.aload_n 0, 1) := by decide +kernel
theorem dX11_readStatement_131 : decode cX11_readStatement 131 = .ok (.bipush 11, 2) := by decide +kernel
theorem dX11_readStatement_133 : decode cX11_readStatement 133 = .ok (.iload_n 3, 1) := by decide +kernel
theorem dX11_readStatement_134 : decode cX11_readStatement 134 = .ok (.invokevirtual 222, 3) := by decide +kernel
theorem dX11_readStatement_137 : decode cX11_readStatement 137 = .ok (.goto 54, 3) := by decide +kernel
theorem dX11_readStatement_140 : decode cX11_readStatement 140 = .ok (.aload_n 0, 1) := by decide +kernel
theorem dX11_readStatement_141 : decode cX11_readStatement 141 = .ok (.ldc 226, 2) := by decide +kernel
theorem dX11_readStatement_143 : decode cX11_readStatement 143 = .ok (.invokevirtual 175, 3) := by decide +kernel
theorem dX11_readStatement_146 : decode cX11_readStatement 146 = .ok (.ifCond .eq 17, 3) := by decide +kernel
theorem dX11_readStatement_149 : decode cX11_readStatement 149 = .ok (.aload_n 0, 1) := by decide +kernel
theorem dX11_readStatement_150 : decode cX11_readStatement 150 = .ok (.invokevirtual 154, 3) := by decide +kernel
theorem dX11_readStatement_153 : decode cX11_readStatement 153 = .ok (.aload_n 0, 1) := by decide +kernel
theorem dX11_readStatement_154 : decode cX11_readStatement 154 = .ok (.bipush 12, 2) := by decide +kernel
theorem dX11_readStatement_156 : decode cX11_readStatement 156 = .ok (.iconst 1, 1) := by decide +kernel
theorem dX11_readStatement_157 : decode cX11_readStatement 157 = .ok (.invokevirtual 222, 3) := by decide +kernel
theorem dX11_readStatement_160 : decode cX11_readStatement 160 = .ok (.goto 31, 3) := by decide +kernel
theorem dX11_readStatement_163 : decode cX11_readStatement 163 = .ok (.aload_n 0, 1) := by decide +kernel
theorem dX11_readStatement_164 : decode cX11_readStatement 164 = .ok (.ldc 228, 2) := by decide +kernel
theorem dX11_readStatement_166 : decode cX11_readStatement 166 = .ok (.invokevirtual 175, 3) := by decide +kernel
theorem dX11_readStatement_169 : decode cX11_readStatement 169 = .ok (.ifCond .eq 17, 3) := by decide +kernel
theorem dX11_readStatement_172 : decode cX11_readStatement 172 = .ok (.aload_n 0, 1) := by decide +kernel
theorem dX11_readStatement_173 : decode cX11_readStatement 173 = .ok (.invokevirtual 154, 3) := by decide +kernel
theorem dX11_readStatement_176 : decode cX11_readStatement 176 = .ok (.aload_n 0, 1) := by decide +kernel
theorem dX11_readStatement_177 : decode cX11_readStatement 177 = .ok (.bipush 13, 2) := by decide +kernel
theorem dX11_readStatement_179 : decode cX11_readStatement 179 = .ok (.iconst 1, 1) := by decide +kernel
theorem dX11_readStatement_180 : decode cX11_readStatement 180 = .ok (.invokevirtual 222, 3) := by decide +kernel
theorem dX11_readStatement_183 : decode cX11_readStatement 183 = .ok (.goto 8, 3) := by decide +kernel
theorem dX11_readStatement_186 : decode cX11_readStatement 186 = .ok (.aload_n 0, 1) := by decide +kernel
theorem dX11_readStatement_187 : decode cX11_readStatement 187 = .ok (.iconst 2, 1) := by decide +kernel
theorem dX11_readStatement_188 : decode cX11_readStatement 188 = .ok (.invokevirtual 150, 3) := by decide +kernel
theorem dX11_readStatement_191 : decode cX11_readStatement 191 = .ok (.aload_n 0, 1) := by decide +kernel
theorem dX11_readStatement_192 : decode cX11_readStatement 192 = .ok (.bipush 59, 2) := by decide +kernel
theorem dX11_readStatement_194 : decode cX11_readStatement 194 = .ok (.invokevirtual 203, 3) := by decide +kernel
theorem dX11_readStatement_197 : decode cX11_readStatement 197 = .ok (.return_, 1) := by decide +kernel
theorem dX11_draws_0 : decode cX11_draws 0 = .ok (.aload_n 0, 1) := by decide +kernel
theorem dX11_draws_1 : decode cX11_draws 1 = .ok (.dup, 1) := by decide +kernel
theorem dX11_draws_2 : decode cX11_draws 2 = .ok (.getfield 230, 3) := by decide +kernel
theorem dX11_draws_5 : decode cX11_draws 5 = .ok (.iconst 1, 1) := by decide +kernel
theorem dX11_draws_6 : decode cX11_draws 6 = .ok (.iadd, 1) := by decide +kernel
theorem dX11_draws_7 : decode cX11_draws 7 = .ok (.putfield 230, 3) := by decide +kernel
theorem dX11_draws_10 : decode cX11_draws 10 = .ok (.aload_n 0, 1) := by decide +kernel
theorem dX11_draws_11 : decode cX11_draws 11 = .ok (.getfield 233, 3) := by decide +kernel
theorem dX11_draws_14 : decode cX11_draws 14 = .ok (.iload_n 1, 1) := by decide +kernel
theorem dX11_draws_15 : decode cX11_draws 15 = .ok (.invokestatic 108, 3) := by decide +kernel
theorem dX11_draws_18 : decode cX11_draws 18 = .ok (.istore_n 2, 1) := by decide +kernel
theorem dX11_draws_19 : decode cX11_draws 19 = .ok (.iload_n 2, 1) := by decide +kernel
theorem dX11_draws_20 : decode cX11_draws 20 = .ok (.iconst (-1), 1) := by decide +kernel
theorem dX11_draws_21 : decode cX11_draws 21 = .ok (.if_icmp .ne 5, 3) := by decide +kernel
theorem dX11_draws_24 : decode cX11_draws 24 = .ok (.iconst 5, 1) := by decide +kernel
theorem dX11_draws_25 : decode cX11_draws 25 = .ok (.ireturn, 1) := by decide +kernel
theorem dX11_draws_26 : decode cX11_draws 26 = .ok (.aload_n 0, 1) := by decide +kernel
theorem dX11_draws_27 : decode cX11_draws 27 = .ok (.getfield 13, 3) := by decide +kernel
theorem dX11_draws_30 : decode cX11_draws 30 = .ok (.aload_n 0, 1) := by decide +kernel
theorem dX11_draws_31 : decode cX11_draws 31 = .ok (.getfield 233, 3) := by decide +kernel
theorem dX11_draws_34 : decode cX11_draws 34 = .ok (.iload_n 1, 1) := by decide +kernel
theorem dX11_draws_35 : decode cX11_draws 35 = .ok (.invokestatic 236, 3) := by decide +kernel
theorem dX11_draws_38 : decode cX11_draws 38 = .ok (.iconst (-1), 1) := by decide +kernel
theorem dX11_draws_39 : decode cX11_draws 39 = .ok (.if_icmp .ne 7, 3) := by decide +kernel
theorem dX11_draws_42 : decode cX11_draws 42 = .ok (.iconst 1, 1) := by decide +kernel
theorem dX11_draws_43 : decode cX11_draws 43 = .ok (.goto 4, 3) := by decide +kernel
theorem dX11_draws_46 : decode cX11_draws 46 = .ok (.iconst 0, 1) := by decide +kernel
theorem dX11_draws_47 : decode cX11_draws 47 = .ok (.istore_n 3, 1) := by decide +kernel
theorem dX11_draws_48 : decode cX11_draws 48 = .ok (.iload_n 3, 1) := by decide +kernel
theorem dX11_draws_49 : decode cX11_draws 49 = .ok (.ifCond .eq 17, 3) := by decide +kernel
theorem dX11_draws_52 : decode cX11_draws 52 = .ok (.aload_n 0, 1) := by decide +kernel
theorem dX11_draws_53 : decode cX11_draws 53 = .ok (.getfield 13, 3) := by decide +kernel
theorem dX11_draws_56 : decode cX11_draws 56 = .ok (.iconst 0, 1) := by decide +kernel
theorem dX11_draws_57 : decode cX11_draws 57 = .ok (.iaload, 1) := by decide +kernel
theorem dX11_draws_58 : decode cX11_draws 58 = .ok (.bipush 60, 2) := by decide +kernel
theorem dX11_draws_60 : decode cX11_draws 60 = .ok (.if_icmp .ne 6, 3) := by decide +kernel
theorem dX11_draws_63 : decode cX11_draws 63 = .ok (.bipush 6, 2) := by decide +kernel
theorem dX11_draws_65 : decode cX11_draws 65 = .ok (.ireturn, 1) := by decide +kernel
theorem dX11_draws_66 : decode cX11_draws 66 = .ok (.aload_n 0, 1) := by decide +kernel
theorem dX11_draws_67 : decode cX11_draws 67 = .ok (.getfield 230, 3) := by decide +kernel
theorem dX11_draws_70 : decode cX11_draws 70 = .ok (.sipush 1000, 3) := by decide +kernel
theorem dX11_draws_73 : decode cX11_draws 73 = .ok (.if_icmp .le 6, 3) := by decide +kernel
theorem dX11_draws_76 : decode cX11_draws 76 = .ok (.bipush 7, 2) := by decide +kernel
theorem dX11_draws_78 : decode cX11_draws 78 = .ok (.ireturn, 1) := by decide +kernel
theorem dX11_draws_79 : decode cX11_draws 79 = .ok (.iload_n 3, 1) := by decide +kernel
theorem dX11_draws_80 : decode cX11_draws 80 = .ok (.ifCond .eq 72, 3) := by decide +kernel
theorem dX11_draws_83 : decode cX11_draws 83 = .ok (.bipush 8, 2) := by decide +kernel
theorem dX11_draws_85 : decode cX11_draws 85 = .ok (.iconst 4, 1) := by decide +kernel
theorem dX11_draws_86 : decode cX11_draws 86 = .ok (.aload_n 0, 1) := by decide +kernel
theorem dX11_draws_87 : decode cX11_draws 87 = .ok (.getfield 13, 3) := by decide +kernel
theorem dX11_draws_90 : decode cX11_draws 90 = .ok (.iconst 0, 1) := by decide +kernel
theorem dX11_draws_91 : decode cX11_draws 91 = .ok (.iaload, 1) := by decide +kernel
theorem dX11_draws_92 : decode cX11_draws 92 = .ok (.imul, 1) := by decide +kernel
theorem dX11_draws_93 : decode cX11_draws 93 = .ok (.iadd, 1) := by decide +kernel
theorem dX11_draws_94 : decode cX11_draws 94 = .ok (.istore 4, 2) := by decide +kernel
theorem dX11_draws_96 : decode cX11_draws 96 = .ok (.aload_n 0, 1) := by decide +kernel
theorem dX11_draws_97 : decode cX11_draws 97 = .ok (.getfield 13, 3) := by decide +kernel
theorem dX11_draws_100 : decode cX11_draws 100 = .ok (.iload 4, 2) := by decide +kernel
theorem dX11_draws_102 : decode cX11_draws 102 = .ok (.iconst 0, 1) := by decide +kernel
theorem dX11_draws_103 : decode cX11_draws 103 = .ok (.iadd, 1) := by decide +kernel
theorem dX11_draws_104 : decode cX11_draws 104 = .ok (.aload_n 0, 1) := by decide +kernel
theorem dX11_draws_105 : decode cX11_draws 105 = .ok (.getfield 233, 3) := by decide +kernel
theorem dX11_draws_108 : decode cX11_draws 108 = .ok (.iastore, 1) := by decide +kernel
theorem dX11_draws_109 : decode cX11_draws 109 = .ok (.aload_n 0, 1) := by decide +kernel
theorem dX11_draws_110 : decode cX11_draws 110 = .ok (.getfield 13, 3) := by decide +kernel
theorem dX11_draws_113 : decode cX11_draws 113 = .ok (.iload 4, 2) := by decide +kernel
theorem dX11_draws_115 : decode cX11_draws 115 = .ok (.iconst 1, 1) := by decide +kernel
theorem dX11_draws_116 : decode cX11_draws 116 = .ok (.iadd, 1) := by decide +kernel
theorem dX11_draws_117 : decode cX11_draws 117 = .ok (.iload_n 1, 1) := by decide +kernel
theorem dX11_draws_118 : decode cX11_draws 118 = .ok (.iastore, 1) := by decide +kernel
theorem dX11_draws_119 : decode cX11_draws 119 = .ok (.aload_n 0, 1) := by decide +kernel
theorem dX11_draws_120 : decode cX11_draws 120 = .ok (.getfield 13, 3) := by decide +kernel
theorem dX11_draws_123 : decode cX11_draws 123 = .ok (.iload 4, 2) := by decide +kernel
theorem dX11_draws_125 : decode cX11_draws 125 = .ok (.iconst 2, 1) := by decide +kernel
theorem dX11_draws_126 : decode cX11_draws 126 = .ok (.iadd, 1) := by decide +kernel
theorem dX11_draws_127 : decode cX11_draws 127 = .ok (.aload_n 0, 1) := by decide +kernel
theorem dX11_draws_128 : decode cX11_draws 128 = .ok (.getfield 240, 3) := by decide +kernel
theorem dX11_draws_131 : decode cX11_draws 131 = .ok (.iastore, 1) := by decide +kernel
theorem dX11_draws_132 : decode cX11_draws 132 = .ok (.aload_n 0, 1) := by decide +kernel
theorem dX11_draws_133 : decode cX11_draws 133 = .ok (.getfield 13, 3) := by decide +kernel
theorem dX11_draws_136 : decode cX11_draws 136 = .ok (.iload 4, 2) := by decide +kernel
theorem dX11_draws_138 : decode cX11_draws 138 = .ok (.iconst 3, 1) := by decide +kernel
theorem dX11_draws_139 : decode cX11_draws 139 = .ok (.iadd, 1) := by decide +kernel
theorem dX11_draws_140 : decode cX11_draws 140 = .ok (.iconst 0, 1) := by decide +kernel
theorem dX11_draws_141 : decode cX11_draws 141 = .ok (.iastore, 1) := by decide +kernel
theorem dX11_draws_142 : decode cX11_draws 142 = .ok (.aload_n 0, 1) := by decide +kernel
theorem dX11_draws_143 : decode cX11_draws 143 = .ok (.getfield 13, 3) := by decide +kernel
theorem dX11_draws_146 : decode cX11_draws 146 = .ok (.iconst 0, 1) := by decide +kernel
theorem dX11_draws_147 : decode cX11_draws 147 = .ok (.dup2, 1) := by decide +kernel
theorem dX11_draws_148 : decode cX11_draws 148 = .ok (.iaload, 1) := by decide +kernel
theorem dX11_draws_149 : decode cX11_draws 149 = .ok (.iconst 1, 1) := by decide +kernel
theorem dX11_draws_150 : decode cX11_draws 150 = .ok (.iadd, 1) := by decide +kernel
theorem dX11_draws_151 : decode cX11_draws 151 = .ok (.iastore, 1) := by decide +kernel
theorem dX11_draws_152 : decode cX11_draws 152 = .ok (.aload_n 0, 1) := by decide +kernel
theorem dX11_draws_153 : decode cX11_draws 153 = .ok (.iload_n 2, 1) := by decide +kernel
theorem dX11_draws_154 : decode cX11_draws 154 = .ok (.putfield 233, 3) := by decide +kernel
theorem dX11_draws_157 : decode cX11_draws 157 = .ok (.iconst 0, 1) := by decide +kernel
theorem dX11_draws_158 : decode cX11_draws 158 = .ok (.ireturn, 1) := by decide +kernel
theorem dX11_goesThrough_0 : decode cX11_goesThrough 0 = .ok (.iconst 0, 1) := by decide +kernel
theorem dX11_goesThrough_1 : decode cX11_goesThrough 1 = .ok (.istore_n 1, 1) := by decide +kernel
theorem dX11_goesThrough_2 : decode cX11_goesThrough 2 = .ok (.aload_n 0, 1) := by decide +kernel
theorem dX11_goesThrough_3 : decode cX11_goesThrough 3 = .ok (.getfield 42, 3) := by decide +kernel
theorem dX11_goesThrough_6 : decode cX11_goesThrough 6 = .ok (.iconst 0, 1) := by decide +kernel
theorem dX11_goesThrough_7 : decode cX11_goesThrough 7 = .ok (.iconst 0, 1) := by decide +kernel
theorem dX11_goesThrough_8 : decode cX11_goesThrough 8 = .ok (.iastore, 1) := by decide +kernel
theorem dX11_goesThrough_9 : decode cX11_goesThrough 9 = .ok (.aload_n 0, 1) := by decide +kernel
theorem dX11_goesThrough_10 : decode cX11_goesThrough 10 = .ok (.getfield 45, 3) := by decide +kernel
theorem dX11_goesThrough_13 : decode cX11_goesThrough 13 = .ok (.iconst 0, 1) := by decide +kernel
theorem dX11_goesThrough_14 : decode cX11_goesThrough 14 = .ok (.iconst 1, 1) := by decide +kernel
theorem dX11_goesThrough_15 : decode cX11_goesThrough 15 = .ok (.iastore, 1) := by decide +kernel
theorem dX11_goesThrough_16 : decode cX11_goesThrough 16 = .ok (.aload_n 0, 1) := by decide +kernel
theorem dX11_goesThrough_17 : decode cX11_goesThrough 17 = .ok (.iconst 0, 1) := by decide +kernel
theorem dX11_goesThrough_18 : decode cX11_goesThrough 18 = .ok (.putfield 233, 3) := by decide +kernel
theorem dX11_goesThrough_21 : decode cX11_goesThrough 21 = .ok (.aload_n 0, 1) := by decide +kernel
theorem dX11_goesThrough_22 : decode cX11_goesThrough 22 = .ok (.iconst 0, 1) := by decide +kernel
theorem dX11_goesThrough_23 : decode cX11_goesThrough 23 = .ok (.putfield 240, 3) := by decide +kernel
theorem dX11_goesThrough_26 : decode cX11_goesThrough 26 = .ok (.aload_n 0, 1) := by decide +kernel
theorem dX11_goesThrough_27 : decode cX11_goesThrough 27 = .ok (.iconst 0, 1) := by decide +kernel
theorem dX11_goesThrough_28 : decode cX11_goesThrough 28 = .ok (.putfield 230, 3) := by decide +kernel
theorem dX11_goesThrough_31 : decode cX11_goesThrough 31 = .ok (.iconst 0, 1) := by decide +kernel
theorem dX11_goesThrough_32 : decode cX11_goesThrough 32 = .ok (.istore_n 2, 1) := by decide +kernel
theorem dX11_goesThrough_33 : decode cX11_goesThrough 33 = .ok (.iload_n 2, 1) := by decide +kernel
theorem dX11_goesThrough_34 : decode cX11_goesThrough 34 = .ok (.aload_n 0, 1) := by decide +kernel
theorem dX11_goesThrough_35 : decode cX11_goesThrough 35 = .ok (.getfield 170, 3) := by decide +kernel
theorem dX11_goesThrough_38 : decode cX11_goesThrough 38 = .ok (.if_icmp .ge 304, 3) := by decide +kernel
theorem dX11_goesThrough_41 : decode cX11_goesThrough 41 = .ok (.aload_n 0, 1) := by decide +kernel
theorem dX11_goesThrough_42 : decode cX11_goesThrough 42 = .ok (.getfield 33, 3) := by decide +kernel
theorem dX11_goesThrough_45 : decode cX11_goesThrough 45 = .ok (.iconst 4, 1) := by decide +kernel
theorem dX11_goesThrough_46 : decode cX11_goesThrough 46 = .ok (.iload_n 2, 1) := by decide +kernel
theorem dX11_goesThrough_47 : decode cX11_goesThrough 47 = .ok (.imul, 1) := by decide +kernel
theorem dX11_goesThrough_48 : decode cX11_goesThrough 48 = .ok (.iaload, 1) := by decide +kernel
theorem dX11_goesThrough_49 : decode cX11_goesThrough 49 = .ok (.istore_n 3, 1) := by decide +kernel
theorem dX11_goesThrough_50 : decode cX11_goesThrough 50 = .ok (.aload_n 0, 1) := by decide +kernel
theorem dX11_goesThrough_51 : decode cX11_goesThrough 51 = .ok (.getfield 33, 3) := by decide +kernel
theorem dX11_goesThrough_54 : decode cX11_goesThrough 54 = .ok (.iconst 4, 1) := by decide +kernel
theorem dX11_goesThrough_55 : decode cX11_goesThrough 55 = .ok (.iload_n 2, 1) := by decide +kernel
theorem dX11_goesThrough_56 : decode cX11_goesThrough 56 = .ok (.imul, 1) := by decide +kernel
theorem dX11_goesThrough_57 : decode cX11_goesThrough 57 = .ok (.iconst 1, 1) := by decide +kernel
theorem dX11_goesThrough_58 : decode cX11_goesThrough 58 = .ok (.iadd, 1) := by decide +kernel
theorem dX11_goesThrough_59 : decode cX11_goesThrough 59 = .ok (.iaload, 1) := by decide +kernel
theorem dX11_goesThrough_60 : decode cX11_goesThrough 60 = .ok (.istore 4, 2) := by decide +kernel
theorem dX11_goesThrough_62 : decode cX11_goesThrough 62 = .ok (.iload_n 3, 1) := by decide +kernel
theorem dX11_goesThrough_63 : decode cX11_goesThrough 63 = .ok (.bipush 8, 2) := by decide +kernel
theorem dX11_goesThrough_65 : decode cX11_goesThrough 65 = .ok (.if_icmp .ge 82, 3) := by decide +kernel
theorem dX11_goesThrough_68 : decode cX11_goesThrough 68 = .ok (.aload_n 0, 1) := by decide +kernel
theorem dX11_goesThrough_69 : decode cX11_goesThrough 69 = .ok (.getfield 42, 3) := by decide +kernel
theorem dX11_goesThrough_72 : decode cX11_goesThrough 72 = .ok (.iload_n 1, 1) := by decide +kernel
theorem dX11_goesThrough_73 : decode cX11_goesThrough 73 = .ok (.iaload, 1) := by decide +kernel
theorem dX11_goesThrough_74 : decode cX11_goesThrough 74 = .ok (.aload_n 0, 1) := by decide +kernel
theorem dX11_goesThrough_75 : decode cX11_goesThrough 75 = .ok (.getfield 45, 3) := by decide +kernel
theorem dX11_goesThrough_78 : decode cX11_goesThrough 78 = .ok (.iload_n 1, 1) := by decide +kernel
theorem dX11_goesThrough_79 : decode cX11_goesThrough 79 = .ok (.iaload, 1) := by decide +kernel
theorem dX11_goesThrough_80 : decode cX11_goesThrough 80 = .ok (.iload_n 3, 1) := by decide +kernel
theorem dX11_goesThrough_81 : decode cX11_goesThrough 81 = .ok (.imul, 1) := by decide +kernel
theorem dX11_goesThrough_82 : decode cX11_goesThrough 82 = .ok (.iadd, 1) := by decide +kernel
theorem dX11_goesThrough_83 : decode cX11_goesThrough 83 = .ok (.bipush 64, 2) := by decide +kernel
theorem dX11_goesThrough_85 : decode cX11_goesThrough 85 = .ok (.iadd, 1) := by decide +kernel
theorem dX11_goesThrough_86 : decode cX11_goesThrough 86 = .ok (.bipush 8, 2) := by decide +kernel
theorem dX11_goesThrough_88 : decode cX11_goesThrough 88 = .ok (.irem, 1) := by decide +kernel
theorem dX11_goesThrough_89 : decode cX11_goesThrough 89 = .ok (.istore 5, 2) := by decide +kernel
theorem dX11_goesThrough_91 : decode cX11_goesThrough 91 = .ok (.iconst 0, 1) := by decide +kernel
theorem dX11_goesThrough_92 : decode cX11_goesThrough 92 = .ok (.istore 6, 2) := by decide +kernel
theorem dX11_goesThrough_94 : decode cX11_goesThrough 94 = .ok (.iload 6, 2) := by decide +kernel
theorem dX11_goesThrough_96 : decode cX11_goesThrough 96 = .ok (.iload 4, 2) := by decide +kernel
theorem dX11_goesThrough_98 : decode cX11_goesThrough 98 = .ok (.if_icmp .ge 46, 3) := by decide +kernel
theorem dX11_goesThrough_101 : decode cX11_goesThrough 101 = .ok (.aload_n 0, 1) := by decide +kernel
theorem dX11_goesThrough_102 : decode cX11_goesThrough 102 = .ok (.iload 5, 2) := by decide +kernel
theorem dX11_goesThrough_104 : decode cX11_goesThrough 104 = .ok (.invokevirtual 242, 3) := by decide +kernel
theorem dX11_goesThrough_107 : decode cX11_goesThrough 107 = .ok (.istore 7, 2) := by decide +kernel
theorem dX11_goesThrough_109 : decode cX11_goesThrough 109 = .ok (.iload 7, 2) := by decide +kernel
theorem dX11_goesThrough_111 : decode cX11_goesThrough 111 = .ok (.ifCond .ne 6, 3) := by decide +kernel
theorem dX11_goesThrough_114 : decode cX11_goesThrough 114 = .ok (.goto 24, 3) := by decide +kernel
theorem dX11_goesThrough_117 : decode cX11_goesThrough 117 = .ok (.aload_n 0, 1) := by decide +kernel
theorem dX11_goesThrough_118 : decode cX11_goesThrough 118 = .ok (.iload 7, 2) := by decide +kernel
theorem dX11_goesThrough_120 : decode cX11_goesThrough 120 = .ok (.putfield 144, 3) := by decide +kernel
theorem dX11_goesThrough_123 : decode cX11_goesThrough 123 = .ok (.aload_n 0, 1) := by decide +kernel
theorem dX11_goesThrough_124 : decode cX11_goesThrough 124 = .ok (.aload_n 0, 1) := by decide +kernel
theorem dX11_goesThrough_125 : decode cX11_goesThrough 125 = .ok (.getfield 33, 3) := by decide +kernel
theorem dX11_goesThrough_128 : decode cX11_goesThrough 128 = .ok (.iconst 4, 1) := by decide +kernel
theorem dX11_goesThrough_129 : decode cX11_goesThrough 129 = .ok (.iload_n 2, 1) := by decide +kernel
theorem dX11_goesThrough_130 : decode cX11_goesThrough 130 = .ok (.imul, 1) := by decide +kernel
theorem dX11_goesThrough_131 : decode cX11_goesThrough 131 = .ok (.iconst 3, 1) := by decide +kernel
theorem dX11_goesThrough_132 : decode cX11_goesThrough 132 = .ok (.iadd, 1) := by decide +kernel
theorem dX11_goesThrough_133 : decode cX11_goesThrough 133 = .ok (.iaload, 1) := by decide +kernel
theorem dX11_goesThrough_134 : decode cX11_goesThrough 134 = .ok (.putfield 157, 3) := by decide +kernel
theorem dX11_goesThrough_137 : decode cX11_goesThrough 137 = .ok (.return_, 1) := by decide +kernel
theorem dX11_goesThrough_138 : decode cX11_goesThrough 138 = .ok (.iinc 6 1, 3) := by decide +kernel
theorem dX11_goesThrough_141 : decode cX11_goesThrough 141 = .ok (.goto (-47), 3) := by decide +kernel
theorem dX11_goesThrough_144 : decode cX11_goesThrough 144 = .ok (.goto 192, 3) := by decide +kernel
theorem dX11_goesThrough_147 : decode cX11_goesThrough 147 = .ok (.iload_n 3, 1) := by decide +kernel
theorem dX11_goesThrough_148 : decode cX11_goesThrough 148 = .ok (.bipush 8, 2) := by decide +kernel
theorem dX11_goesThrough_150 : decode cX11_goesThrough 150 = .ok (.if_icmp .ne 12, 3) := by decide +kernel
theorem dX11_goesThrough_153 : decode cX11_goesThrough 153 = .ok (.aload_n 0, 1) := by decide +kernel
theorem dX11_goesThrough_154 : decode cX11_goesThrough 154 = .ok (.iload 4, 2) := by decide +kernel
theorem dX11_goesThrough_156 : decode cX11_goesThrough 156 = .ok (.putfield 233, 3) := by decide +kernel
theorem dX11_goesThrough_159 : decode cX11_goesThrough 159 = .ok (.goto 177, 3) := by decide +kernel
theorem dX11_goesThrough_162 : decode cX11_goesThrough 162 = .ok (.iload_n 3, 1) := by decide +kernel
theorem dX11_goesThrough_163 : decode cX11_goesThrough 163 = .ok (.bipush 10, 2) := by decide +kernel
theorem dX11_goesThrough_165 : decode cX11_goesThrough 165 = .ok (.if_icmp .ne 18, 3) := by decide +kernel
theorem dX11_goesThrough_168 : decode cX11_goesThrough 168 = .ok (.aload_n 0, 1) := by decide +kernel
theorem dX11_goesThrough_169 : decode cX11_goesThrough 169 = .ok (.getfield 13, 3) := by decide +kernel
theorem dX11_goesThrough_172 : decode cX11_goesThrough 172 = .ok (.sipush 248, 3) := by decide +kernel
theorem dX11_goesThrough_175 : decode cX11_goesThrough 175 = .ok (.iload 4, 2) := by decide +kernel
theorem dX11_goesThrough_177 : decode cX11_goesThrough 177 = .ok (.iadd, 1) := by decide +kernel
theorem dX11_goesThrough_178 : decode cX11_goesThrough 178 = .ok (.iconst 1, 1) := by decide +kernel
theorem dX11_goesThrough_179 : decode cX11_goesThrough 179 = .ok (.iastore, 1) := by decide +kernel
theorem dX11_goesThrough_180 : decode cX11_goesThrough 180 = .ok (.goto 156, 3) := by decide +kernel
theorem dX11_goesThrough_183 : decode cX11_goesThrough 183 = .ok (.iload_n 3, 1) := by decide +kernel
theorem dX11_goesThrough_184 : decode cX11_goesThrough 184 = .ok (.bipush 9, 2) := by decide +kernel
theorem dX11_goesThrough_186 : decode cX11_goesThrough 186 = .ok (.if_icmp .ne 12, 3) := by decide +kernel
theorem dX11_goesThrough_189 : decode cX11_goesThrough 189 = .ok (.aload_n 0, 1) := by decide +kernel
theorem dX11_goesThrough_190 : decode cX11_goesThrough 190 = .ok (.iload 4, 2) := by decide +kernel
theorem dX11_goesThrough_192 : decode cX11_goesThrough 192 = .ok (.putfield 240, 3) := by decide +kernel
theorem dX11_goesThrough_195 : decode cX11_goesThrough 195 = .ok (.goto 141, 3) := by decide +kernel
theorem dX11_goesThrough_198 : decode cX11_goesThrough 198 = .ok (.iload_n 3, 1) := by decide +kernel
theorem dX11_goesThrough_199 : decode cX11_goesThrough 199 = .ok (.bipush 14, 2) := by decide +kernel
theorem dX11_goesThrough_201 : decode cX11_goesThrough 201 = .ok (.if_icmp .ne 44, 3) := by decide +kernel
theorem dX11_goesThrough_204 : decode cX11_goesThrough 204 = .ok (.aload_n 0, 1) := by decide +kernel
theorem dX11_goesThrough_205 : decode cX11_goesThrough 205 = .ok (.getfield 39, 3) := by decide +kernel
theorem dX11_goesThrough_208 : decode cX11_goesThrough 208 = .ok (.iload_n 1, 1) := by decide +kernel
theorem dX11_goesThrough_209 : decode cX11_goesThrough 209 = .ok (.iconst 1, 1) := by decide +kernel
theorem dX11_goesThrough_210 : decode cX11_goesThrough 210 = .ok (.isub, 1) := by decide +kernel
theorem dX11_goesThrough_211 : decode cX11_goesThrough 211 = .ok (.dup2, 1) := by decide +kernel
theorem dX11_goesThrough_212 : decode cX11_goesThrough 212 = .ok (.iaload, 1) := by decide +kernel
theorem dX11_goesThrough_213 : decode cX11_goesThrough 213 = .ok (.iconst 1, 1) := by decide +kernel
theorem dX11_goesThrough_214 : decode cX11_goesThrough 214 = .ok (.isub, 1) := by decide +kernel
theorem dX11_goesThrough_215 : decode cX11_goesThrough 215 = .ok (.iastore, 1) := by decide +kernel
theorem dX11_goesThrough_216 : decode cX11_goesThrough 216 = .ok (.aload_n 0, 1) := by decide +kernel
theorem dX11_goesThrough_217 : decode cX11_goesThrough 217 = .ok (.getfield 39, 3) := by decide +kernel
theorem dX11_goesThrough_220 : decode cX11_goesThrough 220 = .ok (.iload_n 1, 1) := by decide +kernel
theorem dX11_goesThrough_221 : decode cX11_goesThrough 221 = .ok (.iconst 1, 1) := by decide +kernel
theorem dX11_goesThrough_222 : decode cX11_goesThrough 222 = .ok (.isub, 1) := by decide +kernel
theorem dX11_goesThrough_223 : decode cX11_goesThrough 223 = .ok (.iaload, 1) := by decide +kernel
theorem dX11_goesThrough_224 : decode cX11_goesThrough 224 = .ok (.ifCond .le 15, 3) := by decide +kernel
theorem dX11_goesThrough_227 : decode cX11_goesThrough 227 = .ok (.aload_n 0, 1) := by decide +kernel
theorem dX11_goesThrough_228 : decode cX11_goesThrough 228 = .ok (.getfield 36, 3) := by decide +kernel
theorem dX11_goesThrough_231 : decode cX11_goesThrough 231 = .ok (.iload_n 1, 1) := by decide +kernel
theorem dX11_goesThrough_232 : decode cX11_goesThrough 232 = .ok (.iconst 1, 1) := by decide +kernel
theorem dX11_goesThrough_233 : decode cX11_goesThrough 233 = .ok (.isub, 1) := by decide +kernel
theorem dX11_goesThrough_234 : decode cX11_goesThrough 234 = .ok (.iaload, 1) := by decide +kernel
theorem dX11_goesThrough_235 : decode cX11_goesThrough 235 = .ok (.istore_n 2, 1) := by decide +kernel
theorem dX11_goesThrough_236 : decode cX11_goesThrough 236 = .ok (.goto 100, 3) := by decide +kernel
theorem dX11_goesThrough_239 : decode cX11_goesThrough 239 = .ok (.iinc 1 (-1), 3) := by decide +kernel
theorem dX11_goesThrough_242 : decode cX11_goesThrough 242 = .ok (.goto 94, 3) := by decide +kernel
theorem dX11_goesThrough_245 : decode cX11_goesThrough 245 = .ok (.aload_n 0, 1) := by decide +kernel
theorem dX11_goesThrough_246 : decode cX11_goesThrough 246 = .ok (.getfield 36, 3) := by decide +kernel
theorem dX11_goesThrough_249 : decode cX11_goesThrough 249 = .ok (.iload_n 1, 1) := by decide +kernel
theorem dX11_goesThrough_250 : decode cX11_goesThrough 250 = .ok (.iload_n 2, 1) := by decide +kernel
theorem dX11_goesThrough_251 : decode cX11_goesThrough 251 = .ok (.iastore, 1) := by decide +kernel
theorem dX11_goesThrough_252 : decode cX11_goesThrough 252 = .ok (.aload_n 0, 1) := by decide +kernel
theorem dX11_goesThrough_253 : decode cX11_goesThrough 253 = .ok (.getfield 39, 3) := by decide +kernel
theorem dX11_goesThrough_256 : decode cX11_goesThrough 256 = .ok (.iload_n 1, 1) := by decide +kernel
theorem dX11_goesThrough_257 : decode cX11_goesThrough 257 = .ok (.iload 4, 2) := by decide +kernel
theorem dX11_goesThrough_259 : decode cX11_goesThrough 259 = .ok (.iastore, 1) := by decide +kernel
theorem dX11_goesThrough_260 : decode cX11_goesThrough 260 = .ok (.iinc 1 1, 3) := by decide +kernel
theorem dX11_goesThrough_263 : decode cX11_goesThrough 263 = .ok (.aload_n 0, 1) := by decide +kernel
theorem dX11_goesThrough_264 : decode cX11_goesThrough 264 = .ok (.getfield 42, 3) := by decide +kernel
theorem dX11_goesThrough_267 : decode cX11_goesThrough 267 = .ok (.iload_n 1, 1) := by decide +kernel
theorem dX11_goesThrough_268 : decode cX11_goesThrough 268 = .ok (.aload_n 0, 1) := by decide +kernel
theorem dX11_goesThrough_269 : decode cX11_goesThrough 269 = .ok (.getfield 42, 3) := by decide +kernel
theorem dX11_goesThrough_272 : decode cX11_goesThrough 272 = .ok (.iload_n 1, 1) := by decide +kernel
theorem dX11_goesThrough_273 : decode cX11_goesThrough 273 = .ok (.iconst 1, 1) := by decide +kernel
theorem dX11_goesThrough_274 : decode cX11_goesThrough 274 = .ok (.isub, 1) := by decide +kernel
theorem dX11_goesThrough_275 : decode cX11_goesThrough 275 = .ok (.iaload, 1) := by decide +kernel
theorem dX11_goesThrough_276 : decode cX11_goesThrough 276 = .ok (.iload_n 3, 1) := by decide +kernel
theorem dX11_goesThrough_277 : decode cX11_goesThrough 277 = .ok (.bipush 12, 2) := by decide +kernel
theorem dX11_goesThrough_279 : decode cX11_goesThrough 279 = .ok (.if_icmp .ne 16, 3) := by decide +kernel
theorem dX11_goesThrough_282 : decode cX11_goesThrough 282 = .ok (.iconst 2, 1) := by decide +kernel
theorem dX11_goesThrough_283 : decode cX11_goesThrough 283 = .ok (.aload_n 0, 1) := by decide +kernel
theorem dX11_goesThrough_284 : decode cX11_goesThrough 284 = .ok (.getfield 45, 3) := by decide +kernel
theorem dX11_goesThrough_287 : decode cX11_goesThrough 287 = .ok (.iload_n 1, 1) := by decide +kernel
theorem dX11_goesThrough_288 : decode cX11_goesThrough 288 = .ok (.iconst 1, 1) := by decide +kernel
theorem dX11_goesThrough_289 : decode cX11_goesThrough 289 = .ok (.isub, 1) := by decide +kernel
theorem dX11_goesThrough_290 : decode cX11_goesThrough 290 = .ok (.iaload, 1) := by decide +kernel
theorem dX11_goesThrough_291 : decode cX11_goesThrough 291 = .ok (.imul, 1) := by decide +kernel
theorem dX11_goesThrough_292 : decode cX11_goesThrough 292 = .ok (.goto 4, 3) := by decide +kernel
theorem dX11_goesThrough_295 : decode cX11_goesThrough 295 = .ok (.iconst 0, 1) := by decide +kernel
theorem dX11_goesThrough_296 : decode cX11_goesThrough 296 = .ok (.iadd, 1) := by decide +kernel
theorem dX11_goesThrough_297 : decode cX11_goesThrough 297 = .ok (.bipush 8, 2) := by decide +kernel
theorem dX11_goesThrough_299 : decode cX11_goesThrough 299 = .ok (.iadd, 1) := by decide +kernel
theorem dX11_goesThrough_300 : decode cX11_goesThrough 300 = .ok (.bipush 8, 2) := by decide +kernel
theorem dX11_goesThrough_302 : decode cX11_goesThrough 302 = .ok (.irem, 1) := by decide +kernel
theorem dX11_goesThrough_303 : decode cX11_goesThrough 303 = .ok (.iastore, 1) := by decide +kernel
theorem dX11_goesThrough_304 : decode cX11_goesThrough 304 = .ok (.aload_n 0, 1) := by decide +kernel
theorem dX11_goesThrough_305 : decode cX11_goesThrough 305 = .ok (.getfield 45, 3) := by decide +kernel
theorem dX11_goesThrough_308 : decode cX11_goesThrough 308 = .ok (.iload_n 1, 1) := by decide +kernel
theorem dX11_goesThrough_309 : decode cX11_goesThrough 309 = .ok (.iload_n 3, 1) := by decide +kernel
theorem dX11_goesThrough_310 : decode cX11_goesThrough 310 = .ok (.bipush 13, 2) := by decide +kernel
theorem dX11_goesThrough_312 : decode cX11_goesThrough 312 = .ok (.if_icmp .ne 15, 3) := by decide +kernel
theorem dX11_goesThrough_315 : decode cX11_goesThrough 315 = .ok (.aload_n 0, 1) := by decide +kernel
theorem dX11_goesThrough_316 : decode cX11_goesThrough 316 = .ok (.getfield 45, 3) := by decide +kernel
theorem dX11_goesThrough_319 : decode cX11_goesThrough 319 = .ok (.iload_n 1, 1) := by decide +kernel
theorem dX11_goesThrough_320 : decode cX11_goesThrough 320 = .ok (.iconst 1, 1) := by decide +kernel
theorem dX11_goesThrough_321 : decode cX11_goesThrough 321 = .ok (.isub, 1) := by decide +kernel
theorem dX11_goesThrough_322 : decode cX11_goesThrough 322 = .ok (.iaload, 1) := by decide +kernel
theorem dX11_goesThrough_323 : decode cX11_goesThrough 323 = .ok (.ineg, 1) := by decide +kernel
theorem dX11_goesThrough_324 : decode cX11_goesThrough 324 = .ok (.goto 11, 3) := by decide +kernel
theorem dX11_goesThrough_327 : decode cX11_goesThrough 327 = .ok (.aload_n 0, 1) := by decide +kernel
theorem dX11_goesThrough_328 : decode cX11_goesThrough 328 = .ok (.getfield 45, 3) := by decide +kernel
theorem dX11_goesThrough_331 : decode cX11_goesThrough 331 = .ok (.iload_n 1, 1) := by decide +kernel
theorem dX11_goesThrough_332 : decode cX11_goesThrough 332 = .ok (.iconst 1, 1) := by decide +kernel
theorem dX11_goesThrough_333 : decode cX11_goesThrough 333 = .ok (.isub, 1) := by decide +kernel
theorem dX11_goesThrough_334 : decode cX11_goesThrough 334 = .ok (.iaload, 1) := by decide +kernel
theorem dX11_goesThrough_335 : decode cX11_goesThrough 335 = .ok (.iastore, 1) := by decide +kernel
theorem dX11_goesThrough_336 : decode cX11_goesThrough 336 = .ok (.iinc 2 1, 3) := by decide +kernel
theorem dX11_goesThrough_339 : decode cX11_goesThrough 339 = .ok (.goto (-306), 3) := by decide +kernel
theorem dX11_goesThrough_342 : decode cX11_goesThrough 342 = .ok (.return_, 1) := by decide +kernel
theorem dX11_drawing_0 : decode cX11_drawing 0 = .ok (.aload_n 0, 1) := by decide +kernel
theorem dX11_drawing_1 : decode cX11_drawing 1 = .ok (.iconst 0, 1) := by decide +kernel
theorem dX11_drawing_2 : decode cX11_drawing 2 = .ok (.putfield 86, 3) := by decide +kernel
theorem dX11_drawing_5 : decode cX11_drawing 5 = .ok (.iload_n 1, 1) := by decide +kernel
theorem dX11_drawing_6 : decode cX11_drawing 6 = .ok (.i2l, 1) := by decide +kernel
theorem dX11_drawing_7 : decode cX11_drawing 7 = .ok (.lconst 0, 1) := by decide +kernel
theorem dX11_drawing_8 : decode cX11_drawing 8 = .ok (.aload_n 0, 1) := by decide +kernel
theorem dX11_drawing_9 : decode cX11_drawing 9 = .ok (.getfield 116, 3) := by decide +kernel
theorem dX11_drawing_12 : decode cX11_drawing 12 = .ok (.i2l, 1) := by decide +kernel
theorem dX11_drawing_13 : decode cX11_drawing 13 = .ok (.invokestatic 98, 3) := by decide +kernel
theorem dX11_drawing_16 : decode cX11_drawing 16 = .ok (.ifCond .ne 9, 3) := by decide +kernel
theorem dX11_drawing_19 : decode cX11_drawing 19 = .ok (.aload_n 0, 1) := by decide +kernel
theorem dX11_drawing_20 : decode cX11_drawing 20 = .ok (.iconst 1, 1) := by decide +kernel
theorem dX11_drawing_21 : decode cX11_drawing 21 = .ok (.invokevirtual 245, 3) := by decide +kernel
theorem dX11_drawing_24 : decode cX11_drawing 24 = .ok (.ireturn, 1) := by decide +kernel
theorem dX11_drawing_25 : decode cX11_drawing 25 = .ok (.aload_n 0, 1) := by decide +kernel
theorem dX11_drawing_26 : decode cX11_drawing 26 = .ok (.iload_n 1, 1) := by decide +kernel
theorem dX11_drawing_27 : decode cX11_drawing 27 = .ok (.putfield 119, 3) := by decide +kernel
theorem dX11_drawing_30 : decode cX11_drawing 30 = .ok (.aload_n 0, 1) := by decide +kernel
theorem dX11_drawing_31 : decode cX11_drawing 31 = .ok (.iconst 0, 1) := by decide +kernel
theorem dX11_drawing_32 : decode cX11_drawing 32 = .ok (.putfield 116, 3) := by decide +kernel
theorem dX11_drawing_35 : decode cX11_drawing 35 = .ok (.aload_n 0, 1) := by decide +kernel
theorem dX11_drawing_36 : decode cX11_drawing 36 = .ok (.iconst 0, 1) := by decide +kernel
theorem dX11_drawing_37 : decode cX11_drawing 37 = .ok (.putfield 122, 3) := by decide +kernel
theorem dX11_drawing_40 : decode cX11_drawing 40 = .ok (.aload_n 0, 1) := by decide +kernel
theorem dX11_drawing_41 : decode cX11_drawing 41 = .ok (.iconst 0, 1) := by decide +kernel
theorem dX11_drawing_42 : decode cX11_drawing 42 = .ok (.putfield 144, 3) := by decide +kernel
theorem dX11_drawing_45 : decode cX11_drawing 45 = .ok (.aload_n 0, 1) := by decide +kernel
theorem dX11_drawing_46 : decode cX11_drawing 46 = .ok (.iconst 0, 1) := by decide +kernel
theorem dX11_drawing_47 : decode cX11_drawing 47 = .ok (.putfield 200, 3) := by decide +kernel
theorem dX11_drawing_50 : decode cX11_drawing 50 = .ok (.aload_n 0, 1) := by decide +kernel
theorem dX11_drawing_51 : decode cX11_drawing 51 = .ok (.iconst 0, 1) := by decide +kernel
theorem dX11_drawing_52 : decode cX11_drawing 52 = .ok (.putfield 170, 3) := by decide +kernel
theorem dX11_drawing_55 : decode cX11_drawing 55 = .ok (.iconst 0, 1) := by decide +kernel
theorem dX11_drawing_56 : decode cX11_drawing 56 = .ok (.istore_n 2, 1) := by decide +kernel
theorem dX11_drawing_57 : decode cX11_drawing 57 = .ok (.iload_n 2, 1) := by decide +kernel
theorem dX11_drawing_58 : decode cX11_drawing 58 = .ok (.sipush 512, 3) := by decide +kernel
theorem dX11_drawing_61 : decode cX11_drawing 61 = .ok (.if_icmp .ge 16, 3) := by decide +kernel
theorem dX11_drawing_64 : decode cX11_drawing 64 = .ok (.aload_n 0, 1) := by decide +kernel
theorem dX11_drawing_65 : decode cX11_drawing 65 = .ok (.getfield 13, 3) := by decide +kernel
theorem dX11_drawing_68 : decode cX11_drawing 68 = .ok (.iload_n 2, 1) := by decide +kernel
theorem dX11_drawing_69 : decode cX11_drawing 69 = .ok (.iconst 0, 1) := by decide +kernel
theorem dX11_drawing_70 : decode cX11_drawing 70 = .ok (.iastore, 1) := by decide +kernel
theorem dX11_drawing_71 : decode cX11_drawing 71 = .ok (.iinc 2 1, 3) := by decide +kernel
theorem dX11_drawing_74 : decode cX11_drawing 74 = .ok (.goto (-17), 3) := by decide +kernel
theorem dX11_drawing_77 : decode cX11_drawing 77 = .ok (.aload_n 0, 1) := by decide +kernel
theorem dX11_drawing_78 : decode cX11_drawing 78 = .ok (.invokevirtual 154, 3) := by decide +kernel
theorem dX11_drawing_81 : decode cX11_drawing 81 = .ok (.aload_n 0, 1) := by decide +kernel
theorem dX11_drawing_82 : decode cX11_drawing 82 = .ok (.getfield 144, 3) := by decide +kernel
theorem dX11_drawing_85 : decode cX11_drawing 85 = .ok (.ifCond .ne 17, 3) := by decide +kernel
theorem dX11_drawing_88 : decode cX11_drawing 88 = .ok (.aload_n 0, 1) := by decide +kernel
theorem dX11_drawing_89 : decode cX11_drawing 89 = .ok (.getfield 128, 3) := by decide +kernel
theorem dX11_drawing_92 : decode cX11_drawing 92 = .ok (.ifCond .eq 10, 3) := by decide +kernel
theorem dX11_drawing_95 : decode cX11_drawing 95 = .ok (.aload_n 0, 1) := by decide +kernel
theorem dX11_drawing_96 : decode cX11_drawing 96 = .ok (.invokevirtual 206, 3) := by decide +kernel
theorem dX11_drawing_99 : decode cX11_drawing 99 = .ok (.goto (-18), 3) := by decide +kernel
theorem dX11_drawing_102 : decode cX11_drawing 102 = .ok (.aload_n 0, 1) := by decide +kernel
theorem dX11_drawing_103 : decode cX11_drawing 103 = .ok (.getfield 144, 3) := by decide +kernel
theorem dX11_drawing_106 : decode cX11_drawing 106 = .ok (.ifCond .ne 7, 3) := by decide +kernel
theorem dX11_drawing_109 : decode cX11_drawing 109 = .ok (.aload_n 0, 1) := by decide +kernel
theorem dX11_drawing_110 : decode cX11_drawing 110 = .ok (.invokevirtual 248, 3) := by decide +kernel
theorem dX11_drawing_113 : decode cX11_drawing 113 = .ok (.aload_n 0, 1) := by decide +kernel
theorem dX11_drawing_114 : decode cX11_drawing 114 = .ok (.aload_n 0, 1) := by decide +kernel
theorem dX11_drawing_115 : decode cX11_drawing 115 = .ok (.getfield 144, 3) := by decide +kernel
theorem dX11_drawing_118 : decode cX11_drawing 118 = .ok (.putfield 251, 3) := by decide +kernel
theorem dX11_drawing_121 : decode cX11_drawing 121 = .ok (.aload_n 0, 1) := by decide +kernel
theorem dX11_drawing_122 : decode cX11_drawing 122 = .ok (.aload_n 0, 1) := by decide +kernel
theorem dX11_drawing_123 : decode cX11_drawing 123 = .ok (.getfield 144, 3) := by decide +kernel
theorem dX11_drawing_126 : decode cX11_drawing 126 = .ok (.ifCond .ne 7, 3) := by decide +kernel
theorem dX11_drawing_129 : decode cX11_drawing 129 = .ok (.iconst (-1), 1) := by decide +kernel
theorem dX11_drawing_130 : decode cX11_drawing 130 = .ok (.goto 7, 3) := by decide +kernel
theorem dX11_drawing_133 : decode cX11_drawing 133 = .ok (.aload_n 0, 1) := by decide +kernel
theorem dX11_drawing_134 : decode cX11_drawing 134 = .ok (.getfield 157, 3) := by decide +kernel
theorem dX11_drawing_137 : decode cX11_drawing 137 = .ok (.putfield 29, 3) := by decide +kernel
theorem dX11_drawing_140 : decode cX11_drawing 140 = .ok (.aload_n 0, 1) := by decide +kernel
theorem dX11_drawing_141 : decode cX11_drawing 141 = .ok (.getfield 144, 3) := by decide +kernel
theorem dX11_drawing_144 : decode cX11_drawing 144 = .ok (.ifCond .eq 11, 3) := by decide +kernel
theorem dX11_drawing_147 : decode cX11_drawing 147 = .ok (.bipush (-10), 2) := by decide +kernel
theorem dX11_drawing_149 : decode cX11_drawing 149 = .ok (.aload_n 0, 1) := by decide +kernel
theorem dX11_drawing_150 : decode cX11_drawing 150 = .ok (.getfield 144, 3) := by decide +kernel
theorem dX11_drawing_153 : decode cX11_drawing 153 = .ok (.isub, 1) := by decide +kernel
theorem dX11_drawing_154 : decode cX11_drawing 154 = .ok (.ireturn, 1) := by decide +kernel
theorem dX11_drawing_155 : decode cX11_drawing 155 = .ok (.aload_n 0, 1) := by decide +kernel
theorem dX11_drawing_156 : decode cX11_drawing 156 = .ok (.getfield 13, 3) := by decide +kernel
theorem dX11_drawing_159 : decode cX11_drawing 159 = .ok (.aload_n 0, 1) := by decide +kernel
theorem dX11_drawing_160 : decode cX11_drawing 160 = .ok (.getfield 9, 3) := by decide +kernel
theorem dX11_drawing_163 : decode cX11_drawing 163 = .ok (.invokestatic 254, 3) := by decide +kernel
theorem dX11_drawing_166 : decode cX11_drawing 166 = .ok (.aload_n 0, 1) := by decide +kernel
theorem dX11_drawing_167 : decode cX11_drawing 167 = .ok (.getfield 9, 3) := by decide +kernel
theorem dX11_drawing_170 : decode cX11_drawing 170 = .ok (.iconst 0, 1) := by decide +kernel
theorem dX11_drawing_171 : decode cX11_drawing 171 = .ok (.iaload, 1) := by decide +kernel
theorem dX11_drawing_172 : decode cX11_drawing 172 = .ok (.ireturn, 1) := by decide +kernel
theorem dX11_fault_0 : decode cX11_fault 0 = .ok (.aload_n 0, 1) := by decide +kernel
theorem dX11_fault_1 : decode cX11_fault 1 = .ok (.iconst 0, 1) := by decide +kernel
theorem dX11_fault_2 : decode cX11_fault 2 = .ok (.putfield 86, 3) := by decide +kernel
theorem dX11_fault_5 : decode cX11_fault 5 = .ok (.iload_n 1, 1) := by decide +kernel
theorem dX11_fault_6 : decode cX11_fault 6 = .ok (.ifCond .ne 10, 3) := by decide +kernel
theorem dX11_fault_9 : decode cX11_fault 9 = .ok (.aload_n 0, 1) := by decide +kernel
theorem dX11_fault_10 : decode cX11_fault 10 = .ok (.getfield 251, 3) := by decide +kernel
theorem dX11_fault_13 : decode cX11_fault 13 = .ok (.goto 16, 3) := by decide +kernel
theorem dX11_fault_16 : decode cX11_fault 16 = .ok (.iload_n 1, 1) := by decide +kernel
theorem dX11_fault_17 : decode cX11_fault 17 = .ok (.iconst 1, 1) := by decide +kernel
theorem dX11_fault_18 : decode cX11_fault 18 = .ok (.if_icmp .ne 10, 3) := by decide +kernel
theorem dX11_fault_21 : decode cX11_fault 21 = .ok (.aload_n 0, 1) := by decide +kernel
theorem dX11_fault_22 : decode cX11_fault 22 = .ok (.getfield 29, 3) := by decide +kernel
theorem dX11_fault_25 : decode cX11_fault 25 = .ok (.goto 4, 3) := by decide +kernel
theorem dX11_fault_28 : decode cX11_fault 28 = .ok (.iconst (-1), 1) := by decide +kernel
theorem dX11_fault_29 : decode cX11_fault 29 = .ok (.ireturn, 1) := by decide +kernel
theorem dX11_isLine_0 : decode cX11_isLine 0 = .ok (.iload_n 1, 1) := by decide +kernel
theorem dX11_isLine_1 : decode cX11_isLine 1 = .ok (.i2l, 1) := by decide +kernel
theorem dX11_isLine_2 : decode cX11_isLine 2 = .ok (.lconst 0, 1) := by decide +kernel
theorem dX11_isLine_3 : decode cX11_isLine 3 = .ok (.aload_n 0, 1) := by decide +kernel
theorem dX11_isLine_4 : decode cX11_isLine 4 = .ok (.getfield 9, 3) := by decide +kernel
theorem dX11_isLine_7 : decode cX11_isLine 7 = .ok (.iconst 0, 1) := by decide +kernel
theorem dX11_isLine_8 : decode cX11_isLine 8 = .ok (.iaload, 1) := by decide +kernel
theorem dX11_isLine_9 : decode cX11_isLine 9 = .ok (.iconst 1, 1) := by decide +kernel
theorem dX11_isLine_10 : decode cX11_isLine 10 = .ok (.isub, 1) := by decide +kernel
theorem dX11_isLine_11 : decode cX11_isLine 11 = .ok (.i2l, 1) := by decide +kernel
theorem dX11_isLine_12 : decode cX11_isLine 12 = .ok (.invokestatic 98, 3) := by decide +kernel
theorem dX11_isLine_15 : decode cX11_isLine 15 = .ok (.ireturn, 1) := by decide +kernel
theorem dX11_from_0 : decode cX11_from 0 = .ok (.aload_n 0, 1) := by decide +kernel
theorem dX11_from_1 : decode cX11_from 1 = .ok (.getfield 9, 3) := by decide +kernel
theorem dX11_from_4 : decode cX11_from 4 = .ok (.bipush 8, 2) := by decide +kernel
theorem dX11_from_6 : decode cX11_from 6 = .ok (.iconst 4, 1) := by decide +kernel
theorem dX11_from_7 : decode cX11_from 7 = .ok (.iload_n 1, 1) := by decide +kernel
theorem dX11_from_8 : decode cX11_from 8 = .ok (.imul, 1) := by decide +kernel
theorem dX11_from_9 : decode cX11_from 9 = .ok (.iadd, 1) := by decide +kernel
theorem dX11_from_10 : decode cX11_from 10 = .ok (.iconst 0, 1) := by decide +kernel
theorem dX11_from_11 : decode cX11_from 11 = .ok (.iadd, 1) := by decide +kernel
theorem dX11_from_12 : decode cX11_from 12 = .ok (.iaload, 1) := by decide +kernel
theorem dX11_from_13 : decode cX11_from 13 = .ok (.ireturn, 1) := by decide +kernel
theorem dX11_to_0 : decode cX11_to 0 = .ok (.aload_n 0, 1) := by decide +kernel
theorem dX11_to_1 : decode cX11_to 1 = .ok (.getfield 9, 3) := by decide +kernel
theorem dX11_to_4 : decode cX11_to 4 = .ok (.iload_n 1, 1) := by decide +kernel
theorem dX11_to_5 : decode cX11_to 5 = .ok (.invokestatic 112, 3) := by decide +kernel
theorem dX11_to_8 : decode cX11_to 8 = .ok (.ireturn, 1) := by decide +kernel
theorem dX11_inkOf_0 : decode cX11_inkOf 0 = .ok (.aload_n 0, 1) := by decide +kernel
theorem dX11_inkOf_1 : decode cX11_inkOf 1 = .ok (.getfield 9, 3) := by decide +kernel
theorem dX11_inkOf_4 : decode cX11_inkOf 4 = .ok (.bipush 8, 2) := by decide +kernel
theorem dX11_inkOf_6 : decode cX11_inkOf 6 = .ok (.iconst 4, 1) := by decide +kernel
theorem dX11_inkOf_7 : decode cX11_inkOf 7 = .ok (.iload_n 1, 1) := by decide +kernel
theorem dX11_inkOf_8 : decode cX11_inkOf 8 = .ok (.imul, 1) := by decide +kernel
theorem dX11_inkOf_9 : decode cX11_inkOf 9 = .ok (.iadd, 1) := by decide +kernel
theorem dX11_inkOf_10 : decode cX11_inkOf 10 = .ok (.iconst 2, 1) := by decide +kernel
theorem dX11_inkOf_11 : decode cX11_inkOf 11 = .ok (.iadd, 1) := by decide +kernel
theorem dX11_inkOf_12 : decode cX11_inkOf 12 = .ok (.iaload, 1) := by decide +kernel
theorem dX11_inkOf_13 : decode cX11_inkOf 13 = .ok (.ireturn, 1) := by decide +kernel
theorem dX11_worked_0 : decode cX11_worked 0 = .ok (.aload_n 0, 1) := by decide +kernel
theorem dX11_worked_1 : decode cX11_worked 1 = .ok (.getfield 9, 3) := by decide +kernel
theorem dX11_worked_4 : decode cX11_worked 4 = .ok (.bipush 8, 2) := by decide +kernel
theorem dX11_worked_6 : decode cX11_worked 6 = .ok (.iconst 4, 1) := by decide +kernel
theorem dX11_worked_7 : decode cX11_worked 7 = .ok (.iload_n 1, 1) := by decide +kernel
theorem dX11_worked_8 : decode cX11_worked 8 = .ok (.imul, 1) := by decide +kernel
theorem dX11_worked_9 : decode cX11_worked 9 = .ok (.iadd, 1) := by decide +kernel
theorem dX11_worked_10 : decode cX11_worked 10 = .ok (.iconst 3, 1) := by decide +kernel
theorem dX11_worked_11 : decode cX11_worked 11 = .ok (.iadd, 1) := by decide +kernel
theorem dX11_worked_12 : decode cX11_worked 12 = .ok (.iaload, 1) := by decide +kernel
theorem dX11_worked_13 : decode cX11_worked 13 = .ok (.ireturn, 1) := by decide +kernel
theorem dX11_isOf_0 : decode cX11_isOf 0 = .ok (.iload_n 2, 1) := by decide +kernel
theorem dX11_isOf_1 : decode cX11_isOf 1 = .ok (.iconst (-1), 1) := by decide +kernel
theorem dX11_isOf_2 : decode cX11_isOf 2 = .ok (.if_icmp .eq 12, 3) := by decide +kernel
theorem dX11_isOf_5 : decode cX11_isOf 5 = .ok (.aload_n 0, 1) := by decide +kernel
theorem dX11_isOf_6 : decode cX11_isOf 6 = .ok (.iload_n 1, 1) := by decide +kernel
theorem dX11_isOf_7 : decode cX11_isOf 7 = .ok (.invokevirtual 258, 3) := by decide +kernel
theorem dX11_isOf_10 : decode cX11_isOf 10 = .ok (.iload_n 2, 1) := by decide +kernel
theorem dX11_isOf_11 : decode cX11_isOf 11 = .ok (.if_icmp .ne 7, 3) := by decide +kernel
theorem dX11_isOf_14 : decode cX11_isOf 14 = .ok (.iconst 1, 1) := by decide +kernel
theorem dX11_isOf_15 : decode cX11_isOf 15 = .ok (.goto 4, 3) := by decide +kernel
theorem dX11_isOf_18 : decode cX11_isOf 18 = .ok (.iconst 0, 1) := by decide +kernel
theorem dX11_isOf_19 : decode cX11_isOf 19 = .ok (.ireturn, 1) := by decide +kernel
theorem dX11_isAt_0 : decode cX11_isAt 0 = .ok (.aload_n 0, 1) := by decide +kernel
theorem dX11_isAt_1 : decode cX11_isAt 1 = .ok (.iload_n 1, 1) := by decide +kernel
theorem dX11_isAt_2 : decode cX11_isAt 2 = .ok (.invokevirtual 261, 3) := by decide +kernel
theorem dX11_isAt_5 : decode cX11_isAt 5 = .ok (.iload_n 2, 1) := by decide +kernel
theorem dX11_isAt_6 : decode cX11_isAt 6 = .ok (.if_icmp .eq 12, 3) := by decide +kernel
theorem dX11_isAt_9 : decode cX11_isAt 9 = .ok (.aload_n 0, 1) := by decide +kernel
theorem dX11_isAt_10 : decode cX11_isAt 10 = .ok (.iload_n 1, 1) := by decide +kernel
theorem dX11_isAt_11 : decode cX11_isAt 11 = .ok (.invokevirtual 264, 3) := by decide +kernel
theorem dX11_isAt_14 : decode cX11_isAt 14 = .ok (.iload_n 2, 1) := by decide +kernel
theorem dX11_isAt_15 : decode cX11_isAt 15 = .ok (.if_icmp .ne 7, 3) := by decide +kernel
theorem dX11_isAt_18 : decode cX11_isAt 18 = .ok (.iconst 1, 1) := by decide +kernel
theorem dX11_isAt_19 : decode cX11_isAt 19 = .ok (.goto 4, 3) := by decide +kernel
theorem dX11_isAt_22 : decode cX11_isAt 22 = .ok (.iconst 0, 1) := by decide +kernel
theorem dX11_isAt_23 : decode cX11_isAt 23 = .ok (.ireturn, 1) := by decide +kernel
theorem dX11_line_0 : decode cX11_line 0 = .ok (.aload_n 0, 1) := by decide +kernel
theorem dX11_line_1 : decode cX11_line 1 = .ok (.iconst 0, 1) := by decide +kernel
theorem dX11_line_2 : decode cX11_line 2 = .ok (.putfield 86, 3) := by decide +kernel
theorem dX11_line_5 : decode cX11_line 5 = .ok (.aload_n 0, 1) := by decide +kernel
theorem dX11_line_6 : decode cX11_line 6 = .ok (.iload_n 1, 1) := by decide +kernel
theorem dX11_line_7 : decode cX11_line 7 = .ok (.invokevirtual 267, 3) := by decide +kernel
theorem dX11_line_10 : decode cX11_line 10 = .ok (.ifCond .ne 9, 3) := by decide +kernel
theorem dX11_line_13 : decode cX11_line 13 = .ok (.aload_n 0, 1) := by decide +kernel
theorem dX11_line_14 : decode cX11_line 14 = .ok (.iconst 1, 1) := by decide +kernel
theorem dX11_line_15 : decode cX11_line 15 = .ok (.invokevirtual 245, 3) := by decide +kernel
theorem dX11_line_18 : decode cX11_line 18 = .ok (.ireturn, 1) := by decide +kernel
theorem dX11_line_19 : decode cX11_line 19 = .ok (.iload_n 2, 1) := by decide +kernel
theorem dX11_line_20 : decode cX11_line 20 = .ok (.i2l, 1) := by decide +kernel
theorem dX11_line_21 : decode cX11_line 21 = .ok (.lconst 0, 1) := by decide +kernel
theorem dX11_line_22 : decode cX11_line 22 = .ok (.ldc2_w 106, 3) := by decide +kernel
theorem dX11_line_25 : decode cX11_line 25 = .ok (.invokestatic 98, 3) := by decide +kernel
theorem dX11_line_28 : decode cX11_line 28 = .ok (.ifCond .ne 9, 3) := by decide +kernel
theorem dX11_line_31 : decode cX11_line 31 = .ok (.aload_n 0, 1) := by decide +kernel
theorem dX11_line_32 : decode cX11_line 32 = .ok (.iconst 2, 1) := by decide +kernel
theorem dX11_line_33 : decode cX11_line 33 = .ok (.invokevirtual 245, 3) := by decide +kernel
theorem dX11_line_36 : decode cX11_line 36 = .ok (.ireturn, 1) := by decide +kernel
theorem dX11_line_37 : decode cX11_line 37 = .ok (.iload_n 2, 1) := by decide +kernel
theorem dX11_line_38 : decode cX11_line 38 = .ok (.ifCond .ne 11, 3) := by decide +kernel
theorem dX11_line_41 : decode cX11_line 41 = .ok (.aload_n 0, 1) := by decide +kernel
theorem dX11_line_42 : decode cX11_line 42 = .ok (.iload_n 1, 1) := by decide +kernel
theorem dX11_line_43 : decode cX11_line 43 = .ok (.invokevirtual 261, 3) := by decide +kernel
theorem dX11_line_46 : decode cX11_line 46 = .ok (.goto 34, 3) := by decide +kernel
theorem dX11_line_49 : decode cX11_line 49 = .ok (.iload_n 2, 1) := by decide +kernel
theorem dX11_line_50 : decode cX11_line 50 = .ok (.iconst 1, 1) := by decide +kernel
theorem dX11_line_51 : decode cX11_line 51 = .ok (.if_icmp .ne 11, 3) := by decide +kernel
theorem dX11_line_54 : decode cX11_line 54 = .ok (.aload_n 0, 1) := by decide +kernel
theorem dX11_line_55 : decode cX11_line 55 = .ok (.iload_n 1, 1) := by decide +kernel
theorem dX11_line_56 : decode cX11_line 56 = .ok (.invokevirtual 264, 3) := by decide +kernel
theorem dX11_line_59 : decode cX11_line 59 = .ok (.goto 21, 3) := by decide +kernel
theorem dX11_line_62 : decode cX11_line 62 = .ok (.iload_n 2, 1) := by decide +kernel
theorem dX11_line_63 : decode cX11_line 63 = .ok (.iconst 2, 1) := by decide +kernel
theorem dX11_line_64 : decode cX11_line 64 = .ok (.if_icmp .ne 11, 3) := by decide +kernel
theorem dX11_line_67 : decode cX11_line 67 = .ok (.aload_n 0, 1) := by decide +kernel
theorem dX11_line_68 : decode cX11_line 68 = .ok (.iload_n 1, 1) := by decide +kernel
theorem dX11_line_69 : decode cX11_line 69 = .ok (.invokevirtual 258, 3) := by decide +kernel
theorem dX11_line_72 : decode cX11_line 72 = .ok (.goto 8, 3) := by decide +kernel
theorem dX11_line_75 : decode cX11_line 75 = .ok (.aload_n 0, 1) := by decide +kernel
theorem dX11_line_76 : decode cX11_line 76 = .ok (.iload_n 1, 1) := by decide +kernel
theorem dX11_line_77 : decode cX11_line 77 = .ok (.invokevirtual 270, 3) := by decide +kernel
theorem dX11_line_80 : decode cX11_line 80 = .ok (.ireturn, 1) := by decide +kernel
theorem dX11_lineAt_0 : decode cX11_lineAt 0 = .ok (.aload_n 0, 1) := by decide +kernel
theorem dX11_lineAt_1 : decode cX11_lineAt 1 = .ok (.iconst 0, 1) := by decide +kernel
theorem dX11_lineAt_2 : decode cX11_lineAt 2 = .ok (.putfield 86, 3) := by decide +kernel
theorem dX11_lineAt_5 : decode cX11_lineAt 5 = .ok (.iload_n 1, 1) := by decide +kernel
theorem dX11_lineAt_6 : decode cX11_lineAt 6 = .ok (.invokestatic 273, 3) := by decide +kernel
theorem dX11_lineAt_9 : decode cX11_lineAt 9 = .ok (.ifCond .eq 23, 3) := by decide +kernel
theorem dX11_lineAt_12 : decode cX11_lineAt 12 = .ok (.iload_n 2, 1) := by decide +kernel
theorem dX11_lineAt_13 : decode cX11_lineAt 13 = .ok (.i2l, 1) := by decide +kernel
theorem dX11_lineAt_14 : decode cX11_lineAt 14 = .ok (.invokestatic 276, 3) := by decide +kernel
theorem dX11_lineAt_17 : decode cX11_lineAt 17 = .ok (.ifCond .eq 15, 3) := by decide +kernel
theorem dX11_lineAt_20 : decode cX11_lineAt 20 = .ok (.aload_n 0, 1) := by decide +kernel
theorem dX11_lineAt_21 : decode cX11_lineAt 21 = .ok (.getfield 9, 3) := by decide +kernel
theorem dX11_lineAt_24 : decode cX11_lineAt 24 = .ok (.iload_n 1, 1) := by decide +kernel
theorem dX11_lineAt_25 : decode cX11_lineAt 25 = .ok (.iload_n 2, 1) := by decide +kernel
theorem dX11_lineAt_26 : decode cX11_lineAt 26 = .ok (.invokestatic 236, 3) := by decide +kernel
theorem dX11_lineAt_29 : decode cX11_lineAt 29 = .ok (.goto 8, 3) := by decide +kernel
theorem dX11_lineAt_32 : decode cX11_lineAt 32 = .ok (.aload_n 0, 1) := by decide +kernel
theorem dX11_lineAt_33 : decode cX11_lineAt 33 = .ok (.iconst 1, 1) := by decide +kernel
theorem dX11_lineAt_34 : decode cX11_lineAt 34 = .ok (.invokevirtual 245, 3) := by decide +kernel
theorem dX11_lineAt_37 : decode cX11_lineAt 37 = .ok (.ireturn, 1) := by decide +kernel
theorem dX11_ends_0 : decode cX11_ends 0 = .ok (.aload_n 0, 1) := by decide +kernel
theorem dX11_ends_1 : decode cX11_ends 1 = .ok (.iload_n 1, 1) := by decide +kernel
theorem dX11_ends_2 : decode cX11_ends 2 = .ok (.invokestatic 273, 3) := by decide +kernel
theorem dX11_ends_5 : decode cX11_ends 5 = .ok (.ifCond .ne 7, 3) := by decide +kernel
theorem dX11_ends_8 : decode cX11_ends 8 = .ok (.iconst 1, 1) := by decide +kernel
theorem dX11_ends_9 : decode cX11_ends 9 = .ok (.goto 20, 3) := by decide +kernel
theorem dX11_ends_12 : decode cX11_ends 12 = .ok (.iload_n 2, 1) := by decide +kernel
theorem dX11_ends_13 : decode cX11_ends 13 = .ok (.iconst (-1), 1) := by decide +kernel
theorem dX11_ends_14 : decode cX11_ends 14 = .ok (.if_icmp .eq 10, 3) := by decide +kernel
theorem dX11_ends_17 : decode cX11_ends 17 = .ok (.iload_n 2, 1) := by decide +kernel
theorem dX11_ends_18 : decode cX11_ends 18 = .ok (.invokestatic 280, 3) := by decide +kernel
theorem dX11_ends_21 : decode cX11_ends 21 = .ok (.ifCond .eq 7, 3) := by decide +kernel
theorem dX11_ends_24 : decode cX11_ends 24 = .ok (.iconst 0, 1) := by decide +kernel
theorem dX11_ends_25 : decode cX11_ends 25 = .ok (.goto 4, 3) := by decide +kernel
theorem dX11_ends_28 : decode cX11_ends 28 = .ok (.iconst 2, 1) := by decide +kernel
theorem dX11_ends_29 : decode cX11_ends 29 = .ok (.putfield 86, 3) := by decide +kernel
theorem dX11_ends_32 : decode cX11_ends 32 = .ok (.aload_n 0, 1) := by decide +kernel
theorem dX11_ends_33 : decode cX11_ends 33 = .ok (.getfield 86, 3) := by decide +kernel
theorem dX11_ends_36 : decode cX11_ends 36 = .ok (.ifCond .le 5, 3) := by decide +kernel
theorem dX11_ends_39 : decode cX11_ends 39 = .ok (.iconst 0, 1) := by decide +kernel
theorem dX11_ends_40 : decode cX11_ends 40 = .ok (.ireturn, 1) := by decide +kernel
theorem dX11_ends_41 : decode cX11_ends 41 = .ok (.iconst 0, 1) := by decide +kernel
theorem dX11_ends_42 : decode cX11_ends 42 = .ok (.istore_n 3, 1) := by decide +kernel
theorem dX11_ends_43 : decode cX11_ends 43 = .ok (.iconst 0, 1) := by decide +kernel
theorem dX11_ends_44 : decode cX11_ends 44 = .ok (.istore 4, 2) := by decide +kernel
theorem dX11_ends_46 : decode cX11_ends 46 = .ok (.iload 4, 2) := by decide +kernel
theorem dX11_ends_48 : decode cX11_ends 48 = .ok (.aload_n 0, 1) := by decide +kernel
theorem dX11_ends_49 : decode cX11_ends 49 = .ok (.getfield 9, 3) := by decide +kernel
theorem dX11_ends_52 : decode cX11_ends 52 = .ok (.iconst 0, 1) := by decide +kernel
theorem dX11_ends_53 : decode cX11_ends 53 = .ok (.iaload, 1) := by decide +kernel
theorem dX11_ends_54 : decode cX11_ends 54 = .ok (.if_icmp .ge 37, 3) := by decide +kernel
theorem dX11_ends_57 : decode cX11_ends 57 = .ok (.iload_n 3, 1) := by decide +kernel
theorem dX11_ends_58 : decode cX11_ends 58 = .ok (.aload_n 0, 1) := by decide +kernel
theorem dX11_ends_59 : decode cX11_ends 59 = .ok (.iload 4, 2) := by decide +kernel
theorem dX11_ends_61 : decode cX11_ends 61 = .ok (.iload_n 2, 1) := by decide +kernel
theorem dX11_ends_62 : decode cX11_ends 62 = .ok (.invokevirtual 283, 3) := by decide +kernel
theorem dX11_ends_65 : decode cX11_ends 65 = .ok (.ifCond .eq 17, 3) := by decide +kernel
theorem dX11_ends_68 : decode cX11_ends 68 = .ok (.aload_n 0, 1) := by decide +kernel
theorem dX11_ends_69 : decode cX11_ends 69 = .ok (.iload 4, 2) := by decide +kernel
theorem dX11_ends_71 : decode cX11_ends 71 = .ok (.iload_n 1, 1) := by decide +kernel
theorem dX11_ends_72 : decode cX11_ends 72 = .ok (.invokevirtual 287, 3) := by decide +kernel
theorem dX11_ends_75 : decode cX11_ends 75 = .ok (.ifCond .eq 7, 3) := by decide +kernel
theorem dX11_ends_78 : decode cX11_ends 78 = .ok (.iconst 1, 1) := by decide +kernel
theorem dX11_ends_79 : decode cX11_ends 79 = .ok (.goto 4, 3) := by decide +kernel
theorem dX11_ends_82 : decode cX11_ends 82 = .ok (.iconst 0, 1) := by decide +kernel
theorem dX11_ends_83 : decode cX11_ends 83 = .ok (.iadd, 1) := by decide +kernel
theorem dX11_ends_84 : decode cX11_ends 84 = .ok (.istore_n 3, 1) := by decide +kernel
theorem dX11_ends_85 : decode cX11_ends 85 = .ok (.iinc 4 1, 3) := by decide +kernel
theorem dX11_ends_88 : decode cX11_ends 88 = .ok (.goto (-42), 3) := by decide +kernel
theorem dX11_ends_91 : decode cX11_ends 91 = .ok (.iload_n 3, 1) := by decide +kernel
theorem dX11_ends_92 : decode cX11_ends 92 = .ok (.ireturn, 1) := by decide +kernel
theorem dX11_knot_0 : decode cX11_knot 0 = .ok (.aload_n 0, 1) := by decide +kernel
theorem dX11_knot_1 : decode cX11_knot 1 = .ok (.iconst 0, 1) := by decide +kernel
theorem dX11_knot_2 : decode cX11_knot 2 = .ok (.putfield 86, 3) := by decide +kernel
theorem dX11_knot_5 : decode cX11_knot 5 = .ok (.iload_n 1, 1) := by decide +kernel
theorem dX11_knot_6 : decode cX11_knot 6 = .ok (.istore_n 2, 1) := by decide +kernel
theorem dX11_knot_7 : decode cX11_knot 7 = .ok (.iconst 0, 1) := by decide +kernel
theorem dX11_knot_8 : decode cX11_knot 8 = .ok (.istore_n 3, 1) := by decide +kernel
theorem dX11_knot_9 : decode cX11_knot 9 = .ok (.iload_n 3, 1) := by decide +kernel
theorem dX11_knot_10 : decode cX11_knot 10 = .ok (.sipush 144, 3) := by decide +kernel
theorem dX11_knot_13 : decode cX11_knot 13 = .ok (.if_icmp .ge 34, 3) := by decide +kernel
theorem dX11_knot_16 : decode cX11_knot 16 = .ok (.aload_n 0, 1) := by decide +kernel
theorem dX11_knot_17 : decode cX11_knot 17 = .ok (.getfield 9, 3) := by decide +kernel
theorem dX11_knot_20 : decode cX11_knot 20 = .ok (.sipush 248, 3) := by decide +kernel
theorem dX11_knot_23 : decode cX11_knot 23 = .ok (.iload_n 3, 1) := by decide +kernel
theorem dX11_knot_24 : decode cX11_knot 24 = .ok (.iadd, 1) := by decide +kernel
theorem dX11_knot_25 : decode cX11_knot 25 = .ok (.iaload, 1) := by decide +kernel
theorem dX11_knot_26 : decode cX11_knot 26 = .ok (.ifCond .ne 6, 3) := by decide +kernel
theorem dX11_knot_29 : decode cX11_knot 29 = .ok (.goto 12, 3) := by decide +kernel
theorem dX11_knot_32 : decode cX11_knot 32 = .ok (.iload_n 2, 1) := by decide +kernel
theorem dX11_knot_33 : decode cX11_knot 33 = .ok (.ifCond .ne 5, 3) := by decide +kernel
theorem dX11_knot_36 : decode cX11_knot 36 = .ok (.iload_n 3, 1) := by decide +kernel
theorem dX11_knot_37 : decode cX11_knot 37 = .ok (.ireturn, 1) := by decide +kernel
theorem dX11_knot_38 : decode cX11_knot 38 = .ok (.iinc 2 (-1), 3) := by decide +kernel
theorem dX11_knot_41 : decode cX11_knot 41 = .ok (.iinc 3 1, 3) := by decide +kernel
theorem dX11_knot_44 : decode cX11_knot 44 = .ok (.goto (-35), 3) := by decide +kernel
theorem dX11_knot_47 : decode cX11_knot 47 = .ok (.iconst (-1), 1) := by decide +kernel
theorem dX11_knot_48 : decode cX11_knot 48 = .ok (.ireturn, 1) := by decide +kernel
theorem dX11_layHangs_0 : decode cX11_layHangs 0 = .ok (.iconst 0, 1) := by decide +kernel
theorem dX11_layHangs_1 : decode cX11_layHangs 1 = .ok (.istore 4, 2) := by decide +kernel
theorem dX11_layHangs_3 : decode cX11_layHangs 3 = .ok (.iload 4, 2) := by decide +kernel
theorem dX11_layHangs_5 : decode cX11_layHangs 5 = .ok (.sipush 144, 3) := by decide +kernel
theorem dX11_layHangs_8 : decode cX11_layHangs 8 = .ok (.if_icmp .ge 27, 3) := by decide +kernel
theorem dX11_layHangs_11 : decode cX11_layHangs 11 = .ok (.aload_n 0, 1) := by decide +kernel
theorem dX11_layHangs_12 : decode cX11_layHangs 12 = .ok (.getfield 51, 3) := by decide +kernel
theorem dX11_layHangs_15 : decode cX11_layHangs 15 = .ok (.iload 4, 2) := by decide +kernel
theorem dX11_layHangs_17 : decode cX11_layHangs 17 = .ok (.iload 4, 2) := by decide +kernel
theorem dX11_layHangs_19 : decode cX11_layHangs 19 = .ok (.iload_n 1, 1) := by decide +kernel
theorem dX11_layHangs_20 : decode cX11_layHangs 20 = .ok (.if_icmp .ne 7, 3) := by decide +kernel
theorem dX11_layHangs_23 : decode cX11_layHangs 23 = .ok (.iconst 1, 1) := by decide +kernel
theorem dX11_layHangs_24 : decode cX11_layHangs 24 = .ok (.goto 4, 3) := by decide +kernel
theorem dX11_layHangs_27 : decode cX11_layHangs 27 = .ok (.iconst 0, 1) := by decide +kernel
theorem dX11_layHangs_28 : decode cX11_layHangs 28 = .ok (.bastore, 1) := by decide +kernel
theorem dX11_layHangs_29 : decode cX11_layHangs 29 = .ok (.iinc 4 1, 3) := by decide +kernel
theorem dX11_layHangs_32 : decode cX11_layHangs 32 = .ok (.goto (-29), 3) := by decide +kernel
theorem dX11_layHangs_35 : decode cX11_layHangs 35 = .ok (.iconst 0, 1) := by decide +kernel
theorem dX11_layHangs_36 : decode cX11_layHangs 36 = .ok (.istore 4, 2) := by decide +kernel
theorem dX11_layHangs_38 : decode cX11_layHangs 38 = .ok (.iload 4, 2) := by decide +kernel
theorem dX11_layHangs_40 : decode cX11_layHangs 40 = .ok (.aload_n 0, 1) := by decide +kernel
theorem dX11_layHangs_41 : decode cX11_layHangs 41 = .ok (.getfield 9, 3) := by decide +kernel
theorem dX11_layHangs_44 : decode cX11_layHangs 44 = .ok (.iconst 0, 1) := by decide +kernel
theorem dX11_layHangs_45 : decode cX11_layHangs 45 = .ok (.iaload, 1) := by decide +kernel
theorem dX11_layHangs_46 : decode cX11_layHangs 46 = .ok (.if_icmp .ge 17, 3) := by decide +kernel
theorem dX11_layHangs_49 : decode cX11_layHangs 49 = .ok (.aload_n 0, 1) := by decide +kernel
theorem dX11_layHangs_50 : decode cX11_layHangs 50 = .ok (.getfield 48, 3) := by decide +kernel
theorem dX11_layHangs_53 : decode cX11_layHangs 53 = .ok (.iload 4, 2) := by decide +kernel
theorem dX11_layHangs_55 : decode cX11_layHangs 55 = .ok (.iconst 0, 1) := by decide +kernel
theorem dX11_layHangs_56 : decode cX11_layHangs 56 = .ok (.bastore, 1) := by decide +kernel
theorem dX11_layHangs_57 : decode cX11_layHangs 57 = .ok (.iinc 4 1, 3) := by decide +kernel
theorem dX11_layHangs_60 : decode cX11_layHangs 60 = .ok (.goto (-22), 3) := by decide +kernel
theorem dX11_layHangs_63 : decode cX11_layHangs 63 = .ok (.iconst 1, 1) := by decide +kernel
theorem dX11_layHangs_64 : decode cX11_layHangs 64 = .ok (.istore 4, 2) := by decide +kernel
theorem dX11_layHangs_66 : decode cX11_layHangs 66 = .ok (.iload 4, 2) := by decide +kernel
theorem dX11_layHangs_68 : decode cX11_layHangs 68 = .ok (.ifCond .eq 129, 3) := by decide +kernel
theorem dX11_layHangs_71 : decode cX11_layHangs 71 = .ok (.iconst 0, 1) := by decide +kernel
theorem dX11_layHangs_72 : decode cX11_layHangs 72 = .ok (.istore 4, 2) := by decide +kernel
theorem dX11_layHangs_74 : decode cX11_layHangs 74 = .ok (.iconst 0, 1) := by decide +kernel
theorem dX11_layHangs_75 : decode cX11_layHangs 75 = .ok (.istore 5, 2) := by decide +kernel
theorem dX11_layHangs_77 : decode cX11_layHangs 77 = .ok (.iload 5, 2) := by decide +kernel
theorem dX11_layHangs_79 : decode cX11_layHangs 79 = .ok (.aload_n 0, 1) := by decide +kernel
theorem dX11_layHangs_80 : decode cX11_layHangs 80 = .ok (.getfield 9, 3) := by decide +kernel
theorem dX11_layHangs_83 : decode cX11_layHangs 83 = .ok (.iconst 0, 1) := by decide +kernel
theorem dX11_layHangs_84 : decode cX11_layHangs 84 = .ok (.iaload, 1) := by decide +kernel
theorem dX11_layHangs_85 : decode cX11_layHangs 85 = .ok (.if_icmp .ge 109, 3) := by decide +kernel
theorem dX11_layHangs_88 : decode cX11_layHangs 88 = .ok (.aload_n 0, 1) := by decide +kernel
theorem dX11_layHangs_89 : decode cX11_layHangs 89 = .ok (.getfield 48, 3) := by decide +kernel
theorem dX11_layHangs_92 : decode cX11_layHangs 92 = .ok (.iload 5, 2) := by decide +kernel
theorem dX11_layHangs_94 : decode cX11_layHangs 94 = .ok (.baload, 1) := by decide +kernel
theorem dX11_layHangs_95 : decode cX11_layHangs 95 = .ok (.ifCond .ne 93, 3) := by decide +kernel
theorem dX11_layHangs_98 : decode cX11_layHangs 98 = .ok (.aload_n 0, 1) := by decide +kernel
theorem dX11_layHangs_99 : decode cX11_layHangs 99 = .ok (.iload 5, 2) := by decide +kernel
theorem dX11_layHangs_101 : decode cX11_layHangs 101 = .ok (.invokevirtual 258, 3) := by decide +kernel
theorem dX11_layHangs_104 : decode cX11_layHangs 104 = .ok (.iload_n 2, 1) := by decide +kernel
theorem dX11_layHangs_105 : decode cX11_layHangs 105 = .ok (.if_icmp .ne 83, 3) := by decide +kernel
theorem dX11_layHangs_108 : decode cX11_layHangs 108 = .ok (.iload_n 3, 1) := by decide +kernel
theorem dX11_layHangs_109 : decode cX11_layHangs 109 = .ok (.ifCond .ne 13, 3) := by decide +kernel
theorem dX11_layHangs_112 : decode cX11_layHangs 112 = .ok (.aload_n 0, 1) := by decide +kernel
theorem dX11_layHangs_113 : decode cX11_layHangs 113 = .ok (.iload 5, 2) := by decide +kernel
theorem dX11_layHangs_115 : decode cX11_layHangs 115 = .ok (.invokevirtual 270, 3) := by decide +kernel
theorem dX11_layHangs_118 : decode cX11_layHangs 118 = .ok (.iconst 3, 1) := by decide +kernel
theorem dX11_layHangs_119 : decode cX11_layHangs 119 = .ok (.if_icmp .eq 69, 3) := by decide +kernel
theorem dX11_layHangs_122 : decode cX11_layHangs 122 = .ok (.aload_n 0, 1) := by decide +kernel
theorem dX11_layHangs_123 : decode cX11_layHangs 123 = .ok (.getfield 51, 3) := by decide +kernel
theorem dX11_layHangs_126 : decode cX11_layHangs 126 = .ok (.aload_n 0, 1) := by decide +kernel
theorem dX11_layHangs_127 : decode cX11_layHangs 127 = .ok (.iload 5, 2) := by decide +kernel
theorem dX11_layHangs_129 : decode cX11_layHangs 129 = .ok (.invokevirtual 261, 3) := by decide +kernel
theorem dX11_layHangs_132 : decode cX11_layHangs 132 = .ok (.baload, 1) := by decide +kernel
theorem dX11_layHangs_133 : decode cX11_layHangs 133 = .ok (.ifCond .ne 20, 3) := by decide +kernel
theorem dX11_layHangs_136 : decode cX11_layHangs 136 = .ok (.aload_n 0, 1) := by decide +kernel
theorem dX11_layHangs_137 : decode cX11_layHangs 137 = .ok (.getfield 51, 3) := by decide +kernel
theorem dX11_layHangs_140 : decode cX11_layHangs 140 = .ok (.aload_n 0, 1) := by decide +kernel
theorem dX11_layHangs_141 : decode cX11_layHangs 141 = .ok (.iload 5, 2) := by decide +kernel
theorem dX11_layHangs_143 : decode cX11_layHangs 143 = .ok (.invokevirtual 264, 3) := by decide +kernel
theorem dX11_layHangs_146 : decode cX11_layHangs 146 = .ok (.baload, 1) := by decide +kernel
theorem dX11_layHangs_147 : decode cX11_layHangs 147 = .ok (.ifCond .ne 6, 3) := by decide +kernel
theorem dX11_layHangs_150 : decode cX11_layHangs 150 = .ok (.goto 38, 3) := by decide +kernel
theorem dX11_layHangs_153 : decode cX11_layHangs 153 = .ok (.aload_n 0, 1) := by decide +kernel
theorem dX11_layHangs_154 : decode cX11_layHangs 154 = .ok (.getfield 48, 3) := by decide +kernel
theorem dX11_layHangs_157 : decode cX11_layHangs 157 = .ok (.iload 5, 2) := by decide +kernel
theorem dX11_layHangs_159 : decode cX11_layHangs 159 = .ok (.iconst 1, 1) := by decide +kernel
theorem dX11_layHangs_160 : decode cX11_layHangs 160 = .ok (.bastore, 1) := by decide +kernel
theorem dX11_layHangs_161 : decode cX11_layHangs 161 = .ok (.aload_n 0, 1) := by decide +kernel
theorem dX11_layHangs_162 : decode cX11_layHangs 162 = .ok (.getfield 51, 3) := by decide +kernel
theorem dX11_layHangs_165 : decode cX11_layHangs 165 = .ok (.aload_n 0, 1) := by decide +kernel
theorem dX11_layHangs_166 : decode cX11_layHangs 166 = .ok (.iload 5, 2) := by decide +kernel
theorem dX11_layHangs_168 : decode cX11_layHangs 168 = .ok (.invokevirtual 261, 3) := by decide +kernel
theorem dX11_layHangs_171 : decode cX11_layHangs 171 = .ok (.iconst 1, 1) := by decide +kernel
theorem dX11_layHangs_172 : decode cX11_layHangs 172 = .ok (.bastore, 1) := by decide +kernel
theorem dX11_layHangs_173 : decode cX11_layHangs 173 = .ok (.aload_n 0, 1) := by decide +kernel
theorem dX11_layHangs_174 : decode cX11_layHangs 174 = .ok (.getfield 51, 3) := by decide +kernel
theorem dX11_layHangs_177 : decode cX11_layHangs 177 = .ok (.aload_n 0, 1) := by decide +kernel
theorem dX11_layHangs_178 : decode cX11_layHangs 178 = .ok (.iload 5, 2) := by decide +kernel
theorem dX11_layHangs_180 : decode cX11_layHangs 180 = .ok (.invokevirtual 264, 3) := by decide +kernel
theorem dX11_layHangs_183 : decode cX11_layHangs 183 = .ok (.iconst 1, 1) := by decide +kernel
theorem dX11_layHangs_184 : decode cX11_layHangs 184 = .ok (.bastore, 1) := by decide +kernel
theorem dX11_layHangs_185 : decode cX11_layHangs 185 = .ok (.iconst 1, 1) := by decide +kernel
theorem dX11_layHangs_186 : decode cX11_layHangs 186 = .ok (.istore 4, 2) := by decide +kernel
theorem dX11_layHangs_188 : decode cX11_layHangs 188 = .ok (.iinc 5 1, 3) := by decide +kernel
theorem dX11_layHangs_191 : decode cX11_layHangs 191 = .ok (.goto (-114), 3) := by decide +kernel
theorem dX11_layHangs_194 : decode cX11_layHangs 194 = .ok (.goto (-128), 3) := by decide +kernel
theorem dX11_layHangs_197 : decode cX11_layHangs 197 = .ok (.return_, 1) := by decide +kernel
theorem dX11_firstOf_0 : decode cX11_firstOf 0 = .ok (.aload_n 0, 1) := by decide +kernel
theorem dX11_firstOf_1 : decode cX11_firstOf 1 = .ok (.aload_n 0, 1) := by decide +kernel
theorem dX11_firstOf_2 : decode cX11_firstOf 2 = .ok (.iload_n 1, 1) := by decide +kernel
theorem dX11_firstOf_3 : decode cX11_firstOf 3 = .ok (.invokevirtual 261, 3) := by decide +kernel
theorem dX11_firstOf_6 : decode cX11_firstOf 6 = .ok (.aload_n 0, 1) := by decide +kernel
theorem dX11_firstOf_7 : decode cX11_firstOf 7 = .ok (.iload_n 1, 1) := by decide +kernel
theorem dX11_firstOf_8 : decode cX11_firstOf 8 = .ok (.invokevirtual 258, 3) := by decide +kernel
theorem dX11_firstOf_11 : decode cX11_firstOf 11 = .ok (.iconst 1, 1) := by decide +kernel
theorem dX11_firstOf_12 : decode cX11_firstOf 12 = .ok (.invokevirtual 290, 3) := by decide +kernel
theorem dX11_firstOf_15 : decode cX11_firstOf 15 = .ok (.iconst 0, 1) := by decide +kernel
theorem dX11_firstOf_16 : decode cX11_firstOf 16 = .ok (.istore_n 2, 1) := by decide +kernel
theorem dX11_firstOf_17 : decode cX11_firstOf 17 = .ok (.aload_n 0, 1) := by decide +kernel
theorem dX11_firstOf_18 : decode cX11_firstOf 18 = .ok (.getfield 48, 3) := by decide +kernel
theorem dX11_firstOf_21 : decode cX11_firstOf 21 = .ok (.iload_n 2, 1) := by decide +kernel
theorem dX11_firstOf_22 : decode cX11_firstOf 22 = .ok (.baload, 1) := by decide +kernel
theorem dX11_firstOf_23 : decode cX11_firstOf 23 = .ok (.ifCond .ne 9, 3) := by decide +kernel
theorem dX11_firstOf_26 : decode cX11_firstOf 26 = .ok (.iinc 2 1, 3) := by decide +kernel
theorem dX11_firstOf_29 : decode cX11_firstOf 29 = .ok (.goto (-12), 3) := by decide +kernel
theorem dX11_firstOf_32 : decode cX11_firstOf 32 = .ok (.iload_n 2, 1) := by decide +kernel
theorem dX11_firstOf_33 : decode cX11_firstOf 33 = .ok (.ireturn, 1) := by decide +kernel
theorem dX11_parts_0 : decode cX11_parts 0 = .ok (.aload_n 0, 1) := by decide +kernel
theorem dX11_parts_1 : decode cX11_parts 1 = .ok (.iload_n 1, 1) := by decide +kernel
theorem dX11_parts_2 : decode cX11_parts 2 = .ok (.invokestatic 280, 3) := by decide +kernel
theorem dX11_parts_5 : decode cX11_parts 5 = .ok (.ifCond .eq 7, 3) := by decide +kernel
theorem dX11_parts_8 : decode cX11_parts 8 = .ok (.iconst 0, 1) := by decide +kernel
theorem dX11_parts_9 : decode cX11_parts 9 = .ok (.goto 4, 3) := by decide +kernel
theorem dX11_parts_12 : decode cX11_parts 12 = .ok (.iconst 1, 1) := by decide +kernel
theorem dX11_parts_13 : decode cX11_parts 13 = .ok (.putfield 86, 3) := by decide +kernel
theorem dX11_parts_16 : decode cX11_parts 16 = .ok (.aload_n 0, 1) := by decide +kernel
theorem dX11_parts_17 : decode cX11_parts 17 = .ok (.getfield 86, 3) := by decide +kernel
theorem dX11_parts_20 : decode cX11_parts 20 = .ok (.ifCond .le 5, 3) := by decide +kernel
theorem dX11_parts_23 : decode cX11_parts 23 = .ok (.iconst 0, 1) := by decide +kernel
theorem dX11_parts_24 : decode cX11_parts 24 = .ok (.ireturn, 1) := by decide +kernel
theorem dX11_parts_25 : decode cX11_parts 25 = .ok (.iconst 0, 1) := by decide +kernel
theorem dX11_parts_26 : decode cX11_parts 26 = .ok (.istore_n 2, 1) := by decide +kernel
theorem dX11_parts_27 : decode cX11_parts 27 = .ok (.iconst 0, 1) := by decide +kernel
theorem dX11_parts_28 : decode cX11_parts 28 = .ok (.istore_n 3, 1) := by decide +kernel
theorem dX11_parts_29 : decode cX11_parts 29 = .ok (.iload_n 3, 1) := by decide +kernel
theorem dX11_parts_30 : decode cX11_parts 30 = .ok (.aload_n 0, 1) := by decide +kernel
theorem dX11_parts_31 : decode cX11_parts 31 = .ok (.getfield 9, 3) := by decide +kernel
theorem dX11_parts_34 : decode cX11_parts 34 = .ok (.iconst 0, 1) := by decide +kernel
theorem dX11_parts_35 : decode cX11_parts 35 = .ok (.iaload, 1) := by decide +kernel
theorem dX11_parts_36 : decode cX11_parts 36 = .ok (.if_icmp .ge 35, 3) := by decide +kernel
theorem dX11_parts_39 : decode cX11_parts 39 = .ok (.iload_n 2, 1) := by decide +kernel
theorem dX11_parts_40 : decode cX11_parts 40 = .ok (.aload_n 0, 1) := by decide +kernel
theorem dX11_parts_41 : decode cX11_parts 41 = .ok (.iload_n 3, 1) := by decide +kernel
theorem dX11_parts_42 : decode cX11_parts 42 = .ok (.invokevirtual 258, 3) := by decide +kernel
theorem dX11_parts_45 : decode cX11_parts 45 = .ok (.iload_n 1, 1) := by decide +kernel
theorem dX11_parts_46 : decode cX11_parts 46 = .ok (.if_icmp .ne 16, 3) := by decide +kernel
theorem dX11_parts_49 : decode cX11_parts 49 = .ok (.aload_n 0, 1) := by decide +kernel
theorem dX11_parts_50 : decode cX11_parts 50 = .ok (.iload_n 3, 1) := by decide +kernel
theorem dX11_parts_51 : decode cX11_parts 51 = .ok (.invokevirtual 294, 3) := by decide +kernel
theorem dX11_parts_54 : decode cX11_parts 54 = .ok (.iload_n 3, 1) := by decide +kernel
theorem dX11_parts_55 : decode cX11_parts 55 = .ok (.if_icmp .ne 7, 3) := by decide +kernel
theorem dX11_parts_58 : decode cX11_parts 58 = .ok (.iconst 1, 1) := by decide +kernel
theorem dX11_parts_59 : decode cX11_parts 59 = .ok (.goto 4, 3) := by decide +kernel
theorem dX11_parts_62 : decode cX11_parts 62 = .ok (.iconst 0, 1) := by decide +kernel
theorem dX11_parts_63 : decode cX11_parts 63 = .ok (.iadd, 1) := by decide +kernel
theorem dX11_parts_64 : decode cX11_parts 64 = .ok (.istore_n 2, 1) := by decide +kernel
theorem dX11_parts_65 : decode cX11_parts 65 = .ok (.iinc 3 1, 3) := by decide +kernel
theorem dX11_parts_68 : decode cX11_parts 68 = .ok (.goto (-39), 3) := by decide +kernel
theorem dX11_parts_71 : decode cX11_parts 71 = .ok (.iload_n 2, 1) := by decide +kernel
theorem dX11_parts_72 : decode cX11_parts 72 = .ok (.ireturn, 1) := by decide +kernel
theorem dX11_partOf_0 : decode cX11_partOf 0 = .ok (.aload_n 0, 1) := by decide +kernel
theorem dX11_partOf_1 : decode cX11_partOf 1 = .ok (.iconst 0, 1) := by decide +kernel
theorem dX11_partOf_2 : decode cX11_partOf 2 = .ok (.putfield 86, 3) := by decide +kernel
theorem dX11_partOf_5 : decode cX11_partOf 5 = .ok (.aload_n 0, 1) := by decide +kernel
theorem dX11_partOf_6 : decode cX11_partOf 6 = .ok (.iload_n 1, 1) := by decide +kernel
theorem dX11_partOf_7 : decode cX11_partOf 7 = .ok (.invokevirtual 267, 3) := by decide +kernel
theorem dX11_partOf_10 : decode cX11_partOf 10 = .ok (.ifCond .eq 11, 3) := by decide +kernel
theorem dX11_partOf_13 : decode cX11_partOf 13 = .ok (.aload_n 0, 1) := by decide +kernel
theorem dX11_partOf_14 : decode cX11_partOf 14 = .ok (.iload_n 1, 1) := by decide +kernel
theorem dX11_partOf_15 : decode cX11_partOf 15 = .ok (.invokevirtual 294, 3) := by decide +kernel
theorem dX11_partOf_18 : decode cX11_partOf 18 = .ok (.goto 8, 3) := by decide +kernel
theorem dX11_partOf_21 : decode cX11_partOf 21 = .ok (.aload_n 0, 1) := by decide +kernel
theorem dX11_partOf_22 : decode cX11_partOf 22 = .ok (.iconst 1, 1) := by decide +kernel
theorem dX11_partOf_23 : decode cX11_partOf 23 = .ok (.invokevirtual 245, 3) := by decide +kernel
theorem dX11_partOf_26 : decode cX11_partOf 26 = .ok (.ireturn, 1) := by decide +kernel
theorem dX11_isSlant_0 : decode cX11_isSlant 0 = .ok (.aload_n 0, 1) := by decide +kernel
theorem dX11_isSlant_1 : decode cX11_isSlant 1 = .ok (.getfield 9, 3) := by decide +kernel
theorem dX11_isSlant_4 : decode cX11_isSlant 4 = .ok (.bipush 8, 2) := by decide +kernel
theorem dX11_isSlant_6 : decode cX11_isSlant 6 = .ok (.iconst 4, 1) := by decide +kernel
theorem dX11_isSlant_7 : decode cX11_isSlant 7 = .ok (.iload_n 1, 1) := by decide +kernel
theorem dX11_isSlant_8 : decode cX11_isSlant 8 = .ok (.imul, 1) := by decide +kernel
theorem dX11_isSlant_9 : decode cX11_isSlant 9 = .ok (.iadd, 1) := by decide +kernel
theorem dX11_isSlant_10 : decode cX11_isSlant 10 = .ok (.iconst 1, 1) := by decide +kernel
theorem dX11_isSlant_11 : decode cX11_isSlant 11 = .ok (.iadd, 1) := by decide +kernel
theorem dX11_isSlant_12 : decode cX11_isSlant 12 = .ok (.iaload, 1) := by decide +kernel
theorem dX11_isSlant_13 : decode cX11_isSlant 13 = .ok (.iconst 2, 1) := by decide +kernel
theorem dX11_isSlant_14 : decode cX11_isSlant 14 = .ok (.irem, 1) := by decide +kernel
theorem dX11_isSlant_15 : decode cX11_isSlant 15 = .ok (.iconst 1, 1) := by decide +kernel
theorem dX11_isSlant_16 : decode cX11_isSlant 16 = .ok (.if_icmp .ne 7, 3) := by decide +kernel
theorem dX11_isSlant_19 : decode cX11_isSlant 19 = .ok (.iconst 1, 1) := by decide +kernel
theorem dX11_isSlant_20 : decode cX11_isSlant 20 = .ok (.goto 4, 3) := by decide +kernel
theorem dX11_isSlant_23 : decode cX11_isSlant 23 = .ok (.iconst 0, 1) := by decide +kernel
theorem dX11_isSlant_24 : decode cX11_isSlant 24 = .ok (.ireturn, 1) := by decide +kernel
theorem dX11_length_0 : decode cX11_length 0 = .ok (.aload_n 0, 1) := by decide +kernel
theorem dX11_length_1 : decode cX11_length 1 = .ok (.iload_n 1, 1) := by decide +kernel
theorem dX11_length_2 : decode cX11_length 2 = .ok (.iconst (-1), 1) := by decide +kernel
theorem dX11_length_3 : decode cX11_length 3 = .ok (.if_icmp .eq 10, 3) := by decide +kernel
theorem dX11_length_6 : decode cX11_length 6 = .ok (.iload_n 1, 1) := by decide +kernel
theorem dX11_length_7 : decode cX11_length 7 = .ok (.invokestatic 280, 3) := by decide +kernel
theorem dX11_length_10 : decode cX11_length 10 = .ok (.ifCond .eq 7, 3) := by decide +kernel
theorem dX11_length_13 : decode cX11_length 13 = .ok (.iconst 0, 1) := by decide +kernel
theorem dX11_length_14 : decode cX11_length 14 = .ok (.goto 4, 3) := by decide +kernel
theorem dX11_length_17 : decode cX11_length 17 = .ok (.iconst 1, 1) := by decide +kernel
theorem dX11_length_18 : decode cX11_length 18 = .ok (.putfield 86, 3) := by decide +kernel
theorem dX11_length_21 : decode cX11_length 21 = .ok (.aload_n 0, 1) := by decide +kernel
theorem dX11_length_22 : decode cX11_length 22 = .ok (.getfield 86, 3) := by decide +kernel
theorem dX11_length_25 : decode cX11_length 25 = .ok (.ifCond .le 5, 3) := by decide +kernel
theorem dX11_length_28 : decode cX11_length 28 = .ok (.iconst 0, 1) := by decide +kernel
theorem dX11_length_29 : decode cX11_length 29 = .ok (.ireturn, 1) := by decide +kernel
theorem dX11_length_30 : decode cX11_length 30 = .ok (.iconst 0, 1) := by decide +kernel
theorem dX11_length_31 : decode cX11_length 31 = .ok (.istore_n 2, 1) := by decide +kernel
theorem dX11_length_32 : decode cX11_length 32 = .ok (.iconst 0, 1) := by decide +kernel
theorem dX11_length_33 : decode cX11_length 33 = .ok (.istore_n 3, 1) := by decide +kernel
theorem dX11_length_34 : decode cX11_length 34 = .ok (.iload_n 3, 1) := by decide +kernel
theorem dX11_length_35 : decode cX11_length 35 = .ok (.aload_n 0, 1) := by decide +kernel
theorem dX11_length_36 : decode cX11_length 36 = .ok (.getfield 9, 3) := by decide +kernel
theorem dX11_length_39 : decode cX11_length 39 = .ok (.iconst 0, 1) := by decide +kernel
theorem dX11_length_40 : decode cX11_length 40 = .ok (.iaload, 1) := by decide +kernel
theorem dX11_length_41 : decode cX11_length 41 = .ok (.if_icmp .ge 42, 3) := by decide +kernel
theorem dX11_length_44 : decode cX11_length 44 = .ok (.iload_n 2, 1) := by decide +kernel
theorem dX11_length_45 : decode cX11_length 45 = .ok (.aload_n 0, 1) := by decide +kernel
theorem dX11_length_46 : decode cX11_length 46 = .ok (.iload_n 3, 1) := by decide +kernel
theorem dX11_length_47 : decode cX11_length 47 = .ok (.iload_n 1, 1) := by decide +kernel
theorem dX11_length_48 : decode cX11_length 48 = .ok (.invokevirtual 283, 3) := by decide +kernel
theorem dX11_length_51 : decode cX11_length 51 = .ok (.ifCond .eq 23, 3) := by decide +kernel
theorem dX11_length_54 : decode cX11_length 54 = .ok (.iconst 2, 1) := by decide +kernel
theorem dX11_length_55 : decode cX11_length 55 = .ok (.aload_n 0, 1) := by decide +kernel
theorem dX11_length_56 : decode cX11_length 56 = .ok (.iload_n 3, 1) := by decide +kernel
theorem dX11_length_57 : decode cX11_length 57 = .ok (.invokevirtual 297, 3) := by decide +kernel
theorem dX11_length_60 : decode cX11_length 60 = .ok (.ifCond .eq 8, 3) := by decide +kernel
theorem dX11_length_63 : decode cX11_length 63 = .ok (.bipush 14, 2) := by decide +kernel
theorem dX11_length_65 : decode cX11_length 65 = .ok (.goto 5, 3) := by decide +kernel
theorem dX11_length_68 : decode cX11_length 68 = .ok (.bipush 10, 2) := by decide +kernel
theorem dX11_length_70 : decode cX11_length 70 = .ok (.imul, 1) := by decide +kernel
theorem dX11_length_71 : decode cX11_length 71 = .ok (.goto 4, 3) := by decide +kernel
theorem dX11_length_74 : decode cX11_length 74 = .ok (.iconst 0, 1) := by decide +kernel
theorem dX11_length_75 : decode cX11_length 75 = .ok (.iadd, 1) := by decide +kernel
theorem dX11_length_76 : decode cX11_length 76 = .ok (.istore_n 2, 1) := by decide +kernel
theorem dX11_length_77 : decode cX11_length 77 = .ok (.iinc 3 1, 3) := by decide +kernel
theorem dX11_length_80 : decode cX11_length 80 = .ok (.goto (-46), 3) := by decide +kernel
theorem dX11_length_83 : decode cX11_length 83 = .ok (.iload_n 2, 1) := by decide +kernel
theorem dX11_length_84 : decode cX11_length 84 = .ok (.ireturn, 1) := by decide +kernel
theorem dX11_square_0 : decode cX11_square 0 = .ok (.aload_n 0, 1) := by decide +kernel
theorem dX11_square_1 : decode cX11_square 1 = .ok (.iload_n 1, 1) := by decide +kernel
theorem dX11_square_2 : decode cX11_square 2 = .ok (.invokevirtual 261, 3) := by decide +kernel
theorem dX11_square_5 : decode cX11_square 5 = .ok (.bipush 12, 2) := by decide +kernel
theorem dX11_square_7 : decode cX11_square 7 = .ok (.irem, 1) := by decide +kernel
theorem dX11_square_8 : decode cX11_square 8 = .ok (.aload_n 0, 1) := by decide +kernel
theorem dX11_square_9 : decode cX11_square 9 = .ok (.iload_n 1, 1) := by decide +kernel
theorem dX11_square_10 : decode cX11_square 10 = .ok (.invokevirtual 264, 3) := by decide +kernel
theorem dX11_square_13 : decode cX11_square 13 = .ok (.bipush 12, 2) := by decide +kernel
theorem dX11_square_15 : decode cX11_square 15 = .ok (.irem, 1) := by decide +kernel
theorem dX11_square_16 : decode cX11_square 16 = .ok (.invokestatic 300, 3) := by decide +kernel
theorem dX11_square_19 : decode cX11_square 19 = .ok (.istore_n 2, 1) := by decide +kernel
theorem dX11_square_20 : decode cX11_square 20 = .ok (.aload_n 0, 1) := by decide +kernel
theorem dX11_square_21 : decode cX11_square 21 = .ok (.iload_n 1, 1) := by decide +kernel
theorem dX11_square_22 : decode cX11_square 22 = .ok (.invokevirtual 261, 3) := by decide +kernel
theorem dX11_square_25 : decode cX11_square 25 = .ok (.bipush 12, 2) := by decide +kernel
theorem dX11_square_27 : decode cX11_square 27 = .ok (.idiv, 1) := by decide +kernel
theorem dX11_square_28 : decode cX11_square 28 = .ok (.aload_n 0, 1) := by decide +kernel
theorem dX11_square_29 : decode cX11_square 29 = .ok (.iload_n 1, 1) := by decide +kernel
theorem dX11_square_30 : decode cX11_square 30 = .ok (.invokevirtual 264, 3) := by decide +kernel
theorem dX11_square_33 : decode cX11_square 33 = .ok (.bipush 12, 2) := by decide +kernel
theorem dX11_square_35 : decode cX11_square 35 = .ok (.idiv, 1) := by decide +kernel
theorem dX11_square_36 : decode cX11_square 36 = .ok (.invokestatic 300, 3) := by decide +kernel
theorem dX11_square_39 : decode cX11_square 39 = .ok (.istore_n 3, 1) := by decide +kernel
theorem dX11_square_40 : decode cX11_square 40 = .ok (.bipush 12, 2) := by decide +kernel
theorem dX11_square_42 : decode cX11_square 42 = .ok (.iload_n 3, 1) := by decide +kernel
theorem dX11_square_43 : decode cX11_square 43 = .ok (.imul, 1) := by decide +kernel
theorem dX11_square_44 : decode cX11_square 44 = .ok (.iload_n 2, 1) := by decide +kernel
theorem dX11_square_45 : decode cX11_square 45 = .ok (.iadd, 1) := by decide +kernel
theorem dX11_square_46 : decode cX11_square 46 = .ok (.ireturn, 1) := by decide +kernel
theorem dX11_crossings_0 : decode cX11_crossings 0 = .ok (.aload_n 0, 1) := by decide +kernel
theorem dX11_crossings_1 : decode cX11_crossings 1 = .ok (.iconst 0, 1) := by decide +kernel
theorem dX11_crossings_2 : decode cX11_crossings 2 = .ok (.putfield 86, 3) := by decide +kernel
theorem dX11_crossings_5 : decode cX11_crossings 5 = .ok (.iconst 0, 1) := by decide +kernel
theorem dX11_crossings_6 : decode cX11_crossings 6 = .ok (.istore_n 2, 1) := by decide +kernel
theorem dX11_crossings_7 : decode cX11_crossings 7 = .ok (.iconst 0, 1) := by decide +kernel
theorem dX11_crossings_8 : decode cX11_crossings 8 = .ok (.istore_n 3, 1) := by decide +kernel
theorem dX11_crossings_9 : decode cX11_crossings 9 = .ok (.iload_n 3, 1) := by decide +kernel
theorem dX11_crossings_10 : decode cX11_crossings 10 = .ok (.aload_n 0, 1) := by decide +kernel
theorem dX11_crossings_11 : decode cX11_crossings 11 = .ok (.getfield 9, 3) := by decide +kernel
theorem dX11_crossings_14 : decode cX11_crossings 14 = .ok (.iconst 0, 1) := by decide +kernel
theorem dX11_crossings_15 : decode cX11_crossings 15 = .ok (.iaload, 1) := by decide +kernel
theorem dX11_crossings_16 : decode cX11_crossings 16 = .ok (.if_icmp .ge 81, 3) := by decide +kernel
theorem dX11_crossings_19 : decode cX11_crossings 19 = .ok (.iconst 0, 1) := by decide +kernel
theorem dX11_crossings_20 : decode cX11_crossings 20 = .ok (.istore 4, 2) := by decide +kernel
theorem dX11_crossings_22 : decode cX11_crossings 22 = .ok (.iload 4, 2) := by decide +kernel
theorem dX11_crossings_24 : decode cX11_crossings 24 = .ok (.iload_n 3, 1) := by decide +kernel
theorem dX11_crossings_25 : decode cX11_crossings 25 = .ok (.if_icmp .ge 66, 3) := by decide +kernel
theorem dX11_crossings_28 : decode cX11_crossings 28 = .ok (.iload_n 2, 1) := by decide +kernel
theorem dX11_crossings_29 : decode cX11_crossings 29 = .ok (.aload_n 0, 1) := by decide +kernel
theorem dX11_crossings_30 : decode cX11_crossings 30 = .ok (.iload_n 3, 1) := by decide +kernel
theorem dX11_crossings_31 : decode cX11_crossings 31 = .ok (.invokevirtual 297, 3) := by decide +kernel
theorem dX11_crossings_34 : decode cX11_crossings 34 = .ok (.ifCond .eq 48, 3) := by decide +kernel
theorem dX11_crossings_37 : decode cX11_crossings 37 = .ok (.aload_n 0, 1) := by decide +kernel
theorem dX11_crossings_38 : decode cX11_crossings 38 = .ok (.iload 4, 2) := by decide +kernel
theorem dX11_crossings_40 : decode cX11_crossings 40 = .ok (.invokevirtual 297, 3) := by decide +kernel
theorem dX11_crossings_43 : decode cX11_crossings 43 = .ok (.ifCond .eq 39, 3) := by decide +kernel
theorem dX11_crossings_46 : decode cX11_crossings 46 = .ok (.aload_n 0, 1) := by decide +kernel
theorem dX11_crossings_47 : decode cX11_crossings 47 = .ok (.iload_n 3, 1) := by decide +kernel
theorem dX11_crossings_48 : decode cX11_crossings 48 = .ok (.invokevirtual 305, 3) := by decide +kernel
theorem dX11_crossings_51 : decode cX11_crossings 51 = .ok (.aload_n 0, 1) := by decide +kernel
theorem dX11_crossings_52 : decode cX11_crossings 52 = .ok (.iload 4, 2) := by decide +kernel
theorem dX11_crossings_54 : decode cX11_crossings 54 = .ok (.invokevirtual 305, 3) := by decide +kernel
theorem dX11_crossings_57 : decode cX11_crossings 57 = .ok (.if_icmp .ne 25, 3) := by decide +kernel
theorem dX11_crossings_60 : decode cX11_crossings 60 = .ok (.iload_n 1, 1) := by decide +kernel
theorem dX11_crossings_61 : decode cX11_crossings 61 = .ok (.ifCond .eq 17, 3) := by decide +kernel
theorem dX11_crossings_64 : decode cX11_crossings 64 = .ok (.aload_n 0, 1) := by decide +kernel
theorem dX11_crossings_65 : decode cX11_crossings 65 = .ok (.iload_n 3, 1) := by decide +kernel
theorem dX11_crossings_66 : decode cX11_crossings 66 = .ok (.invokevirtual 258, 3) := by decide +kernel
theorem dX11_crossings_69 : decode cX11_crossings 69 = .ok (.aload_n 0, 1) := by decide +kernel
theorem dX11_crossings_70 : decode cX11_crossings 70 = .ok (.iload 4, 2) := by decide +kernel
theorem dX11_crossings_72 : decode cX11_crossings 72 = .ok (.invokevirtual 258, 3) := by decide +kernel
theorem dX11_crossings_75 : decode cX11_crossings 75 = .ok (.if_icmp .eq 7, 3) := by decide +kernel
theorem dX11_crossings_78 : decode cX11_crossings 78 = .ok (.iconst 1, 1) := by decide +kernel
theorem dX11_crossings_79 : decode cX11_crossings 79 = .ok (.goto 4, 3) := by decide +kernel
theorem dX11_crossings_82 : decode cX11_crossings 82 = .ok (.iconst 0, 1) := by decide +kernel
theorem dX11_crossings_83 : decode cX11_crossings 83 = .ok (.iadd, 1) := by decide +kernel
theorem dX11_crossings_84 : decode cX11_crossings 84 = .ok (.istore_n 2, 1) := by decide +kernel
theorem dX11_crossings_85 : decode cX11_crossings 85 = .ok (.iinc 4 1, 3) := by decide +kernel
theorem dX11_crossings_88 : decode cX11_crossings 88 = .ok (.goto (-66), 3) := by decide +kernel
theorem dX11_crossings_91 : decode cX11_crossings 91 = .ok (.iinc 3 1, 3) := by decide +kernel
theorem dX11_crossings_94 : decode cX11_crossings 94 = .ok (.goto (-85), 3) := by decide +kernel
theorem dX11_crossings_97 : decode cX11_crossings 97 = .ok (.iload_n 2, 1) := by decide +kernel
theorem dX11_crossings_98 : decode cX11_crossings 98 = .ok (.ireturn, 1) := by decide +kernel
theorem dX11_changedX_0 : decode cX11_changedX 0 = .ok (.iload_n 0, 1) := by decide +kernel
theorem dX11_changedX_1 : decode cX11_changedX 1 = .ok (.ifCond .ne 8, 3) := by decide +kernel
theorem dX11_changedX_4 : decode cX11_changedX 4 = .ok (.iload_n 2, 1) := by decide +kernel
theorem dX11_changedX_5 : decode cX11_changedX 5 = .ok (.ineg, 1) := by decide +kernel
theorem dX11_changedX_6 : decode cX11_changedX 6 = .ok (.goto 19, 3) := by decide +kernel
theorem dX11_changedX_9 : decode cX11_changedX 9 = .ok (.iload_n 0, 1) := by decide +kernel
theorem dX11_changedX_10 : decode cX11_changedX 10 = .ok (.iconst 1, 1) := by decide +kernel
theorem dX11_changedX_11 : decode cX11_changedX 11 = .ok (.if_icmp .eq 8, 3) := by decide +kernel
theorem dX11_changedX_14 : decode cX11_changedX 14 = .ok (.iload_n 0, 1) := by decide +kernel
theorem dX11_changedX_15 : decode cX11_changedX 15 = .ok (.iconst 2, 1) := by decide +kernel
theorem dX11_changedX_16 : decode cX11_changedX 16 = .ok (.if_icmp .ne 8, 3) := by decide +kernel
theorem dX11_changedX_19 : decode cX11_changedX 19 = .ok (.iload_n 1, 1) := by decide +kernel
theorem dX11_changedX_20 : decode cX11_changedX 20 = .ok (.ineg, 1) := by decide +kernel
theorem dX11_changedX_21 : decode cX11_changedX 21 = .ok (.goto 4, 3) := by decide +kernel
theorem dX11_changedX_24 : decode cX11_changedX 24 = .ok (.iload_n 1, 1) := by decide +kernel
theorem dX11_changedX_25 : decode cX11_changedX 25 = .ok (.ireturn, 1) := by decide +kernel
theorem dX11_changedY_0 : decode cX11_changedY 0 = .ok (.iload_n 0, 1) := by decide +kernel
theorem dX11_changedY_1 : decode cX11_changedY 1 = .ok (.ifCond .ne 7, 3) := by decide +kernel
theorem dX11_changedY_4 : decode cX11_changedY 4 = .ok (.iload_n 1, 1) := by decide +kernel
theorem dX11_changedY_5 : decode cX11_changedY 5 = .ok (.goto 19, 3) := by decide +kernel
theorem dX11_changedY_8 : decode cX11_changedY 8 = .ok (.iload_n 0, 1) := by decide +kernel
theorem dX11_changedY_9 : decode cX11_changedY 9 = .ok (.iconst 1, 1) := by decide +kernel
theorem dX11_changedY_10 : decode cX11_changedY 10 = .ok (.if_icmp .eq 8, 3) := by decide +kernel
theorem dX11_changedY_13 : decode cX11_changedY 13 = .ok (.iload_n 0, 1) := by decide +kernel
theorem dX11_changedY_14 : decode cX11_changedY 14 = .ok (.iconst 3, 1) := by decide +kernel
theorem dX11_changedY_15 : decode cX11_changedY 15 = .ok (.if_icmp .ne 8, 3) := by decide +kernel
theorem dX11_changedY_18 : decode cX11_changedY 18 = .ok (.iload_n 2, 1) := by decide +kernel
theorem dX11_changedY_19 : decode cX11_changedY 19 = .ok (.ineg, 1) := by decide +kernel
theorem dX11_changedY_20 : decode cX11_changedY 20 = .ok (.goto 4, 3) := by decide +kernel
theorem dX11_changedY_23 : decode cX11_changedY 23 = .ok (.iload_n 2, 1) := by decide +kernel
theorem dX11_changedY_24 : decode cX11_changedY 24 = .ok (.ireturn, 1) := by decide +kernel
theorem dX11_least_0 : decode cX11_least 0 = .ok (.bipush 100, 2) := by decide +kernel
theorem dX11_least_2 : decode cX11_least 2 = .ok (.istore_n 3, 1) := by decide +kernel
theorem dX11_least_3 : decode cX11_least 3 = .ok (.iconst 0, 1) := by decide +kernel
theorem dX11_least_4 : decode cX11_least 4 = .ok (.istore 4, 2) := by decide +kernel
theorem dX11_least_6 : decode cX11_least 6 = .ok (.iload 4, 2) := by decide +kernel
theorem dX11_least_8 : decode cX11_least 8 = .ok (.iconst 2, 1) := by decide +kernel
theorem dX11_least_9 : decode cX11_least 9 = .ok (.aload_n 0, 1) := by decide +kernel
theorem dX11_least_10 : decode cX11_least 10 = .ok (.getfield 9, 3) := by decide +kernel
theorem dX11_least_13 : decode cX11_least 13 = .ok (.iconst 0, 1) := by decide +kernel
theorem dX11_least_14 : decode cX11_least 14 = .ok (.iaload, 1) := by decide +kernel
theorem dX11_least_15 : decode cX11_least 15 = .ok (.imul, 1) := by decide +kernel
theorem dX11_least_16 : decode cX11_least 16 = .ok (.if_icmp .ge 98, 3) := by decide +kernel
theorem dX11_least_19 : decode cX11_least 19 = .ok (.iload 4, 2) := by decide +kernel
theorem dX11_least_21 : decode cX11_least 21 = .ok (.iconst 2, 1) := by decide +kernel
theorem dX11_least_22 : decode cX11_least 22 = .ok (.irem, 1) := by decide +kernel
theorem dX11_least_23 : decode cX11_least 23 = .ok (.ifCond .ne 14, 3) := by decide +kernel
theorem dX11_least_26 : decode cX11_least 26 = .ok (.aload_n 0, 1) := by decide +kernel
theorem dX11_least_27 : decode cX11_least 27 = .ok (.iload 4, 2) := by decide +kernel
theorem dX11_least_29 : decode cX11_least 29 = .ok (.iconst 2, 1) := by decide +kernel
theorem dX11_least_30 : decode cX11_least 30 = .ok (.idiv, 1) := by decide +kernel
theorem dX11_least_31 : decode cX11_least 31 = .ok (.invokevirtual 261, 3) := by decide +kernel
theorem dX11_least_34 : decode cX11_least 34 = .ok (.goto 11, 3) := by decide +kernel
theorem dX11_least_37 : decode cX11_least 37 = .ok (.aload_n 0, 1) := by decide +kernel
theorem dX11_least_38 : decode cX11_least 38 = .ok (.iload 4, 2) := by decide +kernel
theorem dX11_least_40 : decode cX11_least 40 = .ok (.iconst 2, 1) := by decide +kernel
theorem dX11_least_41 : decode cX11_least 41 = .ok (.idiv, 1) := by decide +kernel
theorem dX11_least_42 : decode cX11_least 42 = .ok (.invokevirtual 264, 3) := by decide +kernel
theorem dX11_least_45 : decode cX11_least 45 = .ok (.istore 5, 2) := by decide +kernel
theorem dX11_least_47 : decode cX11_least 47 = .ok (.iload 5, 2) := by decide +kernel
theorem dX11_least_49 : decode cX11_least 49 = .ok (.bipush 12, 2) := by decide +kernel
theorem dX11_least_51 : decode cX11_least 51 = .ok (.irem, 1) := by decide +kernel
theorem dX11_least_52 : decode cX11_least 52 = .ok (.istore 6, 2) := by decide +kernel
theorem dX11_least_54 : decode cX11_least 54 = .ok (.iload 5, 2) := by decide +kernel
theorem dX11_least_56 : decode cX11_least 56 = .ok (.bipush 12, 2) := by decide +kernel
theorem dX11_least_58 : decode cX11_least 58 = .ok (.idiv, 1) := by decide +kernel
theorem dX11_least_59 : decode cX11_least 59 = .ok (.istore 7, 2) := by decide +kernel
theorem dX11_least_61 : decode cX11_least 61 = .ok (.iload_n 3, 1) := by decide +kernel
theorem dX11_least_62 : decode cX11_least 62 = .ok (.iload_n 1, 1) := by decide +kernel
theorem dX11_least_63 : decode cX11_least 63 = .ok (.iconst 4, 1) := by decide +kernel
theorem dX11_least_64 : decode cX11_least 64 = .ok (.if_icmp .ne 17, 3) := by decide +kernel
theorem dX11_least_67 : decode cX11_least 67 = .ok (.iload_n 2, 1) := by decide +kernel
theorem dX11_least_68 : decode cX11_least 68 = .ok (.ifCond .eq 8, 3) := by decide +kernel
theorem dX11_least_71 : decode cX11_least 71 = .ok (.iload 7, 2) := by decide +kernel
theorem dX11_least_73 : decode cX11_least 73 = .ok (.goto 31, 3) := by decide +kernel
theorem dX11_least_76 : decode cX11_least 76 = .ok (.iload 6, 2) := by decide +kernel
theorem dX11_least_78 : decode cX11_least 78 = .ok (.goto 26, 3) := by decide +kernel
theorem dX11_least_81 : decode cX11_least 81 = .ok (.iload_n 2, 1) := by decide +kernel
theorem dX11_least_82 : decode cX11_least 82 = .ok (.ifCond .eq 14, 3) := by decide +kernel
theorem dX11_least_85 : decode cX11_least 85 = .ok (.iload_n 1, 1) := by decide +kernel
theorem dX11_least_86 : decode cX11_least 86 = .ok (.iload 6, 2) := by decide +kernel
theorem dX11_least_88 : decode cX11_least 88 = .ok (.iload 7, 2) := by decide +kernel
theorem dX11_least_90 : decode cX11_least 90 = .ok (.invokestatic 308, 3) := by decide +kernel
theorem dX11_least_93 : decode cX11_least 93 = .ok (.goto 11, 3) := by decide +kernel
theorem dX11_least_96 : decode cX11_least 96 = .ok (.iload_n 1, 1) := by decide +kernel
theorem dX11_least_97 : decode cX11_least 97 = .ok (.iload 6, 2) := by decide +kernel
theorem dX11_least_99 : decode cX11_least 99 = .ok (.iload 7, 2) := by decide +kernel
theorem dX11_least_101 : decode cX11_least 101 = .ok (.invokestatic 312, 3) := by decide +kernel
theorem dX11_least_104 : decode cX11_least 104 = .ok (.invokestatic 300, 3) := by decide +kernel
theorem dX11_least_107 : decode cX11_least 107 = .ok (.istore_n 3, 1) := by decide +kernel
theorem dX11_least_108 : decode cX11_least 108 = .ok (.iinc 4 1, 3) := by decide +kernel
theorem dX11_least_111 : decode cX11_least 111 = .ok (.goto (-105), 3) := by decide +kernel
theorem dX11_least_114 : decode cX11_least 114 = .ok (.iload_n 3, 1) := by decide +kernel
theorem dX11_least_115 : decode cX11_least 115 = .ok (.ireturn, 1) := by decide +kernel
theorem dX11_changed_0 : decode cX11_changed 0 = .ok (.iload_n 2, 1) := by decide +kernel
theorem dX11_changed_1 : decode cX11_changed 1 = .ok (.iload_n 1, 1) := by decide +kernel
theorem dX11_changed_2 : decode cX11_changed 2 = .ok (.bipush 12, 2) := by decide +kernel
theorem dX11_changed_4 : decode cX11_changed 4 = .ok (.irem, 1) := by decide +kernel
theorem dX11_changed_5 : decode cX11_changed 5 = .ok (.iload_n 1, 1) := by decide +kernel
theorem dX11_changed_6 : decode cX11_changed 6 = .ok (.bipush 12, 2) := by decide +kernel
theorem dX11_changed_8 : decode cX11_changed 8 = .ok (.idiv, 1) := by decide +kernel
theorem dX11_changed_9 : decode cX11_changed 9 = .ok (.invokestatic 312, 3) := by decide +kernel
theorem dX11_changed_12 : decode cX11_changed 12 = .ok (.iload_n 3, 1) := by decide +kernel
theorem dX11_changed_13 : decode cX11_changed 13 = .ok (.iadd, 1) := by decide +kernel
theorem dX11_changed_14 : decode cX11_changed 14 = .ok (.istore 5, 2) := by decide +kernel
theorem dX11_changed_16 : decode cX11_changed 16 = .ok (.iload_n 2, 1) := by decide +kernel
theorem dX11_changed_17 : decode cX11_changed 17 = .ok (.iload_n 1, 1) := by decide +kernel
theorem dX11_changed_18 : decode cX11_changed 18 = .ok (.bipush 12, 2) := by decide +kernel
theorem dX11_changed_20 : decode cX11_changed 20 = .ok (.irem, 1) := by decide +kernel
theorem dX11_changed_21 : decode cX11_changed 21 = .ok (.iload_n 1, 1) := by decide +kernel
theorem dX11_changed_22 : decode cX11_changed 22 = .ok (.bipush 12, 2) := by decide +kernel
theorem dX11_changed_24 : decode cX11_changed 24 = .ok (.idiv, 1) := by decide +kernel
theorem dX11_changed_25 : decode cX11_changed 25 = .ok (.invokestatic 308, 3) := by decide +kernel
theorem dX11_changed_28 : decode cX11_changed 28 = .ok (.iload 4, 2) := by decide +kernel
theorem dX11_changed_30 : decode cX11_changed 30 = .ok (.iadd, 1) := by decide +kernel
theorem dX11_changed_31 : decode cX11_changed 31 = .ok (.istore 6, 2) := by decide +kernel
theorem dX11_changed_33 : decode cX11_changed 33 = .ok (.iload 5, 2) := by decide +kernel
theorem dX11_changed_35 : decode cX11_changed 35 = .ok (.i2l, 1) := by decide +kernel
theorem dX11_changed_36 : decode cX11_changed 36 = .ok (.lconst 0, 1) := by decide +kernel
theorem dX11_changed_37 : decode cX11_changed 37 = .ok (.ldc2_w 96, 3) := by decide +kernel
theorem dX11_changed_40 : decode cX11_changed 40 = .ok (.invokestatic 98, 3) := by decide +kernel
theorem dX11_changed_43 : decode cX11_changed 43 = .ok (.ifCond .eq 27, 3) := by decide +kernel
theorem dX11_changed_46 : decode cX11_changed 46 = .ok (.iload 6, 2) := by decide +kernel
theorem dX11_changed_48 : decode cX11_changed 48 = .ok (.i2l, 1) := by decide +kernel
theorem dX11_changed_49 : decode cX11_changed 49 = .ok (.lconst 0, 1) := by decide +kernel
theorem dX11_changed_50 : decode cX11_changed 50 = .ok (.ldc2_w 96, 3) := by decide +kernel
theorem dX11_changed_53 : decode cX11_changed 53 = .ok (.invokestatic 98, 3) := by decide +kernel
theorem dX11_changed_56 : decode cX11_changed 56 = .ok (.ifCond .eq 14, 3) := by decide +kernel
theorem dX11_changed_59 : decode cX11_changed 59 = .ok (.bipush 12, 2) := by decide +kernel
theorem dX11_changed_61 : decode cX11_changed 61 = .ok (.iload 6, 2) := by decide +kernel
theorem dX11_changed_63 : decode cX11_changed 63 = .ok (.imul, 1) := by decide +kernel
theorem dX11_changed_64 : decode cX11_changed 64 = .ok (.iload 5, 2) := by decide +kernel
theorem dX11_changed_66 : decode cX11_changed 66 = .ok (.iadd, 1) := by decide +kernel
theorem dX11_changed_67 : decode cX11_changed 67 = .ok (.goto 4, 3) := by decide +kernel
theorem dX11_changed_70 : decode cX11_changed 70 = .ok (.iconst (-1), 1) := by decide +kernel
theorem dX11_changed_71 : decode cX11_changed 71 = .ok (.ireturn, 1) := by decide +kernel
theorem dX11_alike_0 : decode cX11_alike 0 = .ok (.aload_n 0, 1) := by decide +kernel
theorem dX11_alike_1 : decode cX11_alike 1 = .ok (.iload_n 1, 1) := by decide +kernel
theorem dX11_alike_2 : decode cX11_alike 2 = .ok (.i2l, 1) := by decide +kernel
theorem dX11_alike_3 : decode cX11_alike 3 = .ok (.lconst 0, 1) := by decide +kernel
theorem dX11_alike_4 : decode cX11_alike 4 = .ok (.ldc2_w 106, 3) := by decide +kernel
theorem dX11_alike_7 : decode cX11_alike 7 = .ok (.invokestatic 98, 3) := by decide +kernel
theorem dX11_alike_10 : decode cX11_alike 10 = .ok (.ifCond .eq 7, 3) := by decide +kernel
theorem dX11_alike_13 : decode cX11_alike 13 = .ok (.iconst 0, 1) := by decide +kernel
theorem dX11_alike_14 : decode cX11_alike 14 = .ok (.goto 4, 3) := by decide +kernel
theorem dX11_alike_17 : decode cX11_alike 17 = .ok (.iconst 1, 1) := by decide +kernel
theorem dX11_alike_18 : decode cX11_alike 18 = .ok (.putfield 86, 3) := by decide +kernel
theorem dX11_alike_21 : decode cX11_alike 21 = .ok (.aload_n 0, 1) := by decide +kernel
theorem dX11_alike_22 : decode cX11_alike 22 = .ok (.getfield 86, 3) := by decide +kernel
theorem dX11_alike_25 : decode cX11_alike 25 = .ok (.ifCond .le 5, 3) := by decide +kernel
theorem dX11_alike_28 : decode cX11_alike 28 = .ok (.iconst 0, 1) := by decide +kernel
theorem dX11_alike_29 : decode cX11_alike 29 = .ok (.ireturn, 1) := by decide +kernel
theorem dX11_alike_30 : decode cX11_alike 30 = .ok (.aload_n 0, 1) := by decide +kernel
theorem dX11_alike_31 : decode cX11_alike 31 = .ok (.iconst 4, 1) := by decide +kernel
theorem dX11_alike_32 : decode cX11_alike 32 = .ok (.iconst 0, 1) := by decide +kernel
theorem dX11_alike_33 : decode cX11_alike 33 = .ok (.invokevirtual 315, 3) := by decide +kernel
theorem dX11_alike_36 : decode cX11_alike 36 = .ok (.aload_n 0, 1) := by decide +kernel
theorem dX11_alike_37 : decode cX11_alike 37 = .ok (.iload_n 1, 1) := by decide +kernel
theorem dX11_alike_38 : decode cX11_alike 38 = .ok (.iconst 0, 1) := by decide +kernel
theorem dX11_alike_39 : decode cX11_alike 39 = .ok (.invokevirtual 315, 3) := by decide +kernel
theorem dX11_alike_42 : decode cX11_alike 42 = .ok (.isub, 1) := by decide +kernel
theorem dX11_alike_43 : decode cX11_alike 43 = .ok (.istore_n 2, 1) := by decide +kernel
theorem dX11_alike_44 : decode cX11_alike 44 = .ok (.aload_n 0, 1) := by decide +kernel
theorem dX11_alike_45 : decode cX11_alike 45 = .ok (.iconst 4, 1) := by decide +kernel
theorem dX11_alike_46 : decode cX11_alike 46 = .ok (.iconst 1, 1) := by decide +kernel
theorem dX11_alike_47 : decode cX11_alike 47 = .ok (.invokevirtual 315, 3) := by decide +kernel
theorem dX11_alike_50 : decode cX11_alike 50 = .ok (.aload_n 0, 1) := by decide +kernel
theorem dX11_alike_51 : decode cX11_alike 51 = .ok (.iload_n 1, 1) := by decide +kernel
theorem dX11_alike_52 : decode cX11_alike 52 = .ok (.iconst 1, 1) := by decide +kernel
theorem dX11_alike_53 : decode cX11_alike 53 = .ok (.invokevirtual 315, 3) := by decide +kernel
theorem dX11_alike_56 : decode cX11_alike 56 = .ok (.isub, 1) := by decide +kernel
theorem dX11_alike_57 : decode cX11_alike 57 = .ok (.istore_n 3, 1) := by decide +kernel
theorem dX11_alike_58 : decode cX11_alike 58 = .ok (.iconst 0, 1) := by decide +kernel
theorem dX11_alike_59 : decode cX11_alike 59 = .ok (.istore 4, 2) := by decide +kernel
theorem dX11_alike_61 : decode cX11_alike 61 = .ok (.iload 4, 2) := by decide +kernel
theorem dX11_alike_63 : decode cX11_alike 63 = .ok (.aload_n 0, 1) := by decide +kernel
theorem dX11_alike_64 : decode cX11_alike 64 = .ok (.getfield 9, 3) := by decide +kernel
theorem dX11_alike_67 : decode cX11_alike 67 = .ok (.iconst 0, 1) := by decide +kernel
theorem dX11_alike_68 : decode cX11_alike 68 = .ok (.iaload, 1) := by decide +kernel
theorem dX11_alike_69 : decode cX11_alike 69 = .ok (.if_icmp .ge 140, 3) := by decide +kernel
theorem dX11_alike_72 : decode cX11_alike 72 = .ok (.aload_n 0, 1) := by decide +kernel
theorem dX11_alike_73 : decode cX11_alike 73 = .ok (.aload_n 0, 1) := by decide +kernel
theorem dX11_alike_74 : decode cX11_alike 74 = .ok (.iload 4, 2) := by decide +kernel
theorem dX11_alike_76 : decode cX11_alike 76 = .ok (.invokevirtual 261, 3) := by decide +kernel
theorem dX11_alike_79 : decode cX11_alike 79 = .ok (.iload_n 1, 1) := by decide +kernel
theorem dX11_alike_80 : decode cX11_alike 80 = .ok (.iload_n 2, 1) := by decide +kernel
theorem dX11_alike_81 : decode cX11_alike 81 = .ok (.iload_n 3, 1) := by decide +kernel
theorem dX11_alike_82 : decode cX11_alike 82 = .ok (.invokevirtual 319, 3) := by decide +kernel
theorem dX11_alike_85 : decode cX11_alike 85 = .ok (.istore 5, 2) := by decide +kernel
theorem dX11_alike_87 : decode cX11_alike 87 = .ok (.aload_n 0, 1) := by decide +kernel
theorem dX11_alike_88 : decode cX11_alike 88 = .ok (.aload_n 0, 1) := by decide +kernel
theorem dX11_alike_89 : decode cX11_alike 89 = .ok (.iload 4, 2) := by decide +kernel
theorem dX11_alike_91 : decode cX11_alike 91 = .ok (.invokevirtual 264, 3) := by decide +kernel
theorem dX11_alike_94 : decode cX11_alike 94 = .ok (.iload_n 1, 1) := by decide +kernel
theorem dX11_alike_95 : decode cX11_alike 95 = .ok (.iload_n 2, 1) := by decide +kernel
theorem dX11_alike_96 : decode cX11_alike 96 = .ok (.iload_n 3, 1) := by decide +kernel
theorem dX11_alike_97 : decode cX11_alike 97 = .ok (.invokevirtual 319, 3) := by decide +kernel
theorem dX11_alike_100 : decode cX11_alike 100 = .ok (.istore 6, 2) := by decide +kernel
theorem dX11_alike_102 : decode cX11_alike 102 = .ok (.iconst 0, 1) := by decide +kernel
theorem dX11_alike_103 : decode cX11_alike 103 = .ok (.istore 7, 2) := by decide +kernel
theorem dX11_alike_105 : decode cX11_alike 105 = .ok (.iconst 0, 1) := by decide +kernel
theorem dX11_alike_106 : decode cX11_alike 106 = .ok (.istore 8, 2) := by decide +kernel
theorem dX11_alike_108 : decode cX11_alike 108 = .ok (.iload 8, 2) := by decide +kernel
theorem dX11_alike_110 : decode cX11_alike 110 = .ok (.aload_n 0, 1) := by decide +kernel
theorem dX11_alike_111 : decode cX11_alike 111 = .ok (.getfield 9, 3) := by decide +kernel
theorem dX11_alike_114 : decode cX11_alike 114 = .ok (.iconst 0, 1) := by decide +kernel
theorem dX11_alike_115 : decode cX11_alike 115 = .ok (.iaload, 1) := by decide +kernel
theorem dX11_alike_116 : decode cX11_alike 116 = .ok (.if_icmp .ge 80, 3) := by decide +kernel
theorem dX11_alike_119 : decode cX11_alike 119 = .ok (.iload 7, 2) := by decide +kernel
theorem dX11_alike_121 : decode cX11_alike 121 = .ok (.ifCond .ne 62, 3) := by decide +kernel
theorem dX11_alike_124 : decode cX11_alike 124 = .ok (.aload_n 0, 1) := by decide +kernel
theorem dX11_alike_125 : decode cX11_alike 125 = .ok (.iload 8, 2) := by decide +kernel
theorem dX11_alike_127 : decode cX11_alike 127 = .ok (.invokevirtual 258, 3) := by decide +kernel
theorem dX11_alike_130 : decode cX11_alike 130 = .ok (.aload_n 0, 1) := by decide +kernel
theorem dX11_alike_131 : decode cX11_alike 131 = .ok (.iload 4, 2) := by decide +kernel
theorem dX11_alike_133 : decode cX11_alike 133 = .ok (.invokevirtual 258, 3) := by decide +kernel
theorem dX11_alike_136 : decode cX11_alike 136 = .ok (.if_icmp .ne 51, 3) := by decide +kernel
theorem dX11_alike_139 : decode cX11_alike 139 = .ok (.aload_n 0, 1) := by decide +kernel
theorem dX11_alike_140 : decode cX11_alike 140 = .ok (.iload 8, 2) := by decide +kernel
theorem dX11_alike_142 : decode cX11_alike 142 = .ok (.invokevirtual 261, 3) := by decide +kernel
theorem dX11_alike_145 : decode cX11_alike 145 = .ok (.iload 5, 2) := by decide +kernel
theorem dX11_alike_147 : decode cX11_alike 147 = .ok (.if_icmp .ne 14, 3) := by decide +kernel
theorem dX11_alike_150 : decode cX11_alike 150 = .ok (.aload_n 0, 1) := by decide +kernel
theorem dX11_alike_151 : decode cX11_alike 151 = .ok (.iload 8, 2) := by decide +kernel
theorem dX11_alike_153 : decode cX11_alike 153 = .ok (.invokevirtual 264, 3) := by decide +kernel
theorem dX11_alike_156 : decode cX11_alike 156 = .ok (.iload 6, 2) := by decide +kernel
theorem dX11_alike_158 : decode cX11_alike 158 = .ok (.if_icmp .eq 25, 3) := by decide +kernel
theorem dX11_alike_161 : decode cX11_alike 161 = .ok (.aload_n 0, 1) := by decide +kernel
theorem dX11_alike_162 : decode cX11_alike 162 = .ok (.iload 8, 2) := by decide +kernel
theorem dX11_alike_164 : decode cX11_alike 164 = .ok (.invokevirtual 261, 3) := by decide +kernel
theorem dX11_alike_167 : decode cX11_alike 167 = .ok (.iload 6, 2) := by decide +kernel
theorem dX11_alike_169 : decode cX11_alike 169 = .ok (.if_icmp .ne 18, 3) := by decide +kernel
theorem dX11_alike_172 : decode cX11_alike 172 = .ok (.aload_n 0, 1) := by decide +kernel
theorem dX11_alike_173 : decode cX11_alike 173 = .ok (.iload 8, 2) := by decide +kernel
theorem dX11_alike_175 : decode cX11_alike 175 = .ok (.invokevirtual 264, 3) := by decide +kernel
theorem dX11_alike_178 : decode cX11_alike 178 = .ok (.iload 5, 2) := by decide +kernel
theorem dX11_alike_180 : decode cX11_alike 180 = .ok (.if_icmp .ne 7, 3) := by decide +kernel
theorem dX11_alike_183 : decode cX11_alike 183 = .ok (.iconst 1, 1) := by decide +kernel
theorem dX11_alike_184 : decode cX11_alike 184 = .ok (.goto 4, 3) := by decide +kernel
theorem dX11_alike_187 : decode cX11_alike 187 = .ok (.iconst 0, 1) := by decide +kernel
theorem dX11_alike_188 : decode cX11_alike 188 = .ok (.istore 7, 2) := by decide +kernel
theorem dX11_alike_190 : decode cX11_alike 190 = .ok (.iinc 8 1, 3) := by decide +kernel
theorem dX11_alike_193 : decode cX11_alike 193 = .ok (.goto (-85), 3) := by decide +kernel
theorem dX11_alike_196 : decode cX11_alike 196 = .ok (.iload 7, 2) := by decide +kernel
theorem dX11_alike_198 : decode cX11_alike 198 = .ok (.ifCond .ne 5, 3) := by decide +kernel
theorem dX11_alike_201 : decode cX11_alike 201 = .ok (.iconst 0, 1) := by decide +kernel
theorem dX11_alike_202 : decode cX11_alike 202 = .ok (.ireturn, 1) := by decide +kernel
theorem dX11_alike_203 : decode cX11_alike 203 = .ok (.iinc 4 1, 3) := by decide +kernel
theorem dX11_alike_206 : decode cX11_alike 206 = .ok (.goto (-145), 3) := by decide +kernel
theorem dX11_alike_209 : decode cX11_alike 209 = .ok (.iconst 1, 1) := by decide +kernel
theorem dX11_alike_210 : decode cX11_alike 210 = .ok (.ireturn, 1) := by decide +kernel
theorem dX11_isThere_0 : decode cX11_isThere 0 = .ok (.aload_n 0, 1) := by decide +kernel
theorem dX11_isThere_1 : decode cX11_isThere 1 = .ok (.getfield 9, 3) := by decide +kernel
theorem dX11_isThere_4 : decode cX11_isThere 4 = .ok (.iconst 2, 1) := by decide +kernel
theorem dX11_isThere_5 : decode cX11_isThere 5 = .ok (.iaload, 1) := by decide +kernel
theorem dX11_isThere_6 : decode cX11_isThere 6 = .ok (.iconst 1, 1) := by decide +kernel
theorem dX11_isThere_7 : decode cX11_isThere 7 = .ok (.if_icmp .ne 7, 3) := by decide +kernel
theorem dX11_isThere_10 : decode cX11_isThere 10 = .ok (.iconst 1, 1) := by decide +kernel
theorem dX11_isThere_11 : decode cX11_isThere 11 = .ok (.goto 4, 3) := by decide +kernel
theorem dX11_isThere_14 : decode cX11_isThere 14 = .ok (.iconst 0, 1) := by decide +kernel
theorem dX11_isThere_15 : decode cX11_isThere 15 = .ok (.ireturn, 1) := by decide +kernel
theorem dX11_isOver_0 : decode cX11_isOver 0 = .ok (.aload_n 0, 1) := by decide +kernel
theorem dX11_isOver_1 : decode cX11_isOver 1 = .ok (.getfield 9, 3) := by decide +kernel
theorem dX11_isOver_4 : decode cX11_isOver 4 = .ok (.iconst 5, 1) := by decide +kernel
theorem dX11_isOver_5 : decode cX11_isOver 5 = .ok (.iaload, 1) := by decide +kernel
theorem dX11_isOver_6 : decode cX11_isOver 6 = .ok (.iconst 1, 1) := by decide +kernel
theorem dX11_isOver_7 : decode cX11_isOver 7 = .ok (.if_icmp .ne 7, 3) := by decide +kernel
theorem dX11_isOver_10 : decode cX11_isOver 10 = .ok (.iconst 1, 1) := by decide +kernel
theorem dX11_isOver_11 : decode cX11_isOver 11 = .ok (.goto 4, 3) := by decide +kernel
theorem dX11_isOver_14 : decode cX11_isOver 14 = .ok (.iconst 0, 1) := by decide +kernel
theorem dX11_isOver_15 : decode cX11_isOver 15 = .ok (.iload_n 1, 1) := by decide +kernel
theorem dX11_isOver_16 : decode cX11_isOver 16 = .ok (.iconst 2, 1) := by decide +kernel
theorem dX11_isOver_17 : decode cX11_isOver 17 = .ok (.irem, 1) := by decide +kernel
theorem dX11_isOver_18 : decode cX11_isOver 18 = .ok (.ifCond .ne 7, 3) := by decide +kernel
theorem dX11_isOver_21 : decode cX11_isOver 21 = .ok (.iconst 1, 1) := by decide +kernel
theorem dX11_isOver_22 : decode cX11_isOver 22 = .ok (.goto 4, 3) := by decide +kernel
theorem dX11_isOver_25 : decode cX11_isOver 25 = .ok (.iconst 0, 1) := by decide +kernel
theorem dX11_isOver_26 : decode cX11_isOver 26 = .ok (.if_icmp .ne 7, 3) := by decide +kernel
theorem dX11_isOver_29 : decode cX11_isOver 29 = .ok (.iconst 1, 1) := by decide +kernel
theorem dX11_isOver_30 : decode cX11_isOver 30 = .ok (.goto 4, 3) := by decide +kernel
theorem dX11_isOver_33 : decode cX11_isOver 33 = .ok (.iconst 0, 1) := by decide +kernel
theorem dX11_isOver_34 : decode cX11_isOver 34 = .ok (.ireturn, 1) := by decide +kernel
theorem dX11_face_0 : decode cX11_face 0 = .ok (.iload_n 0, 1) := by decide +kernel
theorem dX11_face_1 : decode cX11_face 1 = .ok (.ifCond .eq 7, 3) := by decide +kernel
theorem dX11_face_4 : decode cX11_face 4 = .ok (.iconst 1, 1) := by decide +kernel
theorem dX11_face_5 : decode cX11_face 5 = .ok (.goto 4, 3) := by decide +kernel
theorem dX11_face_8 : decode cX11_face 8 = .ok (.iconst 2, 1) := by decide +kernel
theorem dX11_face_9 : decode cX11_face 9 = .ok (.ireturn, 1) := by decide +kernel
theorem dX11_holeBehind_0 : decode cX11_holeBehind 0 = .ok (.aload_n 0, 1) := by decide +kernel
theorem dX11_holeBehind_1 : decode cX11_holeBehind 1 = .ok (.getfield 9, 3) := by decide +kernel
theorem dX11_holeBehind_4 : decode cX11_holeBehind 4 = .ok (.iconst 4, 1) := by decide +kernel
theorem dX11_holeBehind_5 : decode cX11_holeBehind 5 = .ok (.iaload, 1) := by decide +kernel
theorem dX11_holeBehind_6 : decode cX11_holeBehind 6 = .ok (.istore_n 2, 1) := by decide +kernel
theorem dX11_holeBehind_7 : decode cX11_holeBehind 7 = .ok (.iconst 0, 1) := by decide +kernel
theorem dX11_holeBehind_8 : decode cX11_holeBehind 8 = .ok (.istore_n 3, 1) := by decide +kernel
theorem dX11_holeBehind_9 : decode cX11_holeBehind 9 = .ok (.iload_n 3, 1) := by decide +kernel
theorem dX11_holeBehind_10 : decode cX11_holeBehind 10 = .ok (.iload_n 1, 1) := by decide +kernel
theorem dX11_holeBehind_11 : decode cX11_holeBehind 11 = .ok (.if_icmp .ge 24, 3) := by decide +kernel
theorem dX11_holeBehind_14 : decode cX11_holeBehind 14 = .ok (.iload_n 2, 1) := by decide +kernel
theorem dX11_holeBehind_15 : decode cX11_holeBehind 15 = .ok (.aload_n 0, 1) := by decide +kernel
theorem dX11_holeBehind_16 : decode cX11_holeBehind 16 = .ok (.getfield 9, 3) := by decide +kernel
theorem dX11_holeBehind_19 : decode cX11_holeBehind 19 = .ok (.sipush 392, 3) := by decide +kernel
theorem dX11_holeBehind_22 : decode cX11_holeBehind 22 = .ok (.iload_n 3, 1) := by decide +kernel
theorem dX11_holeBehind_23 : decode cX11_holeBehind 23 = .ok (.iadd, 1) := by decide +kernel
theorem dX11_holeBehind_24 : decode cX11_holeBehind 24 = .ok (.iaload, 1) := by decide +kernel
theorem dX11_holeBehind_25 : decode cX11_holeBehind 25 = .ok (.invokestatic 108, 3) := by decide +kernel
theorem dX11_holeBehind_28 : decode cX11_holeBehind 28 = .ok (.istore_n 2, 1) := by decide +kernel
theorem dX11_holeBehind_29 : decode cX11_holeBehind 29 = .ok (.iinc 3 1, 3) := by decide +kernel
theorem dX11_holeBehind_32 : decode cX11_holeBehind 32 = .ok (.goto (-23), 3) := by decide +kernel
theorem dX11_holeBehind_35 : decode cX11_holeBehind 35 = .ok (.iload_n 2, 1) := by decide +kernel
theorem dX11_holeBehind_36 : decode cX11_holeBehind 36 = .ok (.ireturn, 1) := by decide +kernel
theorem dX11_hole_0 : decode cX11_hole 0 = .ok (.aload_n 0, 1) := by decide +kernel
theorem dX11_hole_1 : decode cX11_hole 1 = .ok (.aload_n 0, 1) := by decide +kernel
theorem dX11_hole_2 : decode cX11_hole 2 = .ok (.getfield 9, 3) := by decide +kernel
theorem dX11_hole_5 : decode cX11_hole 5 = .ok (.bipush 6, 2) := by decide +kernel
theorem dX11_hole_7 : decode cX11_hole 7 = .ok (.iaload, 1) := by decide +kernel
theorem dX11_hole_8 : decode cX11_hole 8 = .ok (.invokevirtual 323, 3) := by decide +kernel
theorem dX11_hole_11 : decode cX11_hole 11 = .ok (.ireturn, 1) := by decide +kernel
theorem dX11_whyNot_0 : decode cX11_whyNot 0 = .ok (.aload_n 0, 1) := by decide +kernel
theorem dX11_whyNot_1 : decode cX11_whyNot 1 = .ok (.invokevirtual 326, 3) := by decide +kernel
theorem dX11_whyNot_4 : decode cX11_whyNot 4 = .ok (.ifCond .ne 5, 3) := by decide +kernel
theorem dX11_whyNot_7 : decode cX11_whyNot 7 = .ok (.iconst 1, 1) := by decide +kernel
theorem dX11_whyNot_8 : decode cX11_whyNot 8 = .ok (.ireturn, 1) := by decide +kernel
theorem dX11_whyNot_9 : decode cX11_whyNot 9 = .ok (.lload_n 1, 1) := by decide +kernel
theorem dX11_whyNot_10 : decode cX11_whyNot 10 = .ok (.invokestatic 276, 3) := by decide +kernel
theorem dX11_whyNot_13 : decode cX11_whyNot 13 = .ok (.ifCond .eq 19, 3) := by decide +kernel
theorem dX11_whyNot_16 : decode cX11_whyNot 16 = .ok (.aload_n 0, 1) := by decide +kernel
theorem dX11_whyNot_17 : decode cX11_whyNot 17 = .ok (.getfield 9, 3) := by decide +kernel
theorem dX11_whyNot_20 : decode cX11_whyNot 20 = .ok (.aload_n 0, 1) := by decide +kernel
theorem dX11_whyNot_21 : decode cX11_whyNot 21 = .ok (.invokevirtual 330, 3) := by decide +kernel
theorem dX11_whyNot_24 : decode cX11_whyNot 24 = .ok (.lload_n 1, 1) := by decide +kernel
theorem dX11_whyNot_25 : decode cX11_whyNot 25 = .ok (.l2i, 1) := by decide +kernel
theorem dX11_whyNot_26 : decode cX11_whyNot 26 = .ok (.invokestatic 236, 3) := by decide +kernel
theorem dX11_whyNot_29 : decode cX11_whyNot 29 = .ok (.goto 4, 3) := by decide +kernel
theorem dX11_whyNot_32 : decode cX11_whyNot 32 = .ok (.iconst (-1), 1) := by decide +kernel
theorem dX11_whyNot_33 : decode cX11_whyNot 33 = .ok (.istore_n 3, 1) := by decide +kernel
theorem dX11_whyNot_34 : decode cX11_whyNot 34 = .ok (.iload_n 3, 1) := by decide +kernel
theorem dX11_whyNot_35 : decode cX11_whyNot 35 = .ok (.iconst (-1), 1) := by decide +kernel
theorem dX11_whyNot_36 : decode cX11_whyNot 36 = .ok (.if_icmp .eq 17, 3) := by decide +kernel
theorem dX11_whyNot_39 : decode cX11_whyNot 39 = .ok (.aload_n 0, 1) := by decide +kernel
theorem dX11_whyNot_40 : decode cX11_whyNot 40 = .ok (.iload_n 3, 1) := by decide +kernel
theorem dX11_whyNot_41 : decode cX11_whyNot 41 = .ok (.invokevirtual 258, 3) := by decide +kernel
theorem dX11_whyNot_44 : decode cX11_whyNot 44 = .ok (.aload_n 0, 1) := by decide +kernel
theorem dX11_whyNot_45 : decode cX11_whyNot 45 = .ok (.getfield 9, 3) := by decide +kernel
theorem dX11_whyNot_48 : decode cX11_whyNot 48 = .ok (.iconst 3, 1) := by decide +kernel
theorem dX11_whyNot_49 : decode cX11_whyNot 49 = .ok (.iaload, 1) := by decide +kernel
theorem dX11_whyNot_50 : decode cX11_whyNot 50 = .ok (.if_icmp .eq 5, 3) := by decide +kernel
theorem dX11_whyNot_53 : decode cX11_whyNot 53 = .ok (.iconst 2, 1) := by decide +kernel
theorem dX11_whyNot_54 : decode cX11_whyNot 54 = .ok (.ireturn, 1) := by decide +kernel
theorem dX11_whyNot_55 : decode cX11_whyNot 55 = .ok (.aload_n 0, 1) := by decide +kernel
theorem dX11_whyNot_56 : decode cX11_whyNot 56 = .ok (.iload_n 3, 1) := by decide +kernel
theorem dX11_whyNot_57 : decode cX11_whyNot 57 = .ok (.invokevirtual 270, 3) := by decide +kernel
theorem dX11_whyNot_60 : decode cX11_whyNot 60 = .ok (.aload_n 0, 1) := by decide +kernel
theorem dX11_whyNot_61 : decode cX11_whyNot 61 = .ok (.aload_n 0, 1) := by decide +kernel
theorem dX11_whyNot_62 : decode cX11_whyNot 62 = .ok (.getfield 9, 3) := by decide +kernel
theorem dX11_whyNot_65 : decode cX11_whyNot 65 = .ok (.bipush 6, 2) := by decide +kernel
theorem dX11_whyNot_67 : decode cX11_whyNot 67 = .ok (.iaload, 1) := by decide +kernel
theorem dX11_whyNot_68 : decode cX11_whyNot 68 = .ok (.invokevirtual 333, 3) := by decide +kernel
theorem dX11_whyNot_71 : decode cX11_whyNot 71 = .ok (.invokestatic 336, 3) := by decide +kernel
theorem dX11_whyNot_74 : decode cX11_whyNot 74 = .ok (.iand, 1) := by decide +kernel
theorem dX11_whyNot_75 : decode cX11_whyNot 75 = .ok (.ifCond .eq 7, 3) := by decide +kernel
theorem dX11_whyNot_78 : decode cX11_whyNot 78 = .ok (.iconst 3, 1) := by decide +kernel
theorem dX11_whyNot_79 : decode cX11_whyNot 79 = .ok (.goto 4, 3) := by decide +kernel
theorem dX11_whyNot_82 : decode cX11_whyNot 82 = .ok (.iconst 0, 1) := by decide +kernel
theorem dX11_whyNot_83 : decode cX11_whyNot 83 = .ok (.ireturn, 1) := by decide +kernel
theorem dX11_turns_0 : decode cX11_turns 0 = .ok (.aload_n 0, 1) := by decide +kernel
theorem dX11_turns_1 : decode cX11_turns 1 = .ok (.getfield 9, 3) := by decide +kernel
theorem dX11_turns_4 : decode cX11_turns 4 = .ok (.bipush 8, 2) := by decide +kernel
theorem dX11_turns_6 : decode cX11_turns 6 = .ok (.iconst 4, 1) := by decide +kernel
theorem dX11_turns_7 : decode cX11_turns 7 = .ok (.iload_n 1, 1) := by decide +kernel
theorem dX11_turns_8 : decode cX11_turns 8 = .ok (.imul, 1) := by decide +kernel
theorem dX11_turns_9 : decode cX11_turns 9 = .ok (.iadd, 1) := by decide +kernel
theorem dX11_turns_10 : decode cX11_turns 10 = .ok (.iconst 3, 1) := by decide +kernel
theorem dX11_turns_11 : decode cX11_turns 11 = .ok (.iadd, 1) := by decide +kernel
theorem dX11_turns_12 : decode cX11_turns 12 = .ok (.dup2, 1) := by decide +kernel
theorem dX11_turns_13 : decode cX11_turns 13 = .ok (.iaload, 1) := by decide +kernel
theorem dX11_turns_14 : decode cX11_turns 14 = .ok (.iload_n 2, 1) := by decide +kernel
theorem dX11_turns_15 : decode cX11_turns 15 = .ok (.invokestatic 336, 3) := by decide +kernel
theorem dX11_turns_18 : decode cX11_turns 18 = .ok (.ixor, 1) := by decide +kernel
theorem dX11_turns_19 : decode cX11_turns 19 = .ok (.iastore, 1) := by decide +kernel
theorem dX11_turns_20 : decode cX11_turns 20 = .ok (.return_, 1) := by decide +kernel
theorem dX11_goes_0 : decode cX11_goes 0 = .ok (.aload_n 0, 1) := by decide +kernel
theorem dX11_goes_1 : decode cX11_goes 1 = .ok (.aload_n 0, 1) := by decide +kernel
theorem dX11_goes_2 : decode cX11_goes 2 = .ok (.getfield 9, 3) := by decide +kernel
theorem dX11_goes_5 : decode cX11_goes 5 = .ok (.aload_n 0, 1) := by decide +kernel
theorem dX11_goes_6 : decode cX11_goes 6 = .ok (.invokevirtual 330, 3) := by decide +kernel
theorem dX11_goes_9 : decode cX11_goes 9 = .ok (.iload_n 1, 1) := by decide +kernel
theorem dX11_goes_10 : decode cX11_goes 10 = .ok (.invokestatic 236, 3) := by decide +kernel
theorem dX11_goes_13 : decode cX11_goes 13 = .ok (.aload_n 0, 1) := by decide +kernel
theorem dX11_goes_14 : decode cX11_goes 14 = .ok (.aload_n 0, 1) := by decide +kernel
theorem dX11_goes_15 : decode cX11_goes 15 = .ok (.getfield 9, 3) := by decide +kernel
theorem dX11_goes_18 : decode cX11_goes 18 = .ok (.bipush 6, 2) := by decide +kernel
theorem dX11_goes_20 : decode cX11_goes 20 = .ok (.iaload, 1) := by decide +kernel
theorem dX11_goes_21 : decode cX11_goes 21 = .ok (.invokevirtual 333, 3) := by decide +kernel
theorem dX11_goes_24 : decode cX11_goes 24 = .ok (.invokevirtual 340, 3) := by decide +kernel
theorem dX11_goes_27 : decode cX11_goes 27 = .ok (.aload_n 0, 1) := by decide +kernel
theorem dX11_goes_28 : decode cX11_goes 28 = .ok (.getfield 9, 3) := by decide +kernel
theorem dX11_goes_31 : decode cX11_goes 31 = .ok (.sipush 392, 3) := by decide +kernel
theorem dX11_goes_34 : decode cX11_goes 34 = .ok (.aload_n 0, 1) := by decide +kernel
theorem dX11_goes_35 : decode cX11_goes 35 = .ok (.getfield 9, 3) := by decide +kernel
theorem dX11_goes_38 : decode cX11_goes 38 = .ok (.bipush 6, 2) := by decide +kernel
theorem dX11_goes_40 : decode cX11_goes 40 = .ok (.iaload, 1) := by decide +kernel
theorem dX11_goes_41 : decode cX11_goes 41 = .ok (.iadd, 1) := by decide +kernel
theorem dX11_goes_42 : decode cX11_goes 42 = .ok (.iload_n 1, 1) := by decide +kernel
theorem dX11_goes_43 : decode cX11_goes 43 = .ok (.iastore, 1) := by decide +kernel
theorem dX11_goes_44 : decode cX11_goes 44 = .ok (.aload_n 0, 1) := by decide +kernel
theorem dX11_goes_45 : decode cX11_goes 45 = .ok (.getfield 9, 3) := by decide +kernel
theorem dX11_goes_48 : decode cX11_goes 48 = .ok (.bipush 6, 2) := by decide +kernel
theorem dX11_goes_50 : decode cX11_goes 50 = .ok (.dup2, 1) := by decide +kernel
theorem dX11_goes_51 : decode cX11_goes 51 = .ok (.iaload, 1) := by decide +kernel
theorem dX11_goes_52 : decode cX11_goes 52 = .ok (.iconst 1, 1) := by decide +kernel
theorem dX11_goes_53 : decode cX11_goes 53 = .ok (.iadd, 1) := by decide +kernel
theorem dX11_goes_54 : decode cX11_goes 54 = .ok (.iastore, 1) := by decide +kernel
theorem dX11_goes_55 : decode cX11_goes 55 = .ok (.return_, 1) := by decide +kernel
theorem dX11_backs_0 : decode cX11_backs 0 = .ok (.aload_n 0, 1) := by decide +kernel
theorem dX11_backs_1 : decode cX11_backs 1 = .ok (.getfield 9, 3) := by decide +kernel
theorem dX11_backs_4 : decode cX11_backs 4 = .ok (.bipush 6, 2) := by decide +kernel
theorem dX11_backs_6 : decode cX11_backs 6 = .ok (.dup2, 1) := by decide +kernel
theorem dX11_backs_7 : decode cX11_backs 7 = .ok (.iaload, 1) := by decide +kernel
theorem dX11_backs_8 : decode cX11_backs 8 = .ok (.iconst 1, 1) := by decide +kernel
theorem dX11_backs_9 : decode cX11_backs 9 = .ok (.isub, 1) := by decide +kernel
theorem dX11_backs_10 : decode cX11_backs 10 = .ok (.iastore, 1) := by decide +kernel
theorem dX11_backs_11 : decode cX11_backs 11 = .ok (.aload_n 0, 1) := by decide +kernel
theorem dX11_backs_12 : decode cX11_backs 12 = .ok (.aload_n 0, 1) := by decide +kernel
theorem dX11_backs_13 : decode cX11_backs 13 = .ok (.getfield 9, 3) := by decide +kernel
theorem dX11_backs_16 : decode cX11_backs 16 = .ok (.aload_n 0, 1) := by decide +kernel
theorem dX11_backs_17 : decode cX11_backs 17 = .ok (.invokevirtual 330, 3) := by decide +kernel
theorem dX11_backs_20 : decode cX11_backs 20 = .ok (.aload_n 0, 1) := by decide +kernel
theorem dX11_backs_21 : decode cX11_backs 21 = .ok (.getfield 9, 3) := by decide +kernel
theorem dX11_backs_24 : decode cX11_backs 24 = .ok (.sipush 392, 3) := by decide +kernel
theorem dX11_backs_27 : decode cX11_backs 27 = .ok (.aload_n 0, 1) := by decide +kernel
theorem dX11_backs_28 : decode cX11_backs 28 = .ok (.getfield 9, 3) := by decide +kernel
theorem dX11_backs_31 : decode cX11_backs 31 = .ok (.bipush 6, 2) := by decide +kernel
theorem dX11_backs_33 : decode cX11_backs 33 = .ok (.iaload, 1) := by decide +kernel
theorem dX11_backs_34 : decode cX11_backs 34 = .ok (.iadd, 1) := by decide +kernel
theorem dX11_backs_35 : decode cX11_backs 35 = .ok (.iaload, 1) := by decide +kernel
theorem dX11_backs_36 : decode cX11_backs 36 = .ok (.invokestatic 236, 3) := by decide +kernel
theorem dX11_backs_39 : decode cX11_backs 39 = .ok (.aload_n 0, 1) := by decide +kernel
theorem dX11_backs_40 : decode cX11_backs 40 = .ok (.aload_n 0, 1) := by decide +kernel
theorem dX11_backs_41 : decode cX11_backs 41 = .ok (.getfield 9, 3) := by decide +kernel
theorem dX11_backs_44 : decode cX11_backs 44 = .ok (.bipush 6, 2) := by decide +kernel
theorem dX11_backs_46 : decode cX11_backs 46 = .ok (.iaload, 1) := by decide +kernel
theorem dX11_backs_47 : decode cX11_backs 47 = .ok (.invokevirtual 333, 3) := by decide +kernel
theorem dX11_backs_50 : decode cX11_backs 50 = .ok (.invokevirtual 340, 3) := by decide +kernel
theorem dX11_backs_53 : decode cX11_backs 53 = .ok (.return_, 1) := by decide +kernel
theorem dX11_begin_0 : decode cX11_begin 0 = .ok (.aload_n 0, 1) := by decide +kernel
theorem dX11_begin_1 : decode cX11_begin 1 = .ok (.iload_n 1, 1) := by decide +kernel
theorem dX11_begin_2 : decode cX11_begin 2 = .ok (.invokestatic 273, 3) := by decide +kernel
theorem dX11_begin_5 : decode cX11_begin 5 = .ok (.ifCond .ne 7, 3) := by decide +kernel
theorem dX11_begin_8 : decode cX11_begin 8 = .ok (.iconst 1, 1) := by decide +kernel
theorem dX11_begin_9 : decode cX11_begin 9 = .ok (.goto 15, 3) := by decide +kernel
theorem dX11_begin_12 : decode cX11_begin 12 = .ok (.iload_n 2, 1) := by decide +kernel
theorem dX11_begin_13 : decode cX11_begin 13 = .ok (.invokestatic 280, 3) := by decide +kernel
theorem dX11_begin_16 : decode cX11_begin 16 = .ok (.ifCond .eq 7, 3) := by decide +kernel
theorem dX11_begin_19 : decode cX11_begin 19 = .ok (.iconst 0, 1) := by decide +kernel
theorem dX11_begin_20 : decode cX11_begin 20 = .ok (.goto 4, 3) := by decide +kernel
theorem dX11_begin_23 : decode cX11_begin 23 = .ok (.iconst 2, 1) := by decide +kernel
theorem dX11_begin_24 : decode cX11_begin 24 = .ok (.putfield 86, 3) := by decide +kernel
theorem dX11_begin_27 : decode cX11_begin 27 = .ok (.aload_n 0, 1) := by decide +kernel
theorem dX11_begin_28 : decode cX11_begin 28 = .ok (.getfield 86, 3) := by decide +kernel
theorem dX11_begin_31 : decode cX11_begin 31 = .ok (.ifCond .le 4, 3) := by decide +kernel
theorem dX11_begin_34 : decode cX11_begin 34 = .ok (.return_, 1) := by decide +kernel
theorem dX11_begin_35 : decode cX11_begin 35 = .ok (.aload_n 0, 1) := by decide +kernel
theorem dX11_begin_36 : decode cX11_begin 36 = .ok (.getfield 9, 3) := by decide +kernel
theorem dX11_begin_39 : decode cX11_begin 39 = .ok (.iconst 1, 1) := by decide +kernel
theorem dX11_begin_40 : decode cX11_begin 40 = .ok (.dup2, 1) := by decide +kernel
theorem dX11_begin_41 : decode cX11_begin 41 = .ok (.iaload, 1) := by decide +kernel
theorem dX11_begin_42 : decode cX11_begin 42 = .ok (.aload_n 0, 1) := by decide +kernel
theorem dX11_begin_43 : decode cX11_begin 43 = .ok (.getfield 9, 3) := by decide +kernel
theorem dX11_begin_46 : decode cX11_begin 46 = .ok (.iconst 2, 1) := by decide +kernel
theorem dX11_begin_47 : decode cX11_begin 47 = .ok (.iaload, 1) := by decide +kernel
theorem dX11_begin_48 : decode cX11_begin 48 = .ok (.iadd, 1) := by decide +kernel
theorem dX11_begin_49 : decode cX11_begin 49 = .ok (.iastore, 1) := by decide +kernel
theorem dX11_begin_50 : decode cX11_begin 50 = .ok (.aload_n 0, 1) := by decide +kernel
theorem dX11_begin_51 : decode cX11_begin 51 = .ok (.getfield 9, 3) := by decide +kernel
theorem dX11_begin_54 : decode cX11_begin 54 = .ok (.iconst 2, 1) := by decide +kernel
theorem dX11_begin_55 : decode cX11_begin 55 = .ok (.iconst 1, 1) := by decide +kernel
theorem dX11_begin_56 : decode cX11_begin 56 = .ok (.iastore, 1) := by decide +kernel
theorem dX11_begin_57 : decode cX11_begin 57 = .ok (.aload_n 0, 1) := by decide +kernel
theorem dX11_begin_58 : decode cX11_begin 58 = .ok (.getfield 9, 3) := by decide +kernel
theorem dX11_begin_61 : decode cX11_begin 61 = .ok (.iconst 3, 1) := by decide +kernel
theorem dX11_begin_62 : decode cX11_begin 62 = .ok (.iload_n 2, 1) := by decide +kernel
theorem dX11_begin_63 : decode cX11_begin 63 = .ok (.iastore, 1) := by decide +kernel
theorem dX11_begin_64 : decode cX11_begin 64 = .ok (.aload_n 0, 1) := by decide +kernel
theorem dX11_begin_65 : decode cX11_begin 65 = .ok (.getfield 9, 3) := by decide +kernel
theorem dX11_begin_68 : decode cX11_begin 68 = .ok (.iconst 4, 1) := by decide +kernel
theorem dX11_begin_69 : decode cX11_begin 69 = .ok (.iload_n 1, 1) := by decide +kernel
theorem dX11_begin_70 : decode cX11_begin 70 = .ok (.iastore, 1) := by decide +kernel
theorem dX11_begin_71 : decode cX11_begin 71 = .ok (.aload_n 0, 1) := by decide +kernel
theorem dX11_begin_72 : decode cX11_begin 72 = .ok (.getfield 9, 3) := by decide +kernel
theorem dX11_begin_75 : decode cX11_begin 75 = .ok (.iconst 5, 1) := by decide +kernel
theorem dX11_begin_76 : decode cX11_begin 76 = .ok (.iload_n 3, 1) := by decide +kernel
theorem dX11_begin_77 : decode cX11_begin 77 = .ok (.ifCond .eq 7, 3) := by decide +kernel
theorem dX11_begin_80 : decode cX11_begin 80 = .ok (.iconst 1, 1) := by decide +kernel
theorem dX11_begin_81 : decode cX11_begin 81 = .ok (.goto 4, 3) := by decide +kernel
theorem dX11_begin_84 : decode cX11_begin 84 = .ok (.iconst 0, 1) := by decide +kernel
theorem dX11_begin_85 : decode cX11_begin 85 = .ok (.iastore, 1) := by decide +kernel
theorem dX11_begin_86 : decode cX11_begin 86 = .ok (.aload_n 0, 1) := by decide +kernel
theorem dX11_begin_87 : decode cX11_begin 87 = .ok (.getfield 9, 3) := by decide +kernel
theorem dX11_begin_90 : decode cX11_begin 90 = .ok (.bipush 6, 2) := by decide +kernel
theorem dX11_begin_92 : decode cX11_begin 92 = .ok (.iconst 0, 1) := by decide +kernel
theorem dX11_begin_93 : decode cX11_begin 93 = .ok (.iastore, 1) := by decide +kernel
theorem dX11_begin_94 : decode cX11_begin 94 = .ok (.return_, 1) := by decide +kernel
theorem dX11_cut_0 : decode cX11_cut 0 = .ok (.aload_n 0, 1) := by decide +kernel
theorem dX11_cut_1 : decode cX11_cut 1 = .ok (.aload_n 0, 1) := by decide +kernel
theorem dX11_cut_2 : decode cX11_cut 2 = .ok (.invokevirtual 326, 3) := by decide +kernel
theorem dX11_cut_5 : decode cX11_cut 5 = .ok (.ifCond .eq 7, 3) := by decide +kernel
theorem dX11_cut_8 : decode cX11_cut 8 = .ok (.iconst 0, 1) := by decide +kernel
theorem dX11_cut_9 : decode cX11_cut 9 = .ok (.goto 4, 3) := by decide +kernel
theorem dX11_cut_12 : decode cX11_cut 12 = .ok (.iconst 1, 1) := by decide +kernel
theorem dX11_cut_13 : decode cX11_cut 13 = .ok (.putfield 86, 3) := by decide +kernel
theorem dX11_cut_16 : decode cX11_cut 16 = .ok (.aload_n 0, 1) := by decide +kernel
theorem dX11_cut_17 : decode cX11_cut 17 = .ok (.getfield 86, 3) := by decide +kernel
theorem dX11_cut_20 : decode cX11_cut 20 = .ok (.ifCond .le 5, 3) := by decide +kernel
theorem dX11_cut_23 : decode cX11_cut 23 = .ok (.iconst 0, 1) := by decide +kernel
theorem dX11_cut_24 : decode cX11_cut 24 = .ok (.ireturn, 1) := by decide +kernel
theorem dX11_cut_25 : decode cX11_cut 25 = .ok (.aload_n 0, 1) := by decide +kernel
theorem dX11_cut_26 : decode cX11_cut 26 = .ok (.getfield 9, 3) := by decide +kernel
theorem dX11_cut_29 : decode cX11_cut 29 = .ok (.iconst 1, 1) := by decide +kernel
theorem dX11_cut_30 : decode cX11_cut 30 = .ok (.dup2, 1) := by decide +kernel
theorem dX11_cut_31 : decode cX11_cut 31 = .ok (.iaload, 1) := by decide +kernel
theorem dX11_cut_32 : decode cX11_cut 32 = .ok (.iconst 1, 1) := by decide +kernel
theorem dX11_cut_33 : decode cX11_cut 33 = .ok (.iadd, 1) := by decide +kernel
theorem dX11_cut_34 : decode cX11_cut 34 = .ok (.iastore, 1) := by decide +kernel
theorem dX11_cut_35 : decode cX11_cut 35 = .ok (.aload_n 0, 1) := by decide +kernel
theorem dX11_cut_36 : decode cX11_cut 36 = .ok (.getfield 9, 3) := by decide +kernel
theorem dX11_cut_39 : decode cX11_cut 39 = .ok (.iconst 2, 1) := by decide +kernel
theorem dX11_cut_40 : decode cX11_cut 40 = .ok (.iconst 0, 1) := by decide +kernel
theorem dX11_cut_41 : decode cX11_cut 41 = .ok (.iastore, 1) := by decide +kernel
theorem dX11_cut_42 : decode cX11_cut 42 = .ok (.aload_n 0, 1) := by decide +kernel
theorem dX11_cut_43 : decode cX11_cut 43 = .ok (.getfield 9, 3) := by decide +kernel
theorem dX11_cut_46 : decode cX11_cut 46 = .ok (.bipush 6, 2) := by decide +kernel
theorem dX11_cut_48 : decode cX11_cut 48 = .ok (.iaload, 1) := by decide +kernel
theorem dX11_cut_49 : decode cX11_cut 49 = .ok (.ireturn, 1) := by decide +kernel
theorem dX11_may_0 : decode cX11_may 0 = .ok (.aload_n 0, 1) := by decide +kernel
theorem dX11_may_1 : decode cX11_may 1 = .ok (.iload_n 1, 1) := by decide +kernel
theorem dX11_may_2 : decode cX11_may 2 = .ok (.i2l, 1) := by decide +kernel
theorem dX11_may_3 : decode cX11_may 3 = .ok (.invokestatic 276, 3) := by decide +kernel
theorem dX11_may_6 : decode cX11_may 6 = .ok (.ifCond .eq 7, 3) := by decide +kernel
theorem dX11_may_9 : decode cX11_may 9 = .ok (.iconst 0, 1) := by decide +kernel
theorem dX11_may_10 : decode cX11_may 10 = .ok (.goto 4, 3) := by decide +kernel
theorem dX11_may_13 : decode cX11_may 13 = .ok (.iconst 1, 1) := by decide +kernel
theorem dX11_may_14 : decode cX11_may 14 = .ok (.putfield 86, 3) := by decide +kernel
theorem dX11_may_17 : decode cX11_may 17 = .ok (.aload_n 0, 1) := by decide +kernel
theorem dX11_may_18 : decode cX11_may 18 = .ok (.getfield 86, 3) := by decide +kernel
theorem dX11_may_21 : decode cX11_may 21 = .ok (.ifCond .le 7, 3) := by decide +kernel
theorem dX11_may_24 : decode cX11_may 24 = .ok (.iconst 0, 1) := by decide +kernel
theorem dX11_may_25 : decode cX11_may 25 = .ok (.goto 9, 3) := by decide +kernel
theorem dX11_may_28 : decode cX11_may 28 = .ok (.aload_n 0, 1) := by decide +kernel
theorem dX11_may_29 : decode cX11_may 29 = .ok (.iload_n 1, 1) := by decide +kernel
theorem dX11_may_30 : decode cX11_may 30 = .ok (.i2l, 1) := by decide +kernel
theorem dX11_may_31 : decode cX11_may 31 = .ok (.invokevirtual 344, 3) := by decide +kernel
theorem dX11_may_34 : decode cX11_may 34 = .ok (.ireturn, 1) := by decide +kernel
theorem dX11_stitch_0 : decode cX11_stitch 0 = .ok (.aload_n 0, 1) := by decide +kernel
theorem dX11_stitch_1 : decode cX11_stitch 1 = .ok (.iload_n 1, 1) := by decide +kernel
theorem dX11_stitch_2 : decode cX11_stitch 2 = .ok (.i2l, 1) := by decide +kernel
theorem dX11_stitch_3 : decode cX11_stitch 3 = .ok (.invokestatic 276, 3) := by decide +kernel
theorem dX11_stitch_6 : decode cX11_stitch 6 = .ok (.ifCond .eq 7, 3) := by decide +kernel
theorem dX11_stitch_9 : decode cX11_stitch 9 = .ok (.iconst 0, 1) := by decide +kernel
theorem dX11_stitch_10 : decode cX11_stitch 10 = .ok (.goto 4, 3) := by decide +kernel
theorem dX11_stitch_13 : decode cX11_stitch 13 = .ok (.iconst 1, 1) := by decide +kernel
theorem dX11_stitch_14 : decode cX11_stitch 14 = .ok (.putfield 86, 3) := by decide +kernel
theorem dX11_stitch_17 : decode cX11_stitch 17 = .ok (.aload_n 0, 1) := by decide +kernel
theorem dX11_stitch_18 : decode cX11_stitch 18 = .ok (.getfield 86, 3) := by decide +kernel
theorem dX11_stitch_21 : decode cX11_stitch 21 = .ok (.ifCond .le 5, 3) := by decide +kernel
theorem dX11_stitch_24 : decode cX11_stitch 24 = .ok (.iconst 0, 1) := by decide +kernel
theorem dX11_stitch_25 : decode cX11_stitch 25 = .ok (.ireturn, 1) := by decide +kernel
theorem dX11_stitch_26 : decode cX11_stitch 26 = .ok (.aload_n 0, 1) := by decide +kernel
theorem dX11_stitch_27 : decode cX11_stitch 27 = .ok (.iload_n 1, 1) := by decide +kernel
theorem dX11_stitch_28 : decode cX11_stitch 28 = .ok (.i2l, 1) := by decide +kernel
theorem dX11_stitch_29 : decode cX11_stitch 29 = .ok (.invokevirtual 344, 3) := by decide +kernel
theorem dX11_stitch_32 : decode cX11_stitch 32 = .ok (.istore_n 2, 1) := by decide +kernel
theorem dX11_stitch_33 : decode cX11_stitch 33 = .ok (.iload_n 2, 1) := by decide +kernel
theorem dX11_stitch_34 : decode cX11_stitch 34 = .ok (.ifCond .ne 8, 3) := by decide +kernel
theorem dX11_stitch_37 : decode cX11_stitch 37 = .ok (.aload_n 0, 1) := by decide +kernel
theorem dX11_stitch_38 : decode cX11_stitch 38 = .ok (.iload_n 1, 1) := by decide +kernel
theorem dX11_stitch_39 : decode cX11_stitch 39 = .ok (.invokevirtual 348, 3) := by decide +kernel
theorem dX11_stitch_42 : decode cX11_stitch 42 = .ok (.iload_n 2, 1) := by decide +kernel
theorem dX11_stitch_43 : decode cX11_stitch 43 = .ok (.ireturn, 1) := by decide +kernel
theorem dX11_unpick_0 : decode cX11_unpick 0 = .ok (.aload_n 0, 1) := by decide +kernel
theorem dX11_unpick_1 : decode cX11_unpick 1 = .ok (.aload_n 0, 1) := by decide +kernel
theorem dX11_unpick_2 : decode cX11_unpick 2 = .ok (.invokevirtual 326, 3) := by decide +kernel
theorem dX11_unpick_5 : decode cX11_unpick 5 = .ok (.ifCond .ne 7, 3) := by decide +kernel
theorem dX11_unpick_8 : decode cX11_unpick 8 = .ok (.iconst 1, 1) := by decide +kernel
theorem dX11_unpick_9 : decode cX11_unpick 9 = .ok (.goto 25, 3) := by decide +kernel
theorem dX11_unpick_12 : decode cX11_unpick 12 = .ok (.iload_n 1, 1) := by decide +kernel
theorem dX11_unpick_13 : decode cX11_unpick 13 = .ok (.i2l, 1) := by decide +kernel
theorem dX11_unpick_14 : decode cX11_unpick 14 = .ok (.lconst 0, 1) := by decide +kernel
theorem dX11_unpick_15 : decode cX11_unpick 15 = .ok (.aload_n 0, 1) := by decide +kernel
theorem dX11_unpick_16 : decode cX11_unpick 16 = .ok (.getfield 9, 3) := by decide +kernel
theorem dX11_unpick_19 : decode cX11_unpick 19 = .ok (.bipush 6, 2) := by decide +kernel
theorem dX11_unpick_21 : decode cX11_unpick 21 = .ok (.iaload, 1) := by decide +kernel
theorem dX11_unpick_22 : decode cX11_unpick 22 = .ok (.i2l, 1) := by decide +kernel
theorem dX11_unpick_23 : decode cX11_unpick 23 = .ok (.invokestatic 98, 3) := by decide +kernel
theorem dX11_unpick_26 : decode cX11_unpick 26 = .ok (.ifCond .eq 7, 3) := by decide +kernel
theorem dX11_unpick_29 : decode cX11_unpick 29 = .ok (.iconst 0, 1) := by decide +kernel
theorem dX11_unpick_30 : decode cX11_unpick 30 = .ok (.goto 4, 3) := by decide +kernel
theorem dX11_unpick_33 : decode cX11_unpick 33 = .ok (.iconst 2, 1) := by decide +kernel
theorem dX11_unpick_34 : decode cX11_unpick 34 = .ok (.putfield 86, 3) := by decide +kernel
theorem dX11_unpick_37 : decode cX11_unpick 37 = .ok (.aload_n 0, 1) := by decide +kernel
theorem dX11_unpick_38 : decode cX11_unpick 38 = .ok (.getfield 86, 3) := by decide +kernel
theorem dX11_unpick_41 : decode cX11_unpick 41 = .ok (.ifCond .le 5, 3) := by decide +kernel
theorem dX11_unpick_44 : decode cX11_unpick 44 = .ok (.iconst 0, 1) := by decide +kernel
theorem dX11_unpick_45 : decode cX11_unpick 45 = .ok (.ireturn, 1) := by decide +kernel
theorem dX11_unpick_46 : decode cX11_unpick 46 = .ok (.iconst 0, 1) := by decide +kernel
theorem dX11_unpick_47 : decode cX11_unpick 47 = .ok (.istore_n 2, 1) := by decide +kernel
theorem dX11_unpick_48 : decode cX11_unpick 48 = .ok (.iload_n 2, 1) := by decide +kernel
theorem dX11_unpick_49 : decode cX11_unpick 49 = .ok (.iload_n 1, 1) := by decide +kernel
theorem dX11_unpick_50 : decode cX11_unpick 50 = .ok (.if_icmp .ge 13, 3) := by decide +kernel
theorem dX11_unpick_53 : decode cX11_unpick 53 = .ok (.aload_n 0, 1) := by decide +kernel
theorem dX11_unpick_54 : decode cX11_unpick 54 = .ok (.invokevirtual 351, 3) := by decide +kernel
theorem dX11_unpick_57 : decode cX11_unpick 57 = .ok (.iinc 2 1, 3) := by decide +kernel
theorem dX11_unpick_60 : decode cX11_unpick 60 = .ok (.goto (-12), 3) := by decide +kernel
theorem dX11_unpick_63 : decode cX11_unpick 63 = .ok (.aload_n 0, 1) := by decide +kernel
theorem dX11_unpick_64 : decode cX11_unpick 64 = .ok (.getfield 9, 3) := by decide +kernel
theorem dX11_unpick_67 : decode cX11_unpick 67 = .ok (.bipush 6, 2) := by decide +kernel
theorem dX11_unpick_69 : decode cX11_unpick 69 = .ok (.iaload, 1) := by decide +kernel
theorem dX11_unpick_70 : decode cX11_unpick 70 = .ok (.ireturn, 1) := by decide +kernel
theorem dX11_thread_0 : decode cX11_thread 0 = .ok (.aload_n 0, 1) := by decide +kernel
theorem dX11_thread_1 : decode cX11_thread 1 = .ok (.aload_n 0, 1) := by decide +kernel
theorem dX11_thread_2 : decode cX11_thread 2 = .ok (.invokevirtual 326, 3) := by decide +kernel
theorem dX11_thread_5 : decode cX11_thread 5 = .ok (.ifCond .ne 7, 3) := by decide +kernel
theorem dX11_thread_8 : decode cX11_thread 8 = .ok (.iconst 1, 1) := by decide +kernel
theorem dX11_thread_9 : decode cX11_thread 9 = .ok (.goto 20, 3) := by decide +kernel
theorem dX11_thread_12 : decode cX11_thread 12 = .ok (.iload_n 1, 1) := by decide +kernel
theorem dX11_thread_13 : decode cX11_thread 13 = .ok (.i2l, 1) := by decide +kernel
theorem dX11_thread_14 : decode cX11_thread 14 = .ok (.lconst 0, 1) := by decide +kernel
theorem dX11_thread_15 : decode cX11_thread 15 = .ok (.ldc2_w 354, 3) := by decide +kernel
theorem dX11_thread_18 : decode cX11_thread 18 = .ok (.invokestatic 98, 3) := by decide +kernel
theorem dX11_thread_21 : decode cX11_thread 21 = .ok (.ifCond .eq 7, 3) := by decide +kernel
theorem dX11_thread_24 : decode cX11_thread 24 = .ok (.iconst 0, 1) := by decide +kernel
theorem dX11_thread_25 : decode cX11_thread 25 = .ok (.goto 4, 3) := by decide +kernel
theorem dX11_thread_28 : decode cX11_thread 28 = .ok (.iconst 2, 1) := by decide +kernel
theorem dX11_thread_29 : decode cX11_thread 29 = .ok (.putfield 86, 3) := by decide +kernel
theorem dX11_thread_32 : decode cX11_thread 32 = .ok (.aload_n 0, 1) := by decide +kernel
theorem dX11_thread_33 : decode cX11_thread 33 = .ok (.getfield 86, 3) := by decide +kernel
theorem dX11_thread_36 : decode cX11_thread 36 = .ok (.ifCond .le 5, 3) := by decide +kernel
theorem dX11_thread_39 : decode cX11_thread 39 = .ok (.iconst 0, 1) := by decide +kernel
theorem dX11_thread_40 : decode cX11_thread 40 = .ok (.ireturn, 1) := by decide +kernel
theorem dX11_thread_41 : decode cX11_thread 41 = .ok (.iload_n 1, 1) := by decide +kernel
theorem dX11_thread_42 : decode cX11_thread 42 = .ok (.tableswitch 70 0 3 #[30, 35, 55, 63], 30) := by decide +kernel
theorem dX11_thread_72 : decode cX11_thread 72 = .ok (.aload_n 0, 1) := by decide +kernel
theorem dX11_thread_73 : decode cX11_thread 73 = .ok (.invokevirtual 330, 3) := by decide +kernel
theorem dX11_thread_76 : decode cX11_thread 76 = .ok (.ireturn, 1) := by decide +kernel
theorem dX11_thread_77 : decode cX11_thread 77 = .ok (.aload_n 0, 1) := by decide +kernel
theorem dX11_thread_78 : decode cX11_thread 78 = .ok (.aload_n 0, 1) := by decide +kernel
theorem dX11_thread_79 : decode cX11_thread 79 = .ok (.getfield 9, 3) := by decide +kernel
theorem dX11_thread_82 : decode cX11_thread 82 = .ok (.bipush 6, 2) := by decide +kernel
theorem dX11_thread_84 : decode cX11_thread 84 = .ok (.iaload, 1) := by decide +kernel
theorem dX11_thread_85 : decode cX11_thread 85 = .ok (.invokevirtual 333, 3) := by decide +kernel
theorem dX11_thread_88 : decode cX11_thread 88 = .ok (.ifCond .eq 7, 3) := by decide +kernel
theorem dX11_thread_91 : decode cX11_thread 91 = .ok (.iconst 1, 1) := by decide +kernel
theorem dX11_thread_92 : decode cX11_thread 92 = .ok (.goto 4, 3) := by decide +kernel
theorem dX11_thread_95 : decode cX11_thread 95 = .ok (.iconst 0, 1) := by decide +kernel
theorem dX11_thread_96 : decode cX11_thread 96 = .ok (.ireturn, 1) := by decide +kernel
theorem dX11_thread_97 : decode cX11_thread 97 = .ok (.aload_n 0, 1) := by decide +kernel
theorem dX11_thread_98 : decode cX11_thread 98 = .ok (.getfield 9, 3) := by decide +kernel
theorem dX11_thread_101 : decode cX11_thread 101 = .ok (.bipush 6, 2) := by decide +kernel
theorem dX11_thread_103 : decode cX11_thread 103 = .ok (.iaload, 1) := by decide +kernel
theorem dX11_thread_104 : decode cX11_thread 104 = .ok (.ireturn, 1) := by decide +kernel
theorem dX11_thread_105 : decode cX11_thread 105 = .ok (.aload_n 0, 1) := by decide +kernel
theorem dX11_thread_106 : decode cX11_thread 106 = .ok (.getfield 9, 3) := by decide +kernel
theorem dX11_thread_109 : decode cX11_thread 109 = .ok (.iconst 3, 1) := by decide +kernel
theorem dX11_thread_110 : decode cX11_thread 110 = .ok (.iaload, 1) := by decide +kernel
theorem dX11_thread_111 : decode cX11_thread 111 = .ok (.ireturn, 1) := by decide +kernel
theorem dX11_thread_112 : decode cX11_thread 112 = .ok (.aload_n 0, 1) := by decide +kernel
theorem dX11_thread_113 : decode cX11_thread 113 = .ok (.getfield 9, 3) := by decide +kernel
theorem dX11_thread_116 : decode cX11_thread 116 = .ok (.iconst 4, 1) := by decide +kernel
theorem dX11_thread_117 : decode cX11_thread 117 = .ok (.iaload, 1) := by decide +kernel
theorem dX11_thread_118 : decode cX11_thread 118 = .ok (.ireturn, 1) := by decide +kernel
theorem dX11_done_0 : decode cX11_done 0 = .ok (.aload_n 0, 1) := by decide +kernel
theorem dX11_done_1 : decode cX11_done 1 = .ok (.aload_n 0, 1) := by decide +kernel
theorem dX11_done_2 : decode cX11_done 2 = .ok (.invokevirtual 326, 3) := by decide +kernel
theorem dX11_done_5 : decode cX11_done 5 = .ok (.ifCond .eq 7, 3) := by decide +kernel
theorem dX11_done_8 : decode cX11_done 8 = .ok (.iconst 0, 1) := by decide +kernel
theorem dX11_done_9 : decode cX11_done 9 = .ok (.goto 4, 3) := by decide +kernel
theorem dX11_done_12 : decode cX11_done 12 = .ok (.iconst 1, 1) := by decide +kernel
theorem dX11_done_13 : decode cX11_done 13 = .ok (.putfield 86, 3) := by decide +kernel
theorem dX11_done_16 : decode cX11_done 16 = .ok (.aload_n 0, 1) := by decide +kernel
theorem dX11_done_17 : decode cX11_done 17 = .ok (.getfield 86, 3) := by decide +kernel
theorem dX11_done_20 : decode cX11_done 20 = .ok (.ifCond .le 5, 3) := by decide +kernel
theorem dX11_done_23 : decode cX11_done 23 = .ok (.iconst 0, 1) := by decide +kernel
theorem dX11_done_24 : decode cX11_done 24 = .ok (.ireturn, 1) := by decide +kernel
theorem dX11_done_25 : decode cX11_done 25 = .ok (.iload_n 1, 1) := by decide +kernel
theorem dX11_done_26 : decode cX11_done 26 = .ok (.i2l, 1) := by decide +kernel
theorem dX11_done_27 : decode cX11_done 27 = .ok (.lconst 0, 1) := by decide +kernel
theorem dX11_done_28 : decode cX11_done 28 = .ok (.aload_n 0, 1) := by decide +kernel
theorem dX11_done_29 : decode cX11_done 29 = .ok (.getfield 9, 3) := by decide +kernel
theorem dX11_done_32 : decode cX11_done 32 = .ok (.bipush 6, 2) := by decide +kernel
theorem dX11_done_34 : decode cX11_done 34 = .ok (.iaload, 1) := by decide +kernel
theorem dX11_done_35 : decode cX11_done 35 = .ok (.iconst 1, 1) := by decide +kernel
theorem dX11_done_36 : decode cX11_done 36 = .ok (.isub, 1) := by decide +kernel
theorem dX11_done_37 : decode cX11_done 37 = .ok (.i2l, 1) := by decide +kernel
theorem dX11_done_38 : decode cX11_done 38 = .ok (.invokestatic 98, 3) := by decide +kernel
theorem dX11_done_41 : decode cX11_done 41 = .ok (.ifCond .eq 16, 3) := by decide +kernel
theorem dX11_done_44 : decode cX11_done 44 = .ok (.aload_n 0, 1) := by decide +kernel
theorem dX11_done_45 : decode cX11_done 45 = .ok (.getfield 9, 3) := by decide +kernel
theorem dX11_done_48 : decode cX11_done 48 = .ok (.sipush 392, 3) := by decide +kernel
theorem dX11_done_51 : decode cX11_done 51 = .ok (.iload_n 1, 1) := by decide +kernel
theorem dX11_done_52 : decode cX11_done 52 = .ok (.iadd, 1) := by decide +kernel
theorem dX11_done_53 : decode cX11_done 53 = .ok (.iaload, 1) := by decide +kernel
theorem dX11_done_54 : decode cX11_done 54 = .ok (.goto 4, 3) := by decide +kernel
theorem dX11_done_57 : decode cX11_done 57 = .ok (.iconst (-1), 1) := by decide +kernel
theorem dX11_done_58 : decode cX11_done 58 = .ok (.ireturn, 1) := by decide +kernel
theorem dX11_goesBy_0 : decode cX11_goesBy 0 = .ok (.iconst 0, 1) := by decide +kernel
theorem dX11_goesBy_1 : decode cX11_goesBy 1 = .ok (.istore_n 2, 1) := by decide +kernel
theorem dX11_goesBy_2 : decode cX11_goesBy 2 = .ok (.iload_n 2, 1) := by decide +kernel
theorem dX11_goesBy_3 : decode cX11_goesBy 3 = .ok (.aload_n 0, 1) := by decide +kernel
theorem dX11_goesBy_4 : decode cX11_goesBy 4 = .ok (.getfield 79, 3) := by decide +kernel
theorem dX11_goesBy_7 : decode cX11_goesBy 7 = .ok (.iload_n 1, 1) := by decide +kernel
theorem dX11_goesBy_8 : decode cX11_goesBy 8 = .ok (.iaload, 1) := by decide +kernel
theorem dX11_goesBy_9 : decode cX11_goesBy 9 = .ok (.if_icmp .ge 43, 3) := by decide +kernel
theorem dX11_goesBy_12 : decode cX11_goesBy 12 = .ok (.aload_n 0, 1) := by decide +kernel
theorem dX11_goesBy_13 : decode cX11_goesBy 13 = .ok (.aload_n 0, 1) := by decide +kernel
theorem dX11_goesBy_14 : decode cX11_goesBy 14 = .ok (.getfield 82, 3) := by decide +kernel
theorem dX11_goesBy_17 : decode cX11_goesBy 17 = .ok (.bipush 40, 2) := by decide +kernel
theorem dX11_goesBy_19 : decode cX11_goesBy 19 = .ok (.iload_n 1, 1) := by decide +kernel
theorem dX11_goesBy_20 : decode cX11_goesBy 20 = .ok (.imul, 1) := by decide +kernel
theorem dX11_goesBy_21 : decode cX11_goesBy 21 = .ok (.iload_n 2, 1) := by decide +kernel
theorem dX11_goesBy_22 : decode cX11_goesBy 22 = .ok (.iadd, 1) := by decide +kernel
theorem dX11_goesBy_23 : decode cX11_goesBy 23 = .ok (.laload, 1) := by decide +kernel
theorem dX11_goesBy_24 : decode cX11_goesBy 24 = .ok (.invokevirtual 344, 3) := by decide +kernel
theorem dX11_goesBy_27 : decode cX11_goesBy 27 = .ok (.ifCond .ne 25, 3) := by decide +kernel
theorem dX11_goesBy_30 : decode cX11_goesBy 30 = .ok (.aload_n 0, 1) := by decide +kernel
theorem dX11_goesBy_31 : decode cX11_goesBy 31 = .ok (.aload_n 0, 1) := by decide +kernel
theorem dX11_goesBy_32 : decode cX11_goesBy 32 = .ok (.getfield 82, 3) := by decide +kernel
theorem dX11_goesBy_35 : decode cX11_goesBy 35 = .ok (.bipush 40, 2) := by decide +kernel
theorem dX11_goesBy_37 : decode cX11_goesBy 37 = .ok (.iload_n 1, 1) := by decide +kernel
theorem dX11_goesBy_38 : decode cX11_goesBy 38 = .ok (.imul, 1) := by decide +kernel
theorem dX11_goesBy_39 : decode cX11_goesBy 39 = .ok (.iload_n 2, 1) := by decide +kernel
theorem dX11_goesBy_40 : decode cX11_goesBy 40 = .ok (.iadd, 1) := by decide +kernel
theorem dX11_goesBy_41 : decode cX11_goesBy 41 = .ok (.laload, 1) := by decide +kernel
theorem dX11_goesBy_42 : decode cX11_goesBy 42 = .ok (.l2i, 1) := by decide +kernel
theorem dX11_goesBy_43 : decode cX11_goesBy 43 = .ok (.invokevirtual 348, 3) := by decide +kernel
theorem dX11_goesBy_46 : decode cX11_goesBy 46 = .ok (.iinc 2 1, 3) := by decide +kernel
theorem dX11_goesBy_49 : decode cX11_goesBy 49 = .ok (.goto (-47), 3) := by decide +kernel
theorem dX11_goesBy_52 : decode cX11_goesBy 52 = .ok (.iload_n 2, 1) := by decide +kernel
theorem dX11_goesBy_53 : decode cX11_goesBy 53 = .ok (.ireturn, 1) := by decide +kernel
theorem dX11_trayFault_0 : decode cX11_trayFault 0 = .ok (.iload_n 1, 1) := by decide +kernel
theorem dX11_trayFault_1 : decode cX11_trayFault 1 = .ok (.invokestatic 356, 3) := by decide +kernel
theorem dX11_trayFault_4 : decode cX11_trayFault 4 = .ok (.ifCond .ne 7, 3) := by decide +kernel
theorem dX11_trayFault_7 : decode cX11_trayFault 7 = .ok (.iconst 1, 1) := by decide +kernel
theorem dX11_trayFault_8 : decode cX11_trayFault 8 = .ok (.goto 25, 3) := by decide +kernel
theorem dX11_trayFault_11 : decode cX11_trayFault 11 = .ok (.aload_n 0, 1) := by decide +kernel
theorem dX11_trayFault_12 : decode cX11_trayFault 12 = .ok (.invokevirtual 326, 3) := by decide +kernel
theorem dX11_trayFault_15 : decode cX11_trayFault 15 = .ok (.ifCond .eq 13, 3) := by decide +kernel
theorem dX11_trayFault_18 : decode cX11_trayFault 18 = .ok (.aload_n 0, 1) := by decide +kernel
theorem dX11_trayFault_19 : decode cX11_trayFault 19 = .ok (.getfield 76, 3) := by decide +kernel
theorem dX11_trayFault_22 : decode cX11_trayFault 22 = .ok (.iload_n 1, 1) := by decide +kernel
theorem dX11_trayFault_23 : decode cX11_trayFault 23 = .ok (.iaload, 1) := by decide +kernel
theorem dX11_trayFault_24 : decode cX11_trayFault 24 = .ok (.iconst (-1), 1) := by decide +kernel
theorem dX11_trayFault_25 : decode cX11_trayFault 25 = .ok (.if_icmp .ne 7, 3) := by decide +kernel
theorem dX11_trayFault_28 : decode cX11_trayFault 28 = .ok (.iconst 2, 1) := by decide +kernel
theorem dX11_trayFault_29 : decode cX11_trayFault 29 = .ok (.goto 4, 3) := by decide +kernel
theorem dX11_trayFault_32 : decode cX11_trayFault 32 = .ok (.iconst 0, 1) := by decide +kernel
theorem dX11_trayFault_33 : decode cX11_trayFault 33 = .ok (.ireturn, 1) := by decide +kernel
theorem dX11_judge_0 : decode cX11_judge 0 = .ok (.aload_n 0, 1) := by decide +kernel
theorem dX11_judge_1 : decode cX11_judge 1 = .ok (.aload_n 0, 1) := by decide +kernel
theorem dX11_judge_2 : decode cX11_judge 2 = .ok (.iload_n 1, 1) := by decide +kernel
theorem dX11_judge_3 : decode cX11_judge 3 = .ok (.invokevirtual 359, 3) := by decide +kernel
theorem dX11_judge_6 : decode cX11_judge 6 = .ok (.putfield 86, 3) := by decide +kernel
theorem dX11_judge_9 : decode cX11_judge 9 = .ok (.aload_n 0, 1) := by decide +kernel
theorem dX11_judge_10 : decode cX11_judge 10 = .ok (.getfield 86, 3) := by decide +kernel
theorem dX11_judge_13 : decode cX11_judge 13 = .ok (.ifCond .ne 20, 3) := by decide +kernel
theorem dX11_judge_16 : decode cX11_judge 16 = .ok (.iload_n 2, 1) := by decide +kernel
theorem dX11_judge_17 : decode cX11_judge 17 = .ok (.i2l, 1) := by decide +kernel
theorem dX11_judge_18 : decode cX11_judge 18 = .ok (.lconst 0, 1) := by decide +kernel
theorem dX11_judge_19 : decode cX11_judge 19 = .ok (.ldc2_w 106, 3) := by decide +kernel
theorem dX11_judge_22 : decode cX11_judge 22 = .ok (.invokestatic 98, 3) := by decide +kernel
theorem dX11_judge_25 : decode cX11_judge 25 = .ok (.ifCond .ne 8, 3) := by decide +kernel
theorem dX11_judge_28 : decode cX11_judge 28 = .ok (.aload_n 0, 1) := by decide +kernel
theorem dX11_judge_29 : decode cX11_judge 29 = .ok (.iconst 3, 1) := by decide +kernel
theorem dX11_judge_30 : decode cX11_judge 30 = .ok (.putfield 86, 3) := by decide +kernel
theorem dX11_judge_33 : decode cX11_judge 33 = .ok (.aload_n 0, 1) := by decide +kernel
theorem dX11_judge_34 : decode cX11_judge 34 = .ok (.getfield 86, 3) := by decide +kernel
theorem dX11_judge_37 : decode cX11_judge 37 = .ok (.ifCond .le 5, 3) := by decide +kernel
theorem dX11_judge_40 : decode cX11_judge 40 = .ok (.iconst 0, 1) := by decide +kernel
theorem dX11_judge_41 : decode cX11_judge 41 = .ok (.ireturn, 1) := by decide +kernel
theorem dX11_judge_42 : decode cX11_judge 42 = .ok (.aload_n 0, 1) := by decide +kernel
theorem dX11_judge_43 : decode cX11_judge 43 = .ok (.getfield 9, 3) := by decide +kernel
theorem dX11_judge_46 : decode cX11_judge 46 = .ok (.aload_n 0, 1) := by decide +kernel
theorem dX11_judge_47 : decode cX11_judge 47 = .ok (.getfield 19, 3) := by decide +kernel
theorem dX11_judge_50 : decode cX11_judge 50 = .ok (.invokestatic 254, 3) := by decide +kernel
theorem dX11_judge_53 : decode cX11_judge 53 = .ok (.aload_n 0, 1) := by decide +kernel
theorem dX11_judge_54 : decode cX11_judge 54 = .ok (.iload_n 1, 1) := by decide +kernel
theorem dX11_judge_55 : decode cX11_judge 55 = .ok (.invokevirtual 362, 3) := by decide +kernel
theorem dX11_judge_58 : decode cX11_judge 58 = .ok (.istore_n 3, 1) := by decide +kernel
theorem dX11_judge_59 : decode cX11_judge 59 = .ok (.iload_n 3, 1) := by decide +kernel
theorem dX11_judge_60 : decode cX11_judge 60 = .ok (.aload_n 0, 1) := by decide +kernel
theorem dX11_judge_61 : decode cX11_judge 61 = .ok (.getfield 79, 3) := by decide +kernel
theorem dX11_judge_64 : decode cX11_judge 64 = .ok (.iload_n 1, 1) := by decide +kernel
theorem dX11_judge_65 : decode cX11_judge 65 = .ok (.iaload, 1) := by decide +kernel
theorem dX11_judge_66 : decode cX11_judge 66 = .ok (.if_icmp .ne 7, 3) := by decide +kernel
theorem dX11_judge_69 : decode cX11_judge 69 = .ok (.iconst 1, 1) := by decide +kernel
theorem dX11_judge_70 : decode cX11_judge 70 = .ok (.goto 4, 3) := by decide +kernel
theorem dX11_judge_73 : decode cX11_judge 73 = .ok (.iconst 0, 1) := by decide +kernel
theorem dX11_judge_74 : decode cX11_judge 74 = .ok (.istore 4, 2) := by decide +kernel
theorem dX11_judge_76 : decode cX11_judge 76 = .ok (.iload 4, 2) := by decide +kernel
theorem dX11_judge_78 : decode cX11_judge 78 = .ok (.ifCond .eq 7, 3) := by decide +kernel
theorem dX11_judge_81 : decode cX11_judge 81 = .ok (.iconst 0, 1) := by decide +kernel
theorem dX11_judge_82 : decode cX11_judge 82 = .ok (.goto 18, 3) := by decide +kernel
theorem dX11_judge_85 : decode cX11_judge 85 = .ok (.aload_n 0, 1) := by decide +kernel
theorem dX11_judge_86 : decode cX11_judge 86 = .ok (.aload_n 0, 1) := by decide +kernel
theorem dX11_judge_87 : decode cX11_judge 87 = .ok (.getfield 82, 3) := by decide +kernel
theorem dX11_judge_90 : decode cX11_judge 90 = .ok (.bipush 40, 2) := by decide +kernel
theorem dX11_judge_92 : decode cX11_judge 92 = .ok (.iload_n 1, 1) := by decide +kernel
theorem dX11_judge_93 : decode cX11_judge 93 = .ok (.imul, 1) := by decide +kernel
theorem dX11_judge_94 : decode cX11_judge 94 = .ok (.iload_n 3, 1) := by decide +kernel
theorem dX11_judge_95 : decode cX11_judge 95 = .ok (.iadd, 1) := by decide +kernel
theorem dX11_judge_96 : decode cX11_judge 96 = .ok (.laload, 1) := by decide +kernel
theorem dX11_judge_97 : decode cX11_judge 97 = .ok (.invokevirtual 344, 3) := by decide +kernel
theorem dX11_judge_100 : decode cX11_judge 100 = .ok (.istore 5, 2) := by decide +kernel
theorem dX11_judge_102 : decode cX11_judge 102 = .ok (.aload_n 0, 1) := by decide +kernel
theorem dX11_judge_103 : decode cX11_judge 103 = .ok (.invokevirtual 330, 3) := by decide +kernel
theorem dX11_judge_106 : decode cX11_judge 106 = .ok (.istore 6, 2) := by decide +kernel
theorem dX11_judge_108 : decode cX11_judge 108 = .ok (.aload_n 0, 1) := by decide +kernel
theorem dX11_judge_109 : decode cX11_judge 109 = .ok (.aload_n 0, 1) := by decide +kernel
theorem dX11_judge_110 : decode cX11_judge 110 = .ok (.getfield 9, 3) := by decide +kernel
theorem dX11_judge_113 : decode cX11_judge 113 = .ok (.iconst 3, 1) := by decide +kernel
theorem dX11_judge_114 : decode cX11_judge 114 = .ok (.iaload, 1) := by decide +kernel
theorem dX11_judge_115 : decode cX11_judge 115 = .ok (.invokevirtual 365, 3) := by decide +kernel
theorem dX11_judge_118 : decode cX11_judge 118 = .ok (.istore 7, 2) := by decide +kernel
theorem dX11_judge_120 : decode cX11_judge 120 = .ok (.aload_n 0, 1) := by decide +kernel
theorem dX11_judge_121 : decode cX11_judge 121 = .ok (.getfield 19, 3) := by decide +kernel
theorem dX11_judge_124 : decode cX11_judge 124 = .ok (.aload_n 0, 1) := by decide +kernel
theorem dX11_judge_125 : decode cX11_judge 125 = .ok (.getfield 9, 3) := by decide +kernel
theorem dX11_judge_128 : decode cX11_judge 128 = .ok (.invokestatic 254, 3) := by decide +kernel
theorem dX11_judge_131 : decode cX11_judge 131 = .ok (.iload_n 2, 1) := by decide +kernel
theorem dX11_judge_132 : decode cX11_judge 132 = .ok (.ifCond .ne 16, 3) := by decide +kernel
theorem dX11_judge_135 : decode cX11_judge 135 = .ok (.iload 4, 2) := by decide +kernel
theorem dX11_judge_137 : decode cX11_judge 137 = .ok (.ifCond .eq 7, 3) := by decide +kernel
theorem dX11_judge_140 : decode cX11_judge 140 = .ok (.iconst (-1), 1) := by decide +kernel
theorem dX11_judge_141 : decode cX11_judge 141 = .ok (.goto 29, 3) := by decide +kernel
theorem dX11_judge_144 : decode cX11_judge 144 = .ok (.iload_n 3, 1) := by decide +kernel
theorem dX11_judge_145 : decode cX11_judge 145 = .ok (.goto 25, 3) := by decide +kernel
theorem dX11_judge_148 : decode cX11_judge 148 = .ok (.iload_n 2, 1) := by decide +kernel
theorem dX11_judge_149 : decode cX11_judge 149 = .ok (.iconst 1, 1) := by decide +kernel
theorem dX11_judge_150 : decode cX11_judge 150 = .ok (.if_icmp .ne 8, 3) := by decide +kernel
theorem dX11_judge_153 : decode cX11_judge 153 = .ok (.iload 5, 2) := by decide +kernel
theorem dX11_judge_155 : decode cX11_judge 155 = .ok (.goto 15, 3) := by decide +kernel
theorem dX11_judge_158 : decode cX11_judge 158 = .ok (.iload_n 2, 1) := by decide +kernel
theorem dX11_judge_159 : decode cX11_judge 159 = .ok (.iconst 2, 1) := by decide +kernel
theorem dX11_judge_160 : decode cX11_judge 160 = .ok (.if_icmp .ne 8, 3) := by decide +kernel
theorem dX11_judge_163 : decode cX11_judge 163 = .ok (.iload 6, 2) := by decide +kernel
theorem dX11_judge_165 : decode cX11_judge 165 = .ok (.goto 5, 3) := by decide +kernel
theorem dX11_judge_168 : decode cX11_judge 168 = .ok (.iload 7, 2) := by decide +kernel
theorem dX11_judge_170 : decode cX11_judge 170 = .ok (.ireturn, 1) := by decide +kernel
theorem dX11_perform_0 : decode cX11_perform 0 = .ok (.aload_n 0, 1) := by decide +kernel
theorem dX11_perform_1 : decode cX11_perform 1 = .ok (.aload_n 0, 1) := by decide +kernel
theorem dX11_perform_2 : decode cX11_perform 2 = .ok (.iload_n 1, 1) := by decide +kernel
theorem dX11_perform_3 : decode cX11_perform 3 = .ok (.invokevirtual 359, 3) := by decide +kernel
theorem dX11_perform_6 : decode cX11_perform 6 = .ok (.putfield 86, 3) := by decide +kernel
theorem dX11_perform_9 : decode cX11_perform 9 = .ok (.aload_n 0, 1) := by decide +kernel
theorem dX11_perform_10 : decode cX11_perform 10 = .ok (.getfield 86, 3) := by decide +kernel
theorem dX11_perform_13 : decode cX11_perform 13 = .ok (.ifCond .le 7, 3) := by decide +kernel
theorem dX11_perform_16 : decode cX11_perform 16 = .ok (.iconst 0, 1) := by decide +kernel
theorem dX11_perform_17 : decode cX11_perform 17 = .ok (.goto 8, 3) := by decide +kernel
theorem dX11_perform_20 : decode cX11_perform 20 = .ok (.aload_n 0, 1) := by decide +kernel
theorem dX11_perform_21 : decode cX11_perform 21 = .ok (.iload_n 1, 1) := by decide +kernel
theorem dX11_perform_22 : decode cX11_perform 22 = .ok (.invokevirtual 362, 3) := by decide +kernel
theorem dX11_perform_25 : decode cX11_perform 25 = .ok (.ireturn, 1) := by decide +kernel
theorem dX11_leftOf_0 : decode cX11_leftOf 0 = .ok (.iconst 0, 1) := by decide +kernel
theorem dX11_leftOf_1 : decode cX11_leftOf 1 = .ok (.istore_n 2, 1) := by decide +kernel
theorem dX11_leftOf_2 : decode cX11_leftOf 2 = .ok (.iconst 0, 1) := by decide +kernel
theorem dX11_leftOf_3 : decode cX11_leftOf 3 = .ok (.istore_n 3, 1) := by decide +kernel
theorem dX11_leftOf_4 : decode cX11_leftOf 4 = .ok (.iload_n 3, 1) := by decide +kernel
theorem dX11_leftOf_5 : decode cX11_leftOf 5 = .ok (.aload_n 0, 1) := by decide +kernel
theorem dX11_leftOf_6 : decode cX11_leftOf 6 = .ok (.getfield 9, 3) := by decide +kernel
theorem dX11_leftOf_9 : decode cX11_leftOf 9 = .ok (.iconst 0, 1) := by decide +kernel
theorem dX11_leftOf_10 : decode cX11_leftOf 10 = .ok (.iaload, 1) := by decide +kernel
theorem dX11_leftOf_11 : decode cX11_leftOf 11 = .ok (.if_icmp .ge 47, 3) := by decide +kernel
theorem dX11_leftOf_14 : decode cX11_leftOf 14 = .ok (.aload_n 0, 1) := by decide +kernel
theorem dX11_leftOf_15 : decode cX11_leftOf 15 = .ok (.iload_n 3, 1) := by decide +kernel
theorem dX11_leftOf_16 : decode cX11_leftOf 16 = .ok (.invokevirtual 258, 3) := by decide +kernel
theorem dX11_leftOf_19 : decode cX11_leftOf 19 = .ok (.iload_n 1, 1) := by decide +kernel
theorem dX11_leftOf_20 : decode cX11_leftOf 20 = .ok (.if_icmp .ne 32, 3) := by decide +kernel
theorem dX11_leftOf_23 : decode cX11_leftOf 23 = .ok (.iload_n 2, 1) := by decide +kernel
theorem dX11_leftOf_24 : decode cX11_leftOf 24 = .ok (.aload_n 0, 1) := by decide +kernel
theorem dX11_leftOf_25 : decode cX11_leftOf 25 = .ok (.iload_n 3, 1) := by decide +kernel
theorem dX11_leftOf_26 : decode cX11_leftOf 26 = .ok (.invokevirtual 270, 3) := by decide +kernel
theorem dX11_leftOf_29 : decode cX11_leftOf 29 = .ok (.ifCond .ne 7, 3) := by decide +kernel
theorem dX11_leftOf_32 : decode cX11_leftOf 32 = .ok (.iconst 2, 1) := by decide +kernel
theorem dX11_leftOf_33 : decode cX11_leftOf 33 = .ok (.goto 17, 3) := by decide +kernel
theorem dX11_leftOf_36 : decode cX11_leftOf 36 = .ok (.aload_n 0, 1) := by decide +kernel
theorem dX11_leftOf_37 : decode cX11_leftOf 37 = .ok (.iload_n 3, 1) := by decide +kernel
theorem dX11_leftOf_38 : decode cX11_leftOf 38 = .ok (.invokevirtual 270, 3) := by decide +kernel
theorem dX11_leftOf_41 : decode cX11_leftOf 41 = .ok (.iconst 3, 1) := by decide +kernel
theorem dX11_leftOf_42 : decode cX11_leftOf 42 = .ok (.if_icmp .ne 7, 3) := by decide +kernel
theorem dX11_leftOf_45 : decode cX11_leftOf 45 = .ok (.iconst 0, 1) := by decide +kernel
theorem dX11_leftOf_46 : decode cX11_leftOf 46 = .ok (.goto 4, 3) := by decide +kernel
theorem dX11_leftOf_49 : decode cX11_leftOf 49 = .ok (.iconst 1, 1) := by decide +kernel
theorem dX11_leftOf_50 : decode cX11_leftOf 50 = .ok (.iadd, 1) := by decide +kernel
theorem dX11_leftOf_51 : decode cX11_leftOf 51 = .ok (.istore_n 2, 1) := by decide +kernel
theorem dX11_leftOf_52 : decode cX11_leftOf 52 = .ok (.iinc 3 1, 3) := by decide +kernel
theorem dX11_leftOf_55 : decode cX11_leftOf 55 = .ok (.goto (-51), 3) := by decide +kernel
theorem dX11_leftOf_58 : decode cX11_leftOf 58 = .ok (.iload_n 2, 1) := by decide +kernel
theorem dX11_leftOf_59 : decode cX11_leftOf 59 = .ok (.ireturn, 1) := by decide +kernel
theorem dX11_left_0 : decode cX11_left 0 = .ok (.aload_n 0, 1) := by decide +kernel
theorem dX11_left_1 : decode cX11_left 1 = .ok (.aload_n 0, 1) := by decide +kernel
theorem dX11_left_2 : decode cX11_left 2 = .ok (.invokevirtual 326, 3) := by decide +kernel
theorem dX11_left_5 : decode cX11_left 5 = .ok (.ifCond .eq 7, 3) := by decide +kernel
theorem dX11_left_8 : decode cX11_left 8 = .ok (.iconst 0, 1) := by decide +kernel
theorem dX11_left_9 : decode cX11_left 9 = .ok (.goto 4, 3) := by decide +kernel
theorem dX11_left_12 : decode cX11_left 12 = .ok (.iconst 1, 1) := by decide +kernel
theorem dX11_left_13 : decode cX11_left 13 = .ok (.putfield 86, 3) := by decide +kernel
theorem dX11_left_16 : decode cX11_left 16 = .ok (.aload_n 0, 1) := by decide +kernel
theorem dX11_left_17 : decode cX11_left 17 = .ok (.getfield 86, 3) := by decide +kernel
theorem dX11_left_20 : decode cX11_left 20 = .ok (.ifCond .le 7, 3) := by decide +kernel
theorem dX11_left_23 : decode cX11_left 23 = .ok (.iconst 0, 1) := by decide +kernel
theorem dX11_left_24 : decode cX11_left 24 = .ok (.goto 13, 3) := by decide +kernel
theorem dX11_left_27 : decode cX11_left 27 = .ok (.aload_n 0, 1) := by decide +kernel
theorem dX11_left_28 : decode cX11_left 28 = .ok (.aload_n 0, 1) := by decide +kernel
theorem dX11_left_29 : decode cX11_left 29 = .ok (.getfield 9, 3) := by decide +kernel
theorem dX11_left_32 : decode cX11_left 32 = .ok (.iconst 3, 1) := by decide +kernel
theorem dX11_left_33 : decode cX11_left 33 = .ok (.iaload, 1) := by decide +kernel
theorem dX11_left_34 : decode cX11_left 34 = .ok (.invokevirtual 365, 3) := by decide +kernel
theorem dX11_left_37 : decode cX11_left 37 = .ok (.ireturn, 1) := by decide +kernel
theorem dX11_bars_0 : decode cX11_bars 0 = .ok (.aload_n 0, 1) := by decide +kernel
theorem dX11_bars_1 : decode cX11_bars 1 = .ok (.iconst (-1), 1) := by decide +kernel
theorem dX11_bars_2 : decode cX11_bars 2 = .ok (.putfield 368, 3) := by decide +kernel
theorem dX11_bars_5 : decode cX11_bars 5 = .ok (.aload_n 0, 1) := by decide +kernel
theorem dX11_bars_6 : decode cX11_bars 6 = .ok (.iconst (-1), 1) := by decide +kernel
theorem dX11_bars_7 : decode cX11_bars 7 = .ok (.putfield 371, 3) := by decide +kernel
theorem dX11_bars_10 : decode cX11_bars 10 = .ok (.aload_n 0, 1) := by decide +kernel
theorem dX11_bars_11 : decode cX11_bars 11 = .ok (.iload_n 2, 1) := by decide +kernel
theorem dX11_bars_12 : decode cX11_bars 12 = .ok (.iload_n 1, 1) := by decide +kernel
theorem dX11_bars_13 : decode cX11_bars 13 = .ok (.iconst 0, 1) := by decide +kernel
theorem dX11_bars_14 : decode cX11_bars 14 = .ok (.invokevirtual 290, 3) := by decide +kernel
theorem dX11_bars_17 : decode cX11_bars 17 = .ok (.iconst 0, 1) := by decide +kernel
theorem dX11_bars_18 : decode cX11_bars 18 = .ok (.istore 4, 2) := by decide +kernel
theorem dX11_bars_20 : decode cX11_bars 20 = .ok (.iload 4, 2) := by decide +kernel
theorem dX11_bars_22 : decode cX11_bars 22 = .ok (.aload_n 0, 1) := by decide +kernel
theorem dX11_bars_23 : decode cX11_bars 23 = .ok (.getfield 9, 3) := by decide +kernel
theorem dX11_bars_26 : decode cX11_bars 26 = .ok (.iconst 0, 1) := by decide +kernel
theorem dX11_bars_27 : decode cX11_bars 27 = .ok (.iaload, 1) := by decide +kernel
theorem dX11_bars_28 : decode cX11_bars 28 = .ok (.if_icmp .ge 50, 3) := by decide +kernel
theorem dX11_bars_31 : decode cX11_bars 31 = .ok (.aload_n 0, 1) := by decide +kernel
theorem dX11_bars_32 : decode cX11_bars 32 = .ok (.iload 4, 2) := by decide +kernel
theorem dX11_bars_34 : decode cX11_bars 34 = .ok (.invokevirtual 258, 3) := by decide +kernel
theorem dX11_bars_37 : decode cX11_bars 37 = .ok (.iload_n 1, 1) := by decide +kernel
theorem dX11_bars_38 : decode cX11_bars 38 = .ok (.if_icmp .ne 34, 3) := by decide +kernel
theorem dX11_bars_41 : decode cX11_bars 41 = .ok (.aload_n 0, 1) := by decide +kernel
theorem dX11_bars_42 : decode cX11_bars 42 = .ok (.iload 4, 2) := by decide +kernel
theorem dX11_bars_44 : decode cX11_bars 44 = .ok (.invokevirtual 270, 3) := by decide +kernel
theorem dX11_bars_47 : decode cX11_bars 47 = .ok (.iconst 3, 1) := by decide +kernel
theorem dX11_bars_48 : decode cX11_bars 48 = .ok (.if_icmp .eq 24, 3) := by decide +kernel
theorem dX11_bars_51 : decode cX11_bars 51 = .ok (.aload_n 0, 1) := by decide +kernel
theorem dX11_bars_52 : decode cX11_bars 52 = .ok (.getfield 48, 3) := by decide +kernel
theorem dX11_bars_55 : decode cX11_bars 55 = .ok (.iload 4, 2) := by decide +kernel
theorem dX11_bars_57 : decode cX11_bars 57 = .ok (.baload, 1) := by decide +kernel
theorem dX11_bars_58 : decode cX11_bars 58 = .ok (.ifCond .eq 6, 3) := by decide +kernel
theorem dX11_bars_61 : decode cX11_bars 61 = .ok (.goto 11, 3) := by decide +kernel
theorem dX11_bars_64 : decode cX11_bars 64 = .ok (.aload_n 0, 1) := by decide +kernel
theorem dX11_bars_65 : decode cX11_bars 65 = .ok (.iload 4, 2) := by decide +kernel
theorem dX11_bars_67 : decode cX11_bars 67 = .ok (.putfield 368, 3) := by decide +kernel
theorem dX11_bars_70 : decode cX11_bars 70 = .ok (.iconst 1, 1) := by decide +kernel
theorem dX11_bars_71 : decode cX11_bars 71 = .ok (.ireturn, 1) := by decide +kernel
theorem dX11_bars_72 : decode cX11_bars 72 = .ok (.iinc 4 1, 3) := by decide +kernel
theorem dX11_bars_75 : decode cX11_bars 75 = .ok (.goto (-55), 3) := by decide +kernel
theorem dX11_bars_78 : decode cX11_bars 78 = .ok (.iconst 0, 1) := by decide +kernel
theorem dX11_bars_79 : decode cX11_bars 79 = .ok (.istore 4, 2) := by decide +kernel
theorem dX11_bars_81 : decode cX11_bars 81 = .ok (.iload 4, 2) := by decide +kernel
theorem dX11_bars_83 : decode cX11_bars 83 = .ok (.sipush 144, 3) := by decide +kernel
theorem dX11_bars_86 : decode cX11_bars 86 = .ok (.if_icmp .ge 35, 3) := by decide +kernel
theorem dX11_bars_89 : decode cX11_bars 89 = .ok (.aload_n 0, 1) := by decide +kernel
theorem dX11_bars_90 : decode cX11_bars 90 = .ok (.getfield 54, 3) := by decide +kernel
theorem dX11_bars_93 : decode cX11_bars 93 = .ok (.iload 4, 2) := by decide +kernel
theorem dX11_bars_95 : decode cX11_bars 95 = .ok (.iload 4, 2) := by decide +kernel
theorem dX11_bars_97 : decode cX11_bars 97 = .ok (.iload_n 2, 1) := by decide +kernel
theorem dX11_bars_98 : decode cX11_bars 98 = .ok (.if_icmp .ne 15, 3) := by decide +kernel
theorem dX11_bars_101 : decode cX11_bars 101 = .ok (.iload_n 3, 1) := by decide +kernel
theorem dX11_bars_102 : decode cX11_bars 102 = .ok (.ifCond .eq 7, 3) := by decide +kernel
theorem dX11_bars_105 : decode cX11_bars 105 = .ok (.iconst (-1), 1) := by decide +kernel
theorem dX11_bars_106 : decode cX11_bars 106 = .ok (.goto 8, 3) := by decide +kernel
theorem dX11_bars_109 : decode cX11_bars 109 = .ok (.iconst 1, 1) := by decide +kernel
theorem dX11_bars_110 : decode cX11_bars 110 = .ok (.goto 4, 3) := by decide +kernel
theorem dX11_bars_113 : decode cX11_bars 113 = .ok (.iconst 0, 1) := by decide +kernel
theorem dX11_bars_114 : decode cX11_bars 114 = .ok (.iastore, 1) := by decide +kernel
theorem dX11_bars_115 : decode cX11_bars 115 = .ok (.iinc 4 1, 3) := by decide +kernel
theorem dX11_bars_118 : decode cX11_bars 118 = .ok (.goto (-37), 3) := by decide +kernel
theorem dX11_bars_121 : decode cX11_bars 121 = .ok (.iconst 0, 1) := by decide +kernel
theorem dX11_bars_122 : decode cX11_bars 122 = .ok (.istore 4, 2) := by decide +kernel
theorem dX11_bars_124 : decode cX11_bars 124 = .ok (.iload 4, 2) := by decide +kernel
theorem dX11_bars_126 : decode cX11_bars 126 = .ok (.aload_n 0, 1) := by decide +kernel
theorem dX11_bars_127 : decode cX11_bars 127 = .ok (.getfield 9, 3) := by decide +kernel
theorem dX11_bars_130 : decode cX11_bars 130 = .ok (.iconst 0, 1) := by decide +kernel
theorem dX11_bars_131 : decode cX11_bars 131 = .ok (.iaload, 1) := by decide +kernel
theorem dX11_bars_132 : decode cX11_bars 132 = .ok (.if_icmp .ge 89, 3) := by decide +kernel
theorem dX11_bars_135 : decode cX11_bars 135 = .ok (.aload_n 0, 1) := by decide +kernel
theorem dX11_bars_136 : decode cX11_bars 136 = .ok (.iload 4, 2) := by decide +kernel
theorem dX11_bars_138 : decode cX11_bars 138 = .ok (.invokevirtual 258, 3) := by decide +kernel
theorem dX11_bars_141 : decode cX11_bars 141 = .ok (.iload_n 1, 1) := by decide +kernel
theorem dX11_bars_142 : decode cX11_bars 142 = .ok (.if_icmp .eq 6, 3) := by decide +kernel
theorem dX11_bars_145 : decode cX11_bars 145 = .ok (.goto 70, 3) := by decide +kernel
theorem dX11_bars_148 : decode cX11_bars 148 = .ok (.aload_n 0, 1) := by decide +kernel
theorem dX11_bars_149 : decode cX11_bars 149 = .ok (.iload 4, 2) := by decide +kernel
theorem dX11_bars_151 : decode cX11_bars 151 = .ok (.invokevirtual 270, 3) := by decide +kernel
theorem dX11_bars_154 : decode cX11_bars 154 = .ok (.iconst 1, 1) := by decide +kernel
theorem dX11_bars_155 : decode cX11_bars 155 = .ok (.iand, 1) := by decide +kernel
theorem dX11_bars_156 : decode cX11_bars 156 = .ok (.ifCond .ne 7, 3) := by decide +kernel
theorem dX11_bars_159 : decode cX11_bars 159 = .ok (.iconst 1, 1) := by decide +kernel
theorem dX11_bars_160 : decode cX11_bars 160 = .ok (.goto 4, 3) := by decide +kernel
theorem dX11_bars_163 : decode cX11_bars 163 = .ok (.iconst 0, 1) := by decide +kernel
theorem dX11_bars_164 : decode cX11_bars 164 = .ok (.aload_n 0, 1) := by decide +kernel
theorem dX11_bars_165 : decode cX11_bars 165 = .ok (.iload 4, 2) := by decide +kernel
theorem dX11_bars_167 : decode cX11_bars 167 = .ok (.invokevirtual 270, 3) := by decide +kernel
theorem dX11_bars_170 : decode cX11_bars 170 = .ok (.iconst 2, 1) := by decide +kernel
theorem dX11_bars_171 : decode cX11_bars 171 = .ok (.iand, 1) := by decide +kernel
theorem dX11_bars_172 : decode cX11_bars 172 = .ok (.ifCond .ne 7, 3) := by decide +kernel
theorem dX11_bars_175 : decode cX11_bars 175 = .ok (.iconst 1, 1) := by decide +kernel
theorem dX11_bars_176 : decode cX11_bars 176 = .ok (.goto 4, 3) := by decide +kernel
theorem dX11_bars_179 : decode cX11_bars 179 = .ok (.iconst 0, 1) := by decide +kernel
theorem dX11_bars_180 : decode cX11_bars 180 = .ok (.isub, 1) := by decide +kernel
theorem dX11_bars_181 : decode cX11_bars 181 = .ok (.istore 5, 2) := by decide +kernel
theorem dX11_bars_183 : decode cX11_bars 183 = .ok (.aload_n 0, 1) := by decide +kernel
theorem dX11_bars_184 : decode cX11_bars 184 = .ok (.getfield 54, 3) := by decide +kernel
theorem dX11_bars_187 : decode cX11_bars 187 = .ok (.aload_n 0, 1) := by decide +kernel
theorem dX11_bars_188 : decode cX11_bars 188 = .ok (.iload 4, 2) := by decide +kernel
theorem dX11_bars_190 : decode cX11_bars 190 = .ok (.invokevirtual 261, 3) := by decide +kernel
theorem dX11_bars_193 : decode cX11_bars 193 = .ok (.dup2, 1) := by decide +kernel
theorem dX11_bars_194 : decode cX11_bars 194 = .ok (.iaload, 1) := by decide +kernel
theorem dX11_bars_195 : decode cX11_bars 195 = .ok (.iload 5, 2) := by decide +kernel
theorem dX11_bars_197 : decode cX11_bars 197 = .ok (.iadd, 1) := by decide +kernel
theorem dX11_bars_198 : decode cX11_bars 198 = .ok (.iastore, 1) := by decide +kernel
theorem dX11_bars_199 : decode cX11_bars 199 = .ok (.aload_n 0, 1) := by decide +kernel
theorem dX11_bars_200 : decode cX11_bars 200 = .ok (.getfield 54, 3) := by decide +kernel
theorem dX11_bars_203 : decode cX11_bars 203 = .ok (.aload_n 0, 1) := by decide +kernel
theorem dX11_bars_204 : decode cX11_bars 204 = .ok (.iload 4, 2) := by decide +kernel
theorem dX11_bars_206 : decode cX11_bars 206 = .ok (.invokevirtual 264, 3) := by decide +kernel
theorem dX11_bars_209 : decode cX11_bars 209 = .ok (.dup2, 1) := by decide +kernel
theorem dX11_bars_210 : decode cX11_bars 210 = .ok (.iaload, 1) := by decide +kernel
theorem dX11_bars_211 : decode cX11_bars 211 = .ok (.iload 5, 2) := by decide +kernel
theorem dX11_bars_213 : decode cX11_bars 213 = .ok (.iadd, 1) := by decide +kernel
theorem dX11_bars_214 : decode cX11_bars 214 = .ok (.iastore, 1) := by decide +kernel
theorem dX11_bars_215 : decode cX11_bars 215 = .ok (.iinc 4 1, 3) := by decide +kernel
theorem dX11_bars_218 : decode cX11_bars 218 = .ok (.goto (-94), 3) := by decide +kernel
theorem dX11_bars_221 : decode cX11_bars 221 = .ok (.iconst 0, 1) := by decide +kernel
theorem dX11_bars_222 : decode cX11_bars 222 = .ok (.istore 4, 2) := by decide +kernel
theorem dX11_bars_224 : decode cX11_bars 224 = .ok (.iload 4, 2) := by decide +kernel
theorem dX11_bars_226 : decode cX11_bars 226 = .ok (.sipush 144, 3) := by decide +kernel
theorem dX11_bars_229 : decode cX11_bars 229 = .ok (.if_icmp .ge 63, 3) := by decide +kernel
theorem dX11_bars_232 : decode cX11_bars 232 = .ok (.aload_n 0, 1) := by decide +kernel
theorem dX11_bars_233 : decode cX11_bars 233 = .ok (.getfield 54, 3) := by decide +kernel
theorem dX11_bars_236 : decode cX11_bars 236 = .ok (.iload 4, 2) := by decide +kernel
theorem dX11_bars_238 : decode cX11_bars 238 = .ok (.iaload, 1) := by decide +kernel
theorem dX11_bars_239 : decode cX11_bars 239 = .ok (.ifCond .ne 6, 3) := by decide +kernel
theorem dX11_bars_242 : decode cX11_bars 242 = .ok (.goto 44, 3) := by decide +kernel
theorem dX11_bars_245 : decode cX11_bars 245 = .ok (.aload_n 0, 1) := by decide +kernel
theorem dX11_bars_246 : decode cX11_bars 246 = .ok (.getfield 371, 3) := by decide +kernel
theorem dX11_bars_249 : decode cX11_bars 249 = .ok (.iconst (-1), 1) := by decide +kernel
theorem dX11_bars_250 : decode cX11_bars 250 = .ok (.if_icmp .ne 17, 3) := by decide +kernel
theorem dX11_bars_253 : decode cX11_bars 253 = .ok (.aload_n 0, 1) := by decide +kernel
theorem dX11_bars_254 : decode cX11_bars 254 = .ok (.getfield 54, 3) := by decide +kernel
theorem dX11_bars_257 : decode cX11_bars 257 = .ok (.iload 4, 2) := by decide +kernel
theorem dX11_bars_259 : decode cX11_bars 259 = .ok (.iaload, 1) := by decide +kernel
theorem dX11_bars_260 : decode cX11_bars 260 = .ok (.invokestatic 374, 3) := by decide +kernel
theorem dX11_bars_263 : decode cX11_bars 263 = .ok (.iconst 1, 1) := by decide +kernel
theorem dX11_bars_264 : decode cX11_bars 264 = .ok (.if_icmp .eq 16, 3) := by decide +kernel
theorem dX11_bars_267 : decode cX11_bars 267 = .ok (.aload_n 0, 1) := by decide +kernel
theorem dX11_bars_268 : decode cX11_bars 268 = .ok (.iload 4, 2) := by decide +kernel
theorem dX11_bars_270 : decode cX11_bars 270 = .ok (.putfield 368, 3) := by decide +kernel
theorem dX11_bars_273 : decode cX11_bars 273 = .ok (.aload_n 0, 1) := by decide +kernel
theorem dX11_bars_274 : decode cX11_bars 274 = .ok (.iconst (-1), 1) := by decide +kernel
theorem dX11_bars_275 : decode cX11_bars 275 = .ok (.putfield 371, 3) := by decide +kernel
theorem dX11_bars_278 : decode cX11_bars 278 = .ok (.iconst 2, 1) := by decide +kernel
theorem dX11_bars_279 : decode cX11_bars 279 = .ok (.ireturn, 1) := by decide +kernel
theorem dX11_bars_280 : decode cX11_bars 280 = .ok (.aload_n 0, 1) := by decide +kernel
theorem dX11_bars_281 : decode cX11_bars 281 = .ok (.iload 4, 2) := by decide +kernel
theorem dX11_bars_283 : decode cX11_bars 283 = .ok (.putfield 371, 3) := by decide +kernel
theorem dX11_bars_286 : decode cX11_bars 286 = .ok (.iinc 4 1, 3) := by decide +kernel
theorem dX11_bars_289 : decode cX11_bars 289 = .ok (.goto (-65), 3) := by decide +kernel
theorem dX11_bars_292 : decode cX11_bars 292 = .ok (.iconst 0, 1) := by decide +kernel
theorem dX11_bars_293 : decode cX11_bars 293 = .ok (.ireturn, 1) := by decide +kernel
theorem dX11_barsNow_0 : decode cX11_barsNow 0 = .ok (.aload_n 0, 1) := by decide +kernel
theorem dX11_barsNow_1 : decode cX11_barsNow 1 = .ok (.aload_n 0, 1) := by decide +kernel
theorem dX11_barsNow_2 : decode cX11_barsNow 2 = .ok (.getfield 9, 3) := by decide +kernel
theorem dX11_barsNow_5 : decode cX11_barsNow 5 = .ok (.iconst 3, 1) := by decide +kernel
theorem dX11_barsNow_6 : decode cX11_barsNow 6 = .ok (.iaload, 1) := by decide +kernel
theorem dX11_barsNow_7 : decode cX11_barsNow 7 = .ok (.aload_n 0, 1) := by decide +kernel
theorem dX11_barsNow_8 : decode cX11_barsNow 8 = .ok (.invokevirtual 330, 3) := by decide +kernel
theorem dX11_barsNow_11 : decode cX11_barsNow 11 = .ok (.aload_n 0, 1) := by decide +kernel
theorem dX11_barsNow_12 : decode cX11_barsNow 12 = .ok (.aload_n 0, 1) := by decide +kernel
theorem dX11_barsNow_13 : decode cX11_barsNow 13 = .ok (.getfield 9, 3) := by decide +kernel
theorem dX11_barsNow_16 : decode cX11_barsNow 16 = .ok (.bipush 6, 2) := by decide +kernel
theorem dX11_barsNow_18 : decode cX11_barsNow 18 = .ok (.iaload, 1) := by decide +kernel
theorem dX11_barsNow_19 : decode cX11_barsNow 19 = .ok (.invokevirtual 333, 3) := by decide +kernel
theorem dX11_barsNow_22 : decode cX11_barsNow 22 = .ok (.invokevirtual 377, 3) := by decide +kernel
theorem dX11_barsNow_25 : decode cX11_barsNow 25 = .ok (.ireturn, 1) := by decide +kernel
theorem dX11_barred_0 : decode cX11_barred 0 = .ok (.aload_n 0, 1) := by decide +kernel
theorem dX11_barred_1 : decode cX11_barred 1 = .ok (.aload_n 0, 1) := by decide +kernel
theorem dX11_barred_2 : decode cX11_barred 2 = .ok (.invokevirtual 326, 3) := by decide +kernel
theorem dX11_barred_5 : decode cX11_barred 5 = .ok (.ifCond .ne 7, 3) := by decide +kernel
theorem dX11_barred_8 : decode cX11_barred 8 = .ok (.iconst 1, 1) := by decide +kernel
theorem dX11_barred_9 : decode cX11_barred 9 = .ok (.goto 18, 3) := by decide +kernel
theorem dX11_barred_12 : decode cX11_barred 12 = .ok (.iload_n 1, 1) := by decide +kernel
theorem dX11_barred_13 : decode cX11_barred 13 = .ok (.i2l, 1) := by decide +kernel
theorem dX11_barred_14 : decode cX11_barred 14 = .ok (.lconst 0, 1) := by decide +kernel
theorem dX11_barred_15 : decode cX11_barred 15 = .ok (.lconst 1, 1) := by decide +kernel
theorem dX11_barred_16 : decode cX11_barred 16 = .ok (.invokestatic 98, 3) := by decide +kernel
theorem dX11_barred_19 : decode cX11_barred 19 = .ok (.ifCond .eq 7, 3) := by decide +kernel
theorem dX11_barred_22 : decode cX11_barred 22 = .ok (.iconst 0, 1) := by decide +kernel
theorem dX11_barred_23 : decode cX11_barred 23 = .ok (.goto 4, 3) := by decide +kernel
theorem dX11_barred_26 : decode cX11_barred 26 = .ok (.iconst 2, 1) := by decide +kernel
theorem dX11_barred_27 : decode cX11_barred 27 = .ok (.putfield 86, 3) := by decide +kernel
theorem dX11_barred_30 : decode cX11_barred 30 = .ok (.aload_n 0, 1) := by decide +kernel
theorem dX11_barred_31 : decode cX11_barred 31 = .ok (.getfield 86, 3) := by decide +kernel
theorem dX11_barred_34 : decode cX11_barred 34 = .ok (.ifCond .le 5, 3) := by decide +kernel
theorem dX11_barred_37 : decode cX11_barred 37 = .ok (.iconst 0, 1) := by decide +kernel
theorem dX11_barred_38 : decode cX11_barred 38 = .ok (.ireturn, 1) := by decide +kernel
theorem dX11_barred_39 : decode cX11_barred 39 = .ok (.aload_n 0, 1) := by decide +kernel
theorem dX11_barred_40 : decode cX11_barred 40 = .ok (.invokevirtual 381, 3) := by decide +kernel
theorem dX11_barred_43 : decode cX11_barred 43 = .ok (.istore_n 2, 1) := by decide +kernel
theorem dX11_barred_44 : decode cX11_barred 44 = .ok (.iload_n 1, 1) := by decide +kernel
theorem dX11_barred_45 : decode cX11_barred 45 = .ok (.ifCond .ne 7, 3) := by decide +kernel
theorem dX11_barred_48 : decode cX11_barred 48 = .ok (.iload_n 2, 1) := by decide +kernel
theorem dX11_barred_49 : decode cX11_barred 49 = .ok (.goto 7, 3) := by decide +kernel
theorem dX11_barred_52 : decode cX11_barred 52 = .ok (.aload_n 0, 1) := by decide +kernel
theorem dX11_barred_53 : decode cX11_barred 53 = .ok (.getfield 368, 3) := by decide +kernel
theorem dX11_barred_56 : decode cX11_barred 56 = .ok (.ireturn, 1) := by decide +kernel
theorem dX11_ending_0 : decode cX11_ending 0 = .ok (.aload_n 0, 1) := by decide +kernel
theorem dX11_ending_1 : decode cX11_ending 1 = .ok (.aload_n 0, 1) := by decide +kernel
theorem dX11_ending_2 : decode cX11_ending 2 = .ok (.invokevirtual 326, 3) := by decide +kernel
theorem dX11_ending_5 : decode cX11_ending 5 = .ok (.ifCond .eq 7, 3) := by decide +kernel
theorem dX11_ending_8 : decode cX11_ending 8 = .ok (.iconst 0, 1) := by decide +kernel
theorem dX11_ending_9 : decode cX11_ending 9 = .ok (.goto 4, 3) := by decide +kernel
theorem dX11_ending_12 : decode cX11_ending 12 = .ok (.iconst 1, 1) := by decide +kernel
theorem dX11_ending_13 : decode cX11_ending 13 = .ok (.putfield 86, 3) := by decide +kernel
theorem dX11_ending_16 : decode cX11_ending 16 = .ok (.aload_n 0, 1) := by decide +kernel
theorem dX11_ending_17 : decode cX11_ending 17 = .ok (.getfield 86, 3) := by decide +kernel
theorem dX11_ending_20 : decode cX11_ending 20 = .ok (.ifCond .le 5, 3) := by decide +kernel
theorem dX11_ending_23 : decode cX11_ending 23 = .ok (.iconst 0, 1) := by decide +kernel
theorem dX11_ending_24 : decode cX11_ending 24 = .ok (.ireturn, 1) := by decide +kernel
theorem dX11_ending_25 : decode cX11_ending 25 = .ok (.aload_n 0, 1) := by decide +kernel
theorem dX11_ending_26 : decode cX11_ending 26 = .ok (.invokevirtual 381, 3) := by decide +kernel
theorem dX11_ending_29 : decode cX11_ending 29 = .ok (.ifCond .ne 10, 3) := by decide +kernel
theorem dX11_ending_32 : decode cX11_ending 32 = .ok (.aload_n 0, 1) := by decide +kernel
theorem dX11_ending_33 : decode cX11_ending 33 = .ok (.getfield 371, 3) := by decide +kernel
theorem dX11_ending_36 : decode cX11_ending 36 = .ok (.goto 4, 3) := by decide +kernel
theorem dX11_ending_39 : decode cX11_ending 39 = .ok (.iconst (-1), 1) := by decide +kernel
theorem dX11_ending_40 : decode cX11_ending 40 = .ok (.ireturn, 1) := by decide +kernel
theorem dX11_works_0 : decode cX11_works 0 = .ok (.aload_n 0, 1) := by decide +kernel
theorem dX11_works_1 : decode cX11_works 1 = .ok (.invokevirtual 381, 3) := by decide +kernel
theorem dX11_works_4 : decode cX11_works 4 = .ok (.ifCond .eq 5, 3) := by decide +kernel
theorem dX11_works_7 : decode cX11_works 7 = .ok (.iconst (-1), 1) := by decide +kernel
theorem dX11_works_8 : decode cX11_works 8 = .ok (.ireturn, 1) := by decide +kernel
theorem dX11_works_9 : decode cX11_works 9 = .ok (.iconst 0, 1) := by decide +kernel
theorem dX11_works_10 : decode cX11_works 10 = .ok (.istore_n 1, 1) := by decide +kernel
theorem dX11_works_11 : decode cX11_works 11 = .ok (.aload_n 0, 1) := by decide +kernel
theorem dX11_works_12 : decode cX11_works 12 = .ok (.aload_n 0, 1) := by decide +kernel
theorem dX11_works_13 : decode cX11_works 13 = .ok (.getfield 9, 3) := by decide +kernel
theorem dX11_works_16 : decode cX11_works 16 = .ok (.iconst 3, 1) := by decide +kernel
theorem dX11_works_17 : decode cX11_works 17 = .ok (.iaload, 1) := by decide +kernel
theorem dX11_works_18 : decode cX11_works 18 = .ok (.invokevirtual 365, 3) := by decide +kernel
theorem dX11_works_21 : decode cX11_works 21 = .ok (.ifCond .le 25, 3) := by decide +kernel
theorem dX11_works_24 : decode cX11_works 24 = .ok (.iconst 0, 1) := by decide +kernel
theorem dX11_works_25 : decode cX11_works 25 = .ok (.istore_n 2, 1) := by decide +kernel
theorem dX11_works_26 : decode cX11_works 26 = .ok (.aload_n 0, 1) := by decide +kernel
theorem dX11_works_27 : decode cX11_works 27 = .ok (.iload_n 2, 1) := by decide +kernel
theorem dX11_works_28 : decode cX11_works 28 = .ok (.invokevirtual 384, 3) := by decide +kernel
theorem dX11_works_31 : decode cX11_works 31 = .ok (.ifCond .ne 9, 3) := by decide +kernel
theorem dX11_works_34 : decode cX11_works 34 = .ok (.iinc 2 1, 3) := by decide +kernel
theorem dX11_works_37 : decode cX11_works 37 = .ok (.goto (-11), 3) := by decide +kernel
theorem dX11_works_40 : decode cX11_works 40 = .ok (.iinc 1 1, 3) := by decide +kernel
theorem dX11_works_43 : decode cX11_works 43 = .ok (.goto (-32), 3) := by decide +kernel
theorem dX11_works_46 : decode cX11_works 46 = .ok (.iload_n 1, 1) := by decide +kernel
theorem dX11_works_47 : decode cX11_works 47 = .ok (.ireturn, 1) := by decide +kernel
theorem dX11_goesWell_0 : decode cX11_goesWell 0 = .ok (.aload_n 0, 1) := by decide +kernel
theorem dX11_goesWell_1 : decode cX11_goesWell 1 = .ok (.iload_n 1, 1) := by decide +kernel
theorem dX11_goesWell_2 : decode cX11_goesWell 2 = .ok (.i2l, 1) := by decide +kernel
theorem dX11_goesWell_3 : decode cX11_goesWell 3 = .ok (.invokevirtual 344, 3) := by decide +kernel
theorem dX11_goesWell_6 : decode cX11_goesWell 6 = .ok (.ifCond .eq 5, 3) := by decide +kernel
theorem dX11_goesWell_9 : decode cX11_goesWell 9 = .ok (.iconst 0, 1) := by decide +kernel
theorem dX11_goesWell_10 : decode cX11_goesWell 10 = .ok (.ireturn, 1) := by decide +kernel
theorem dX11_goesWell_11 : decode cX11_goesWell 11 = .ok (.aload_n 0, 1) := by decide +kernel
theorem dX11_goesWell_12 : decode cX11_goesWell 12 = .ok (.iload_n 1, 1) := by decide +kernel
theorem dX11_goesWell_13 : decode cX11_goesWell 13 = .ok (.invokevirtual 348, 3) := by decide +kernel
theorem dX11_goesWell_16 : decode cX11_goesWell 16 = .ok (.aload_n 0, 1) := by decide +kernel
theorem dX11_goesWell_17 : decode cX11_goesWell 17 = .ok (.invokevirtual 381, 3) := by decide +kernel
theorem dX11_goesWell_20 : decode cX11_goesWell 20 = .ok (.ifCond .ne 5, 3) := by decide +kernel
theorem dX11_goesWell_23 : decode cX11_goesWell 23 = .ok (.iconst 1, 1) := by decide +kernel
theorem dX11_goesWell_24 : decode cX11_goesWell 24 = .ok (.ireturn, 1) := by decide +kernel
theorem dX11_goesWell_25 : decode cX11_goesWell 25 = .ok (.aload_n 0, 1) := by decide +kernel
theorem dX11_goesWell_26 : decode cX11_goesWell 26 = .ok (.invokevirtual 351, 3) := by decide +kernel
theorem dX11_goesWell_29 : decode cX11_goesWell 29 = .ok (.iconst 0, 1) := by decide +kernel
theorem dX11_goesWell_30 : decode cX11_goesWell 30 = .ok (.ireturn, 1) := by decide +kernel
theorem dX11_working_0 : decode cX11_working 0 = .ok (.aload_n 0, 1) := by decide +kernel
theorem dX11_working_1 : decode cX11_working 1 = .ok (.aload_n 0, 1) := by decide +kernel
theorem dX11_working_2 : decode cX11_working 2 = .ok (.invokevirtual 326, 3) := by decide +kernel
theorem dX11_working_5 : decode cX11_working 5 = .ok (.ifCond .eq 7, 3) := by decide +kernel
theorem dX11_working_8 : decode cX11_working 8 = .ok (.iconst 0, 1) := by decide +kernel
theorem dX11_working_9 : decode cX11_working 9 = .ok (.goto 4, 3) := by decide +kernel
theorem dX11_working_12 : decode cX11_working 12 = .ok (.iconst 1, 1) := by decide +kernel
theorem dX11_working_13 : decode cX11_working 13 = .ok (.putfield 86, 3) := by decide +kernel
theorem dX11_working_16 : decode cX11_working 16 = .ok (.aload_n 0, 1) := by decide +kernel
theorem dX11_working_17 : decode cX11_working 17 = .ok (.getfield 86, 3) := by decide +kernel
theorem dX11_working_20 : decode cX11_working 20 = .ok (.ifCond .le 5, 3) := by decide +kernel
theorem dX11_working_23 : decode cX11_working 23 = .ok (.iconst 0, 1) := by decide +kernel
theorem dX11_working_24 : decode cX11_working 24 = .ok (.ireturn, 1) := by decide +kernel
theorem dX11_working_25 : decode cX11_working 25 = .ok (.aload_n 0, 1) := by decide +kernel
theorem dX11_working_26 : decode cX11_working 26 = .ok (.getfield 9, 3) := by decide +kernel
theorem dX11_working_29 : decode cX11_working 29 = .ok (.aload_n 0, 1) := by decide +kernel
theorem dX11_working_30 : decode cX11_working 30 = .ok (.getfield 19, 3) := by decide +kernel
theorem dX11_working_33 : decode cX11_working 33 = .ok (.invokestatic 254, 3) := by decide +kernel
theorem dX11_working_36 : decode cX11_working 36 = .ok (.aload_n 0, 1) := by decide +kernel
theorem dX11_working_37 : decode cX11_working 37 = .ok (.getfield 9, 3) := by decide +kernel
theorem dX11_working_40 : decode cX11_working 40 = .ok (.bipush 6, 2) := by decide +kernel
theorem dX11_working_42 : decode cX11_working 42 = .ok (.iaload, 1) := by decide +kernel
theorem dX11_working_43 : decode cX11_working 43 = .ok (.istore_n 2, 1) := by decide +kernel
theorem dX11_working_44 : decode cX11_working 44 = .ok (.aload_n 0, 1) := by decide +kernel
theorem dX11_working_45 : decode cX11_working 45 = .ok (.invokevirtual 387, 3) := by decide +kernel
theorem dX11_working_48 : decode cX11_working 48 = .ok (.istore_n 3, 1) := by decide +kernel
theorem dX11_working_49 : decode cX11_working 49 = .ok (.iload_n 1, 1) := by decide +kernel
theorem dX11_working_50 : decode cX11_working 50 = .ok (.iconst (-1), 1) := by decide +kernel
theorem dX11_working_51 : decode cX11_working 51 = .ok (.if_icmp .eq 8, 3) := by decide +kernel
theorem dX11_working_54 : decode cX11_working 54 = .ok (.iload_n 3, 1) := by decide +kernel
theorem dX11_working_55 : decode cX11_working 55 = .ok (.iconst (-1), 1) := by decide +kernel
theorem dX11_working_56 : decode cX11_working 56 = .ok (.if_icmp .ne 7, 3) := by decide +kernel
theorem dX11_working_59 : decode cX11_working 59 = .ok (.iload_n 3, 1) := by decide +kernel
theorem dX11_working_60 : decode cX11_working 60 = .ok (.goto 32, 3) := by decide +kernel
theorem dX11_working_63 : decode cX11_working 63 = .ok (.iload_n 1, 1) := by decide +kernel
theorem dX11_working_64 : decode cX11_working 64 = .ok (.i2l, 1) := by decide +kernel
theorem dX11_working_65 : decode cX11_working 65 = .ok (.lconst 0, 1) := by decide +kernel
theorem dX11_working_66 : decode cX11_working 66 = .ok (.iload_n 3, 1) := by decide +kernel
theorem dX11_working_67 : decode cX11_working 67 = .ok (.iconst 1, 1) := by decide +kernel
theorem dX11_working_68 : decode cX11_working 68 = .ok (.isub, 1) := by decide +kernel
theorem dX11_working_69 : decode cX11_working 69 = .ok (.i2l, 1) := by decide +kernel
theorem dX11_working_70 : decode cX11_working 70 = .ok (.invokestatic 98, 3) := by decide +kernel
theorem dX11_working_73 : decode cX11_working 73 = .ok (.ifCond .eq 18, 3) := by decide +kernel
theorem dX11_working_76 : decode cX11_working 76 = .ok (.aload_n 0, 1) := by decide +kernel
theorem dX11_working_77 : decode cX11_working 77 = .ok (.getfield 9, 3) := by decide +kernel
theorem dX11_working_80 : decode cX11_working 80 = .ok (.sipush 392, 3) := by decide +kernel
theorem dX11_working_83 : decode cX11_working 83 = .ok (.iload_n 2, 1) := by decide +kernel
theorem dX11_working_84 : decode cX11_working 84 = .ok (.iadd, 1) := by decide +kernel
theorem dX11_working_85 : decode cX11_working 85 = .ok (.iload_n 1, 1) := by decide +kernel
theorem dX11_working_86 : decode cX11_working 86 = .ok (.iadd, 1) := by decide +kernel
theorem dX11_working_87 : decode cX11_working 87 = .ok (.iaload, 1) := by decide +kernel
theorem dX11_working_88 : decode cX11_working 88 = .ok (.goto 4, 3) := by decide +kernel
theorem dX11_working_91 : decode cX11_working 91 = .ok (.iconst (-1), 1) := by decide +kernel
theorem dX11_working_92 : decode cX11_working 92 = .ok (.istore 4, 2) := by decide +kernel
theorem dX11_working_94 : decode cX11_working 94 = .ok (.aload_n 0, 1) := by decide +kernel
theorem dX11_working_95 : decode cX11_working 95 = .ok (.getfield 19, 3) := by decide +kernel
theorem dX11_working_98 : decode cX11_working 98 = .ok (.aload_n 0, 1) := by decide +kernel
theorem dX11_working_99 : decode cX11_working 99 = .ok (.getfield 9, 3) := by decide +kernel
theorem dX11_working_102 : decode cX11_working 102 = .ok (.invokestatic 254, 3) := by decide +kernel
theorem dX11_working_105 : decode cX11_working 105 = .ok (.iload 4, 2) := by decide +kernel
theorem dX11_working_107 : decode cX11_working 107 = .ok (.ireturn, 1) := by decide +kernel
theorem dX11_work_0 : decode cX11_work 0 = .ok (.aload_n 0, 1) := by decide +kernel
theorem dX11_work_1 : decode cX11_work 1 = .ok (.aload_n 0, 1) := by decide +kernel
theorem dX11_work_2 : decode cX11_work 2 = .ok (.invokevirtual 326, 3) := by decide +kernel
theorem dX11_work_5 : decode cX11_work 5 = .ok (.ifCond .eq 7, 3) := by decide +kernel
theorem dX11_work_8 : decode cX11_work 8 = .ok (.iconst 0, 1) := by decide +kernel
theorem dX11_work_9 : decode cX11_work 9 = .ok (.goto 4, 3) := by decide +kernel
theorem dX11_work_12 : decode cX11_work 12 = .ok (.iconst 1, 1) := by decide +kernel
theorem dX11_work_13 : decode cX11_work 13 = .ok (.putfield 86, 3) := by decide +kernel
theorem dX11_work_16 : decode cX11_work 16 = .ok (.aload_n 0, 1) := by decide +kernel
theorem dX11_work_17 : decode cX11_work 17 = .ok (.getfield 86, 3) := by decide +kernel
theorem dX11_work_20 : decode cX11_work 20 = .ok (.ifCond .le 7, 3) := by decide +kernel
theorem dX11_work_23 : decode cX11_work 23 = .ok (.iconst 0, 1) := by decide +kernel
theorem dX11_work_24 : decode cX11_work 24 = .ok (.goto 7, 3) := by decide +kernel
theorem dX11_work_27 : decode cX11_work 27 = .ok (.aload_n 0, 1) := by decide +kernel
theorem dX11_work_28 : decode cX11_work 28 = .ok (.invokevirtual 387, 3) := by decide +kernel
theorem dX11_work_31 : decode cX11_work 31 = .ok (.ireturn, 1) := by decide +kernel
theorem dX11_waysOn_0 : decode cX11_waysOn 0 = .ok (.aload_n 0, 1) := by decide +kernel
theorem dX11_waysOn_1 : decode cX11_waysOn 1 = .ok (.aload_n 0, 1) := by decide +kernel
theorem dX11_waysOn_2 : decode cX11_waysOn 2 = .ok (.getfield 9, 3) := by decide +kernel
theorem dX11_waysOn_5 : decode cX11_waysOn 5 = .ok (.iconst 3, 1) := by decide +kernel
theorem dX11_waysOn_6 : decode cX11_waysOn 6 = .ok (.iaload, 1) := by decide +kernel
theorem dX11_waysOn_7 : decode cX11_waysOn 7 = .ok (.invokevirtual 365, 3) := by decide +kernel
theorem dX11_waysOn_10 : decode cX11_waysOn 10 = .ok (.ifCond .ne 5, 3) := by decide +kernel
theorem dX11_waysOn_13 : decode cX11_waysOn 13 = .ok (.iconst 1, 1) := by decide +kernel
theorem dX11_waysOn_14 : decode cX11_waysOn 14 = .ok (.ireturn, 1) := by decide +kernel
theorem dX11_waysOn_15 : decode cX11_waysOn 15 = .ok (.iconst 0, 1) := by decide +kernel
theorem dX11_waysOn_16 : decode cX11_waysOn 16 = .ok (.istore_n 1, 1) := by decide +kernel
theorem dX11_waysOn_17 : decode cX11_waysOn 17 = .ok (.iconst 0, 1) := by decide +kernel
theorem dX11_waysOn_18 : decode cX11_waysOn 18 = .ok (.istore_n 2, 1) := by decide +kernel
theorem dX11_waysOn_19 : decode cX11_waysOn 19 = .ok (.iload_n 2, 1) := by decide +kernel
theorem dX11_waysOn_20 : decode cX11_waysOn 20 = .ok (.bipush 8, 2) := by decide +kernel
theorem dX11_waysOn_22 : decode cX11_waysOn 22 = .ok (.if_icmp .ge 31, 3) := by decide +kernel
theorem dX11_waysOn_25 : decode cX11_waysOn 25 = .ok (.aload_n 0, 1) := by decide +kernel
theorem dX11_waysOn_26 : decode cX11_waysOn 26 = .ok (.iload_n 2, 1) := by decide +kernel
theorem dX11_waysOn_27 : decode cX11_waysOn 27 = .ok (.invokevirtual 384, 3) := by decide +kernel
theorem dX11_waysOn_30 : decode cX11_waysOn 30 = .ok (.ifCond .ne 6, 3) := by decide +kernel
theorem dX11_waysOn_33 : decode cX11_waysOn 33 = .ok (.goto 14, 3) := by decide +kernel
theorem dX11_waysOn_36 : decode cX11_waysOn 36 = .ok (.iload_n 1, 1) := by decide +kernel
theorem dX11_waysOn_37 : decode cX11_waysOn 37 = .ok (.aload_n 0, 1) := by decide +kernel
theorem dX11_waysOn_38 : decode cX11_waysOn 38 = .ok (.invokevirtual 390, 3) := by decide +kernel
theorem dX11_waysOn_41 : decode cX11_waysOn 41 = .ok (.iadd, 1) := by decide +kernel
theorem dX11_waysOn_42 : decode cX11_waysOn 42 = .ok (.istore_n 1, 1) := by decide +kernel
theorem dX11_waysOn_43 : decode cX11_waysOn 43 = .ok (.aload_n 0, 1) := by decide +kernel
theorem dX11_waysOn_44 : decode cX11_waysOn 44 = .ok (.invokevirtual 351, 3) := by decide +kernel
theorem dX11_waysOn_47 : decode cX11_waysOn 47 = .ok (.iinc 2 1, 3) := by decide +kernel
theorem dX11_waysOn_50 : decode cX11_waysOn 50 = .ok (.goto (-31), 3) := by decide +kernel
theorem dX11_waysOn_53 : decode cX11_waysOn 53 = .ok (.iload_n 1, 1) := by decide +kernel
theorem dX11_waysOn_54 : decode cX11_waysOn 54 = .ok (.ireturn, 1) := by decide +kernel
theorem dX11_ways_0 : decode cX11_ways 0 = .ok (.aload_n 0, 1) := by decide +kernel
theorem dX11_ways_1 : decode cX11_ways 1 = .ok (.aload_n 0, 1) := by decide +kernel
theorem dX11_ways_2 : decode cX11_ways 2 = .ok (.invokevirtual 326, 3) := by decide +kernel
theorem dX11_ways_5 : decode cX11_ways 5 = .ok (.ifCond .eq 7, 3) := by decide +kernel
theorem dX11_ways_8 : decode cX11_ways 8 = .ok (.iconst 0, 1) := by decide +kernel
theorem dX11_ways_9 : decode cX11_ways 9 = .ok (.goto 4, 3) := by decide +kernel
theorem dX11_ways_12 : decode cX11_ways 12 = .ok (.iconst 1, 1) := by decide +kernel
theorem dX11_ways_13 : decode cX11_ways 13 = .ok (.putfield 86, 3) := by decide +kernel
theorem dX11_ways_16 : decode cX11_ways 16 = .ok (.aload_n 0, 1) := by decide +kernel
theorem dX11_ways_17 : decode cX11_ways 17 = .ok (.getfield 86, 3) := by decide +kernel
theorem dX11_ways_20 : decode cX11_ways 20 = .ok (.ifCond .le 5, 3) := by decide +kernel
theorem dX11_ways_23 : decode cX11_ways 23 = .ok (.iconst 0, 1) := by decide +kernel
theorem dX11_ways_24 : decode cX11_ways 24 = .ok (.ireturn, 1) := by decide +kernel
theorem dX11_ways_25 : decode cX11_ways 25 = .ok (.aload_n 0, 1) := by decide +kernel
theorem dX11_ways_26 : decode cX11_ways 26 = .ok (.aload_n 0, 1) := by decide +kernel
theorem dX11_ways_27 : decode cX11_ways 27 = .ok (.getfield 9, 3) := by decide +kernel
theorem dX11_ways_30 : decode cX11_ways 30 = .ok (.iconst 3, 1) := by decide +kernel
theorem dX11_ways_31 : decode cX11_ways 31 = .ok (.iaload, 1) := by decide +kernel
theorem dX11_ways_32 : decode cX11_ways 32 = .ok (.invokevirtual 365, 3) := by decide +kernel
theorem dX11_ways_35 : decode cX11_ways 35 = .ok (.bipush 16, 2) := by decide +kernel
theorem dX11_ways_37 : decode cX11_ways 37 = .ok (.if_icmp .le 6, 3) := by decide +kernel
theorem dX11_ways_40 : decode cX11_ways 40 = .ok (.bipush (-2), 2) := by decide +kernel
theorem dX11_ways_42 : decode cX11_ways 42 = .ok (.ireturn, 1) := by decide +kernel
theorem dX11_ways_43 : decode cX11_ways 43 = .ok (.aload_n 0, 1) := by decide +kernel
theorem dX11_ways_44 : decode cX11_ways 44 = .ok (.invokevirtual 381, 3) := by decide +kernel
theorem dX11_ways_47 : decode cX11_ways 47 = .ok (.ifCond .ne 10, 3) := by decide +kernel
theorem dX11_ways_50 : decode cX11_ways 50 = .ok (.aload_n 0, 1) := by decide +kernel
theorem dX11_ways_51 : decode cX11_ways 51 = .ok (.invokevirtual 390, 3) := by decide +kernel
theorem dX11_ways_54 : decode cX11_ways 54 = .ok (.goto 4, 3) := by decide +kernel
theorem dX11_ways_57 : decode cX11_ways 57 = .ok (.iconst 0, 1) := by decide +kernel
theorem dX11_ways_58 : decode cX11_ways 58 = .ok (.ireturn, 1) := by decide +kernel
theorem dX11_isWell_0 : decode cX11_isWell 0 = .ok (.aload_n 0, 1) := by decide +kernel
theorem dX11_isWell_1 : decode cX11_isWell 1 = .ok (.getfield 9, 3) := by decide +kernel
theorem dX11_isWell_4 : decode cX11_isWell 4 = .ok (.bipush 6, 2) := by decide +kernel
theorem dX11_isWell_6 : decode cX11_isWell 6 = .ok (.iaload, 1) := by decide +kernel
theorem dX11_isWell_7 : decode cX11_isWell 7 = .ok (.istore_n 3, 1) := by decide +kernel
theorem dX11_isWell_8 : decode cX11_isWell 8 = .ok (.iconst 0, 1) := by decide +kernel
theorem dX11_isWell_9 : decode cX11_isWell 9 = .ok (.istore 4, 2) := by decide +kernel
theorem dX11_isWell_11 : decode cX11_isWell 11 = .ok (.iload 4, 2) := by decide +kernel
theorem dX11_isWell_13 : decode cX11_isWell 13 = .ok (.iload_n 3, 1) := by decide +kernel
theorem dX11_isWell_14 : decode cX11_isWell 14 = .ok (.if_icmp .ge 57, 3) := by decide +kernel
theorem dX11_isWell_17 : decode cX11_isWell 17 = .ok (.iload 4, 2) := by decide +kernel
theorem dX11_isWell_19 : decode cX11_isWell 19 = .ok (.iload_n 1, 1) := by decide +kernel
theorem dX11_isWell_20 : decode cX11_isWell 20 = .ok (.if_icmp .lt 11, 3) := by decide +kernel
theorem dX11_isWell_23 : decode cX11_isWell 23 = .ok (.iload 4, 2) := by decide +kernel
theorem dX11_isWell_25 : decode cX11_isWell 25 = .ok (.iload_n 3, 1) := by decide +kernel
theorem dX11_isWell_26 : decode cX11_isWell 26 = .ok (.iload_n 2, 1) := by decide +kernel
theorem dX11_isWell_27 : decode cX11_isWell 27 = .ok (.isub, 1) := by decide +kernel
theorem dX11_isWell_28 : decode cX11_isWell 28 = .ok (.if_icmp .lt 37, 3) := by decide +kernel
theorem dX11_isWell_31 : decode cX11_isWell 31 = .ok (.aload_n 0, 1) := by decide +kernel
theorem dX11_isWell_32 : decode cX11_isWell 32 = .ok (.aload_n 0, 1) := by decide +kernel
theorem dX11_isWell_33 : decode cX11_isWell 33 = .ok (.getfield 9, 3) := by decide +kernel
theorem dX11_isWell_36 : decode cX11_isWell 36 = .ok (.aload_n 0, 1) := by decide +kernel
theorem dX11_isWell_37 : decode cX11_isWell 37 = .ok (.iload 4, 2) := by decide +kernel
theorem dX11_isWell_39 : decode cX11_isWell 39 = .ok (.invokevirtual 323, 3) := by decide +kernel
theorem dX11_isWell_42 : decode cX11_isWell 42 = .ok (.aload_n 0, 1) := by decide +kernel
theorem dX11_isWell_43 : decode cX11_isWell 43 = .ok (.getfield 9, 3) := by decide +kernel
theorem dX11_isWell_46 : decode cX11_isWell 46 = .ok (.sipush 392, 3) := by decide +kernel
theorem dX11_isWell_49 : decode cX11_isWell 49 = .ok (.iload 4, 2) := by decide +kernel
theorem dX11_isWell_51 : decode cX11_isWell 51 = .ok (.iadd, 1) := by decide +kernel
theorem dX11_isWell_52 : decode cX11_isWell 52 = .ok (.iaload, 1) := by decide +kernel
theorem dX11_isWell_53 : decode cX11_isWell 53 = .ok (.invokestatic 236, 3) := by decide +kernel
theorem dX11_isWell_56 : decode cX11_isWell 56 = .ok (.aload_n 0, 1) := by decide +kernel
theorem dX11_isWell_57 : decode cX11_isWell 57 = .ok (.iload 4, 2) := by decide +kernel
theorem dX11_isWell_59 : decode cX11_isWell 59 = .ok (.invokevirtual 333, 3) := by decide +kernel
theorem dX11_isWell_62 : decode cX11_isWell 62 = .ok (.invokevirtual 340, 3) := by decide +kernel
theorem dX11_isWell_65 : decode cX11_isWell 65 = .ok (.iinc 4 1, 3) := by decide +kernel
theorem dX11_isWell_68 : decode cX11_isWell 68 = .ok (.goto (-57), 3) := by decide +kernel
theorem dX11_isWell_71 : decode cX11_isWell 71 = .ok (.iload_n 1, 1) := by decide +kernel
theorem dX11_isWell_72 : decode cX11_isWell 72 = .ok (.iload_n 2, 1) := by decide +kernel
theorem dX11_isWell_73 : decode cX11_isWell 73 = .ok (.iadd, 1) := by decide +kernel
theorem dX11_isWell_74 : decode cX11_isWell 74 = .ok (.iload_n 3, 1) := by decide +kernel
theorem dX11_isWell_75 : decode cX11_isWell 75 = .ok (.if_icmp .ne 7, 3) := by decide +kernel
theorem dX11_isWell_78 : decode cX11_isWell 78 = .ok (.iconst 0, 1) := by decide +kernel
theorem dX11_isWell_79 : decode cX11_isWell 79 = .ok (.goto 6, 3) := by decide +kernel
theorem dX11_isWell_82 : decode cX11_isWell 82 = .ok (.iload_n 3, 1) := by decide +kernel
theorem dX11_isWell_83 : decode cX11_isWell 83 = .ok (.iload_n 2, 1) := by decide +kernel
theorem dX11_isWell_84 : decode cX11_isWell 84 = .ok (.isub, 1) := by decide +kernel
theorem dX11_isWell_85 : decode cX11_isWell 85 = .ok (.istore 4, 2) := by decide +kernel
theorem dX11_isWell_87 : decode cX11_isWell 87 = .ok (.aload_n 0, 1) := by decide +kernel
theorem dX11_isWell_88 : decode cX11_isWell 88 = .ok (.aload_n 0, 1) := by decide +kernel
theorem dX11_isWell_89 : decode cX11_isWell 89 = .ok (.getfield 9, 3) := by decide +kernel
theorem dX11_isWell_92 : decode cX11_isWell 92 = .ok (.iconst 3, 1) := by decide +kernel
theorem dX11_isWell_93 : decode cX11_isWell 93 = .ok (.iaload, 1) := by decide +kernel
theorem dX11_isWell_94 : decode cX11_isWell 94 = .ok (.aload_n 0, 1) := by decide +kernel
theorem dX11_isWell_95 : decode cX11_isWell 95 = .ok (.iload 4, 2) := by decide +kernel
theorem dX11_isWell_97 : decode cX11_isWell 97 = .ok (.invokevirtual 323, 3) := by decide +kernel
theorem dX11_isWell_100 : decode cX11_isWell 100 = .ok (.aload_n 0, 1) := by decide +kernel
theorem dX11_isWell_101 : decode cX11_isWell 101 = .ok (.iload 4, 2) := by decide +kernel
theorem dX11_isWell_103 : decode cX11_isWell 103 = .ok (.invokevirtual 333, 3) := by decide +kernel
theorem dX11_isWell_106 : decode cX11_isWell 106 = .ok (.invokevirtual 377, 3) := by decide +kernel
theorem dX11_isWell_109 : decode cX11_isWell 109 = .ok (.ifCond .ne 7, 3) := by decide +kernel
theorem dX11_isWell_112 : decode cX11_isWell 112 = .ok (.iconst 1, 1) := by decide +kernel
theorem dX11_isWell_113 : decode cX11_isWell 113 = .ok (.goto 4, 3) := by decide +kernel
theorem dX11_isWell_116 : decode cX11_isWell 116 = .ok (.iconst 0, 1) := by decide +kernel
theorem dX11_isWell_117 : decode cX11_isWell 117 = .ok (.istore 5, 2) := by decide +kernel
theorem dX11_isWell_119 : decode cX11_isWell 119 = .ok (.iconst 0, 1) := by decide +kernel
theorem dX11_isWell_120 : decode cX11_isWell 120 = .ok (.istore 6, 2) := by decide +kernel
theorem dX11_isWell_122 : decode cX11_isWell 122 = .ok (.iload 6, 2) := by decide +kernel
theorem dX11_isWell_124 : decode cX11_isWell 124 = .ok (.iload_n 3, 1) := by decide +kernel
theorem dX11_isWell_125 : decode cX11_isWell 125 = .ok (.if_icmp .ge 57, 3) := by decide +kernel
theorem dX11_isWell_128 : decode cX11_isWell 128 = .ok (.iload 6, 2) := by decide +kernel
theorem dX11_isWell_130 : decode cX11_isWell 130 = .ok (.iload_n 1, 1) := by decide +kernel
theorem dX11_isWell_131 : decode cX11_isWell 131 = .ok (.if_icmp .lt 11, 3) := by decide +kernel
theorem dX11_isWell_134 : decode cX11_isWell 134 = .ok (.iload 6, 2) := by decide +kernel
theorem dX11_isWell_136 : decode cX11_isWell 136 = .ok (.iload_n 3, 1) := by decide +kernel
theorem dX11_isWell_137 : decode cX11_isWell 137 = .ok (.iload_n 2, 1) := by decide +kernel
theorem dX11_isWell_138 : decode cX11_isWell 138 = .ok (.isub, 1) := by decide +kernel
theorem dX11_isWell_139 : decode cX11_isWell 139 = .ok (.if_icmp .lt 37, 3) := by decide +kernel
theorem dX11_isWell_142 : decode cX11_isWell 142 = .ok (.aload_n 0, 1) := by decide +kernel
theorem dX11_isWell_143 : decode cX11_isWell 143 = .ok (.aload_n 0, 1) := by decide +kernel
theorem dX11_isWell_144 : decode cX11_isWell 144 = .ok (.getfield 9, 3) := by decide +kernel
theorem dX11_isWell_147 : decode cX11_isWell 147 = .ok (.aload_n 0, 1) := by decide +kernel
theorem dX11_isWell_148 : decode cX11_isWell 148 = .ok (.iload 6, 2) := by decide +kernel
theorem dX11_isWell_150 : decode cX11_isWell 150 = .ok (.invokevirtual 323, 3) := by decide +kernel
theorem dX11_isWell_153 : decode cX11_isWell 153 = .ok (.aload_n 0, 1) := by decide +kernel
theorem dX11_isWell_154 : decode cX11_isWell 154 = .ok (.getfield 9, 3) := by decide +kernel
theorem dX11_isWell_157 : decode cX11_isWell 157 = .ok (.sipush 392, 3) := by decide +kernel
theorem dX11_isWell_160 : decode cX11_isWell 160 = .ok (.iload 6, 2) := by decide +kernel
theorem dX11_isWell_162 : decode cX11_isWell 162 = .ok (.iadd, 1) := by decide +kernel
theorem dX11_isWell_163 : decode cX11_isWell 163 = .ok (.iaload, 1) := by decide +kernel
theorem dX11_isWell_164 : decode cX11_isWell 164 = .ok (.invokestatic 236, 3) := by decide +kernel
theorem dX11_isWell_167 : decode cX11_isWell 167 = .ok (.aload_n 0, 1) := by decide +kernel
theorem dX11_isWell_168 : decode cX11_isWell 168 = .ok (.iload 6, 2) := by decide +kernel
theorem dX11_isWell_170 : decode cX11_isWell 170 = .ok (.invokevirtual 333, 3) := by decide +kernel
theorem dX11_isWell_173 : decode cX11_isWell 173 = .ok (.invokevirtual 340, 3) := by decide +kernel
theorem dX11_isWell_176 : decode cX11_isWell 176 = .ok (.iinc 6 1, 3) := by decide +kernel
theorem dX11_isWell_179 : decode cX11_isWell 179 = .ok (.goto (-57), 3) := by decide +kernel
theorem dX11_isWell_182 : decode cX11_isWell 182 = .ok (.iload 5, 2) := by decide +kernel
theorem dX11_isWell_184 : decode cX11_isWell 184 = .ok (.ireturn, 1) := by decide +kernel
theorem dX11_unpicked_0 : decode cX11_unpicked 0 = .ok (.aload_n 0, 1) := by decide +kernel
theorem dX11_unpicked_1 : decode cX11_unpicked 1 = .ok (.aload_n 0, 1) := by decide +kernel
theorem dX11_unpicked_2 : decode cX11_unpicked 2 = .ok (.invokevirtual 326, 3) := by decide +kernel
theorem dX11_unpicked_5 : decode cX11_unpicked 5 = .ok (.ifCond .ne 7, 3) := by decide +kernel
theorem dX11_unpicked_8 : decode cX11_unpicked 8 = .ok (.iconst 1, 1) := by decide +kernel
theorem dX11_unpicked_9 : decode cX11_unpicked 9 = .ok (.goto 20, 3) := by decide +kernel
theorem dX11_unpicked_12 : decode cX11_unpicked 12 = .ok (.iload_n 2, 1) := by decide +kernel
theorem dX11_unpicked_13 : decode cX11_unpicked 13 = .ok (.i2l, 1) := by decide +kernel
theorem dX11_unpicked_14 : decode cX11_unpicked 14 = .ok (.lconst 0, 1) := by decide +kernel
theorem dX11_unpicked_15 : decode cX11_unpicked 15 = .ok (.ldc2_w 393, 3) := by decide +kernel
theorem dX11_unpicked_18 : decode cX11_unpicked 18 = .ok (.invokestatic 98, 3) := by decide +kernel
theorem dX11_unpicked_21 : decode cX11_unpicked 21 = .ok (.ifCond .eq 7, 3) := by decide +kernel
theorem dX11_unpicked_24 : decode cX11_unpicked 24 = .ok (.iconst 0, 1) := by decide +kernel
theorem dX11_unpicked_25 : decode cX11_unpicked 25 = .ok (.goto 4, 3) := by decide +kernel
theorem dX11_unpicked_28 : decode cX11_unpicked 28 = .ok (.iconst 2, 1) := by decide +kernel
theorem dX11_unpicked_29 : decode cX11_unpicked 29 = .ok (.putfield 86, 3) := by decide +kernel
theorem dX11_unpicked_32 : decode cX11_unpicked 32 = .ok (.aload_n 0, 1) := by decide +kernel
theorem dX11_unpicked_33 : decode cX11_unpicked 33 = .ok (.getfield 86, 3) := by decide +kernel
theorem dX11_unpicked_36 : decode cX11_unpicked 36 = .ok (.ifCond .le 5, 3) := by decide +kernel
theorem dX11_unpicked_39 : decode cX11_unpicked 39 = .ok (.iconst 0, 1) := by decide +kernel
theorem dX11_unpicked_40 : decode cX11_unpicked 40 = .ok (.ireturn, 1) := by decide +kernel
theorem dX11_unpicked_41 : decode cX11_unpicked 41 = .ok (.aload_n 0, 1) := by decide +kernel
theorem dX11_unpicked_42 : decode cX11_unpicked 42 = .ok (.getfield 9, 3) := by decide +kernel
theorem dX11_unpicked_45 : decode cX11_unpicked 45 = .ok (.bipush 6, 2) := by decide +kernel
theorem dX11_unpicked_47 : decode cX11_unpicked 47 = .ok (.iaload, 1) := by decide +kernel
theorem dX11_unpicked_48 : decode cX11_unpicked 48 = .ok (.istore_n 3, 1) := by decide +kernel
theorem dX11_unpicked_49 : decode cX11_unpicked 49 = .ok (.iconst 0, 1) := by decide +kernel
theorem dX11_unpicked_50 : decode cX11_unpicked 50 = .ok (.istore 4, 2) := by decide +kernel
theorem dX11_unpicked_52 : decode cX11_unpicked 52 = .ok (.iload 4, 2) := by decide +kernel
theorem dX11_unpicked_54 : decode cX11_unpicked 54 = .ok (.iload_n 3, 1) := by decide +kernel
theorem dX11_unpicked_55 : decode cX11_unpicked 55 = .ok (.if_icmp .gt 78, 3) := by decide +kernel
theorem dX11_unpicked_58 : decode cX11_unpicked 58 = .ok (.iconst 0, 1) := by decide +kernel
theorem dX11_unpicked_59 : decode cX11_unpicked 59 = .ok (.istore 5, 2) := by decide +kernel
theorem dX11_unpicked_61 : decode cX11_unpicked 61 = .ok (.iload 5, 2) := by decide +kernel
theorem dX11_unpicked_63 : decode cX11_unpicked 63 = .ok (.iload_n 1, 1) := by decide +kernel
theorem dX11_unpicked_64 : decode cX11_unpicked 64 = .ok (.ifCond .eq 14, 3) := by decide +kernel
theorem dX11_unpicked_67 : decode cX11_unpicked 67 = .ok (.iload 4, 2) := by decide +kernel
theorem dX11_unpicked_69 : decode cX11_unpicked 69 = .ok (.iload_n 3, 1) := by decide +kernel
theorem dX11_unpicked_70 : decode cX11_unpicked 70 = .ok (.if_icmp .ge 8, 3) := by decide +kernel
theorem dX11_unpicked_73 : decode cX11_unpicked 73 = .ok (.iload 4, 2) := by decide +kernel
theorem dX11_unpicked_75 : decode cX11_unpicked 75 = .ok (.goto 4, 3) := by decide +kernel
theorem dX11_unpicked_78 : decode cX11_unpicked 78 = .ok (.iconst 0, 1) := by decide +kernel
theorem dX11_unpicked_79 : decode cX11_unpicked 79 = .ok (.if_icmp .gt 48, 3) := by decide +kernel
theorem dX11_unpicked_82 : decode cX11_unpicked 82 = .ok (.aload_n 0, 1) := by decide +kernel
theorem dX11_unpicked_83 : decode cX11_unpicked 83 = .ok (.iload 5, 2) := by decide +kernel
theorem dX11_unpicked_85 : decode cX11_unpicked 85 = .ok (.iload 4, 2) := by decide +kernel
theorem dX11_unpicked_87 : decode cX11_unpicked 87 = .ok (.iload 5, 2) := by decide +kernel
theorem dX11_unpicked_89 : decode cX11_unpicked 89 = .ok (.isub, 1) := by decide +kernel
theorem dX11_unpicked_90 : decode cX11_unpicked 90 = .ok (.invokevirtual 395, 3) := by decide +kernel
theorem dX11_unpicked_93 : decode cX11_unpicked 93 = .ok (.ifCond .eq 28, 3) := by decide +kernel
theorem dX11_unpicked_96 : decode cX11_unpicked 96 = .ok (.iload_n 2, 1) := by decide +kernel
theorem dX11_unpicked_97 : decode cX11_unpicked 97 = .ok (.ifCond .ne 8, 3) := by decide +kernel
theorem dX11_unpicked_100 : decode cX11_unpicked 100 = .ok (.iload 4, 2) := by decide +kernel
theorem dX11_unpicked_102 : decode cX11_unpicked 102 = .ok (.goto 18, 3) := by decide +kernel
theorem dX11_unpicked_105 : decode cX11_unpicked 105 = .ok (.iload_n 2, 1) := by decide +kernel
theorem dX11_unpicked_106 : decode cX11_unpicked 106 = .ok (.iconst 1, 1) := by decide +kernel
theorem dX11_unpicked_107 : decode cX11_unpicked 107 = .ok (.if_icmp .ne 8, 3) := by decide +kernel
theorem dX11_unpicked_110 : decode cX11_unpicked 110 = .ok (.iload 5, 2) := by decide +kernel
theorem dX11_unpicked_112 : decode cX11_unpicked 112 = .ok (.goto 8, 3) := by decide +kernel
theorem dX11_unpicked_115 : decode cX11_unpicked 115 = .ok (.iload 4, 2) := by decide +kernel
theorem dX11_unpicked_117 : decode cX11_unpicked 117 = .ok (.iload 5, 2) := by decide +kernel
theorem dX11_unpicked_119 : decode cX11_unpicked 119 = .ok (.isub, 1) := by decide +kernel
theorem dX11_unpicked_120 : decode cX11_unpicked 120 = .ok (.ireturn, 1) := by decide +kernel
theorem dX11_unpicked_121 : decode cX11_unpicked 121 = .ok (.iinc 5 1, 3) := by decide +kernel
theorem dX11_unpicked_124 : decode cX11_unpicked 124 = .ok (.goto (-63), 3) := by decide +kernel
theorem dX11_unpicked_127 : decode cX11_unpicked 127 = .ok (.iinc 4 1, 3) := by decide +kernel
theorem dX11_unpicked_130 : decode cX11_unpicked 130 = .ok (.goto (-78), 3) := by decide +kernel
theorem dX11_unpicked_133 : decode cX11_unpicked 133 = .ok (.iconst (-1), 1) := by decide +kernel
theorem dX11_unpicked_134 : decode cX11_unpicked 134 = .ok (.ireturn, 1) := by decide +kernel
theorem dX11_places_0 : decode cX11_places 0 = .ok (.aload_n 0, 1) := by decide +kernel
theorem dX11_places_1 : decode cX11_places 1 = .ok (.iload_n 1, 1) := by decide +kernel
theorem dX11_places_2 : decode cX11_places 2 = .ok (.invokestatic 280, 3) := by decide +kernel
theorem dX11_places_5 : decode cX11_places 5 = .ok (.ifCond .eq 7, 3) := by decide +kernel
theorem dX11_places_8 : decode cX11_places 8 = .ok (.iconst 0, 1) := by decide +kernel
theorem dX11_places_9 : decode cX11_places 9 = .ok (.goto 4, 3) := by decide +kernel
theorem dX11_places_12 : decode cX11_places 12 = .ok (.iconst 1, 1) := by decide +kernel
theorem dX11_places_13 : decode cX11_places 13 = .ok (.putfield 86, 3) := by decide +kernel
theorem dX11_places_16 : decode cX11_places 16 = .ok (.aload_n 0, 1) := by decide +kernel
theorem dX11_places_17 : decode cX11_places 17 = .ok (.getfield 86, 3) := by decide +kernel
theorem dX11_places_20 : decode cX11_places 20 = .ok (.ifCond .le 5, 3) := by decide +kernel
theorem dX11_places_23 : decode cX11_places 23 = .ok (.iconst 0, 1) := by decide +kernel
theorem dX11_places_24 : decode cX11_places 24 = .ok (.ireturn, 1) := by decide +kernel
theorem dX11_places_25 : decode cX11_places 25 = .ok (.iconst 0, 1) := by decide +kernel
theorem dX11_places_26 : decode cX11_places 26 = .ok (.istore_n 2, 1) := by decide +kernel
theorem dX11_places_27 : decode cX11_places 27 = .ok (.iconst 0, 1) := by decide +kernel
theorem dX11_places_28 : decode cX11_places 28 = .ok (.istore_n 3, 1) := by decide +kernel
theorem dX11_places_29 : decode cX11_places 29 = .ok (.iload_n 3, 1) := by decide +kernel
theorem dX11_places_30 : decode cX11_places 30 = .ok (.sipush 144, 3) := by decide +kernel
theorem dX11_places_33 : decode cX11_places 33 = .ok (.if_icmp .ge 43, 3) := by decide +kernel
theorem dX11_places_36 : decode cX11_places 36 = .ok (.iload_n 2, 1) := by decide +kernel
theorem dX11_places_37 : decode cX11_places 37 = .ok (.aload_n 0, 1) := by decide +kernel
theorem dX11_places_38 : decode cX11_places 38 = .ok (.iload_n 1, 1) := by decide +kernel
theorem dX11_places_39 : decode cX11_places 39 = .ok (.iload_n 3, 1) := by decide +kernel
theorem dX11_places_40 : decode cX11_places 40 = .ok (.iconst 1, 1) := by decide +kernel
theorem dX11_places_41 : decode cX11_places 41 = .ok (.invokevirtual 377, 3) := by decide +kernel
theorem dX11_places_44 : decode cX11_places 44 = .ok (.ifCond .ne 7, 3) := by decide +kernel
theorem dX11_places_47 : decode cX11_places 47 = .ok (.iconst 1, 1) := by decide +kernel
theorem dX11_places_48 : decode cX11_places 48 = .ok (.goto 4, 3) := by decide +kernel
theorem dX11_places_51 : decode cX11_places 51 = .ok (.iconst 0, 1) := by decide +kernel
theorem dX11_places_52 : decode cX11_places 52 = .ok (.aload_n 0, 1) := by decide +kernel
theorem dX11_places_53 : decode cX11_places 53 = .ok (.iload_n 1, 1) := by decide +kernel
theorem dX11_places_54 : decode cX11_places 54 = .ok (.iload_n 3, 1) := by decide +kernel
theorem dX11_places_55 : decode cX11_places 55 = .ok (.iconst 0, 1) := by decide +kernel
theorem dX11_places_56 : decode cX11_places 56 = .ok (.invokevirtual 377, 3) := by decide +kernel
theorem dX11_places_59 : decode cX11_places 59 = .ok (.ifCond .ne 7, 3) := by decide +kernel
theorem dX11_places_62 : decode cX11_places 62 = .ok (.iconst 1, 1) := by decide +kernel
theorem dX11_places_63 : decode cX11_places 63 = .ok (.goto 4, 3) := by decide +kernel
theorem dX11_places_66 : decode cX11_places 66 = .ok (.iconst 0, 1) := by decide +kernel
theorem dX11_places_67 : decode cX11_places 67 = .ok (.iadd, 1) := by decide +kernel
theorem dX11_places_68 : decode cX11_places 68 = .ok (.iadd, 1) := by decide +kernel
theorem dX11_places_69 : decode cX11_places 69 = .ok (.istore_n 2, 1) := by decide +kernel
theorem dX11_places_70 : decode cX11_places 70 = .ok (.iinc 3 1, 3) := by decide +kernel
theorem dX11_places_73 : decode cX11_places 73 = .ok (.goto (-44), 3) := by decide +kernel
theorem dX11_places_76 : decode cX11_places 76 = .ok (.iload_n 2, 1) := by decide +kernel
theorem dX11_places_77 : decode cX11_places 77 = .ok (.ireturn, 1) := by decide +kernel
theorem dX11_corner_0 : decode cX11_corner 0 = .ok (.iconst 0, 1) := by decide +kernel
theorem dX11_corner_1 : decode cX11_corner 1 = .ok (.istore_n 2, 1) := by decide +kernel
theorem dX11_corner_2 : decode cX11_corner 2 = .ok (.iload_n 2, 1) := by decide +kernel
theorem dX11_corner_3 : decode cX11_corner 3 = .ok (.aload_n 0, 1) := by decide +kernel
theorem dX11_corner_4 : decode cX11_corner 4 = .ok (.getfield 398, 3) := by decide +kernel
theorem dX11_corner_7 : decode cX11_corner 7 = .ok (.if_icmp .ge 19, 3) := by decide +kernel
theorem dX11_corner_10 : decode cX11_corner 10 = .ok (.aload_n 0, 1) := by decide +kernel
theorem dX11_corner_11 : decode cX11_corner 11 = .ok (.getfield 60, 3) := by decide +kernel
theorem dX11_corner_14 : decode cX11_corner 14 = .ok (.iload_n 2, 1) := by decide +kernel
theorem dX11_corner_15 : decode cX11_corner 15 = .ok (.iaload, 1) := by decide +kernel
theorem dX11_corner_16 : decode cX11_corner 16 = .ok (.iload_n 1, 1) := by decide +kernel
theorem dX11_corner_17 : decode cX11_corner 17 = .ok (.if_icmp .eq 9, 3) := by decide +kernel
theorem dX11_corner_20 : decode cX11_corner 20 = .ok (.iinc 2 1, 3) := by decide +kernel
theorem dX11_corner_23 : decode cX11_corner 23 = .ok (.goto (-21), 3) := by decide +kernel
theorem dX11_corner_26 : decode cX11_corner 26 = .ok (.aload_n 0, 1) := by decide +kernel
theorem dX11_corner_27 : decode cX11_corner 27 = .ok (.getfield 60, 3) := by decide +kernel
theorem dX11_corner_30 : decode cX11_corner 30 = .ok (.iload_n 2, 1) := by decide +kernel
theorem dX11_corner_31 : decode cX11_corner 31 = .ok (.iload_n 1, 1) := by decide +kernel
theorem dX11_corner_32 : decode cX11_corner 32 = .ok (.iastore, 1) := by decide +kernel
theorem dX11_corner_33 : decode cX11_corner 33 = .ok (.iload_n 2, 1) := by decide +kernel
theorem dX11_corner_34 : decode cX11_corner 34 = .ok (.aload_n 0, 1) := by decide +kernel
theorem dX11_corner_35 : decode cX11_corner 35 = .ok (.getfield 398, 3) := by decide +kernel
theorem dX11_corner_38 : decode cX11_corner 38 = .ok (.if_icmp .ne 13, 3) := by decide +kernel
theorem dX11_corner_41 : decode cX11_corner 41 = .ok (.aload_n 0, 1) := by decide +kernel
theorem dX11_corner_42 : decode cX11_corner 42 = .ok (.dup, 1) := by decide +kernel
theorem dX11_corner_43 : decode cX11_corner 43 = .ok (.getfield 398, 3) := by decide +kernel
theorem dX11_corner_46 : decode cX11_corner 46 = .ok (.iconst 1, 1) := by decide +kernel
theorem dX11_corner_47 : decode cX11_corner 47 = .ok (.iadd, 1) := by decide +kernel
theorem dX11_corner_48 : decode cX11_corner 48 = .ok (.putfield 398, 3) := by decide +kernel
theorem dX11_corner_51 : decode cX11_corner 51 = .ok (.iload_n 2, 1) := by decide +kernel
theorem dX11_corner_52 : decode cX11_corner 52 = .ok (.ireturn, 1) := by decide +kernel
theorem dX11_knots_0 : decode cX11_knots 0 = .ok (.iconst 0, 1) := by decide +kernel
theorem dX11_knots_1 : decode cX11_knots 1 = .ok (.istore_n 1, 1) := by decide +kernel
theorem dX11_knots_2 : decode cX11_knots 2 = .ok (.iconst 0, 1) := by decide +kernel
theorem dX11_knots_3 : decode cX11_knots 3 = .ok (.istore_n 2, 1) := by decide +kernel
theorem dX11_knots_4 : decode cX11_knots 4 = .ok (.iload_n 2, 1) := by decide +kernel
theorem dX11_knots_5 : decode cX11_knots 5 = .ok (.sipush 144, 3) := by decide +kernel
theorem dX11_knots_8 : decode cX11_knots 8 = .ok (.if_icmp .ge 22, 3) := by decide +kernel
theorem dX11_knots_11 : decode cX11_knots 11 = .ok (.iload_n 1, 1) := by decide +kernel
theorem dX11_knots_12 : decode cX11_knots 12 = .ok (.aload_n 0, 1) := by decide +kernel
theorem dX11_knots_13 : decode cX11_knots 13 = .ok (.getfield 9, 3) := by decide +kernel
theorem dX11_knots_16 : decode cX11_knots 16 = .ok (.sipush 248, 3) := by decide +kernel
theorem dX11_knots_19 : decode cX11_knots 19 = .ok (.iload_n 2, 1) := by decide +kernel
theorem dX11_knots_20 : decode cX11_knots 20 = .ok (.iadd, 1) := by decide +kernel
theorem dX11_knots_21 : decode cX11_knots 21 = .ok (.iaload, 1) := by decide +kernel
theorem dX11_knots_22 : decode cX11_knots 22 = .ok (.iadd, 1) := by decide +kernel
theorem dX11_knots_23 : decode cX11_knots 23 = .ok (.istore_n 1, 1) := by decide +kernel
theorem dX11_knots_24 : decode cX11_knots 24 = .ok (.iinc 2 1, 3) := by decide +kernel
theorem dX11_knots_27 : decode cX11_knots 27 = .ok (.goto (-23), 3) := by decide +kernel
theorem dX11_knots_30 : decode cX11_knots 30 = .ok (.iload_n 1, 1) := by decide +kernel
theorem dX11_knots_31 : decode cX11_knots 31 = .ok (.ireturn, 1) := by decide +kernel
theorem dX11_sees_0 : decode cX11_sees 0 = .ok (.bipush 24, 2) := by decide +kernel
theorem dX11_sees_2 : decode cX11_sees 2 = .ok (.iload_n 1, 1) := by decide +kernel
theorem dX11_sees_3 : decode cX11_sees 3 = .ok (.imul, 1) := by decide +kernel
theorem dX11_sees_4 : decode cX11_sees 4 = .ok (.iconst 2, 1) := by decide +kernel
theorem dX11_sees_5 : decode cX11_sees 5 = .ok (.iload_n 2, 1) := by decide +kernel
theorem dX11_sees_6 : decode cX11_sees 6 = .ok (.imul, 1) := by decide +kernel
theorem dX11_sees_7 : decode cX11_sees 7 = .ok (.iadd, 1) := by decide +kernel
theorem dX11_sees_8 : decode cX11_sees 8 = .ok (.iload_n 3, 1) := by decide +kernel
theorem dX11_sees_9 : decode cX11_sees 9 = .ok (.iadd, 1) := by decide +kernel
theorem dX11_sees_10 : decode cX11_sees 10 = .ok (.istore 4, 2) := by decide +kernel
theorem dX11_sees_12 : decode cX11_sees 12 = .ok (.aload_n 0, 1) := by decide +kernel
theorem dX11_sees_13 : decode cX11_sees 13 = .ok (.getfield 70, 3) := by decide +kernel
theorem dX11_sees_16 : decode cX11_sees 16 = .ok (.iload 4, 2) := by decide +kernel
theorem dX11_sees_18 : decode cX11_sees 18 = .ok (.baload, 1) := by decide +kernel
theorem dX11_sees_19 : decode cX11_sees 19 = .ok (.ifCond .eq 4, 3) := by decide +kernel
theorem dX11_sees_22 : decode cX11_sees 22 = .ok (.return_, 1) := by decide +kernel
theorem dX11_sees_23 : decode cX11_sees 23 = .ok (.aload_n 0, 1) := by decide +kernel
theorem dX11_sees_24 : decode cX11_sees 24 = .ok (.getfield 70, 3) := by decide +kernel
theorem dX11_sees_27 : decode cX11_sees 27 = .ok (.iload 4, 2) := by decide +kernel
theorem dX11_sees_29 : decode cX11_sees 29 = .ok (.iconst 1, 1) := by decide +kernel
theorem dX11_sees_30 : decode cX11_sees 30 = .ok (.bastore, 1) := by decide +kernel
theorem dX11_sees_31 : decode cX11_sees 31 = .ok (.aload_n 0, 1) := by decide +kernel
theorem dX11_sees_32 : decode cX11_sees 32 = .ok (.getfield 67, 3) := by decide +kernel
theorem dX11_sees_35 : decode cX11_sees 35 = .ok (.aload_n 0, 1) := by decide +kernel
theorem dX11_sees_36 : decode cX11_sees 36 = .ok (.getfield 401, 3) := by decide +kernel
theorem dX11_sees_39 : decode cX11_sees 39 = .ok (.iload 4, 2) := by decide +kernel
theorem dX11_sees_41 : decode cX11_sees 41 = .ok (.iastore, 1) := by decide +kernel
theorem dX11_sees_42 : decode cX11_sees 42 = .ok (.aload_n 0, 1) := by decide +kernel
theorem dX11_sees_43 : decode cX11_sees 43 = .ok (.dup, 1) := by decide +kernel
theorem dX11_sees_44 : decode cX11_sees 44 = .ok (.getfield 401, 3) := by decide +kernel
theorem dX11_sees_47 : decode cX11_sees 47 = .ok (.iconst 1, 1) := by decide +kernel
theorem dX11_sees_48 : decode cX11_sees 48 = .ok (.iadd, 1) := by decide +kernel
theorem dX11_sees_49 : decode cX11_sees 49 = .ok (.putfield 401, 3) := by decide +kernel
theorem dX11_sees_52 : decode cX11_sees 52 = .ok (.return_, 1) := by decide +kernel
theorem dX11_size_0 : decode cX11_size 0 = .ok (.iconst 0, 1) := by decide +kernel
theorem dX11_size_1 : decode cX11_size 1 = .ok (.istore_n 1, 1) := by decide +kernel
theorem dX11_size_2 : decode cX11_size 2 = .ok (.iload_n 0, 1) := by decide +kernel
theorem dX11_size_3 : decode cX11_size 3 = .ok (.istore_n 2, 1) := by decide +kernel
theorem dX11_size_4 : decode cX11_size 4 = .ok (.iload_n 2, 1) := by decide +kernel
theorem dX11_size_5 : decode cX11_size 5 = .ok (.ifCond .eq 15, 3) := by decide +kernel
theorem dX11_size_8 : decode cX11_size 8 = .ok (.iinc 1 1, 3) := by decide +kernel
theorem dX11_size_11 : decode cX11_size 11 = .ok (.iload_n 2, 1) := by decide +kernel
theorem dX11_size_12 : decode cX11_size 12 = .ok (.iload_n 2, 1) := by decide +kernel
theorem dX11_size_13 : decode cX11_size 13 = .ok (.iconst 1, 1) := by decide +kernel
theorem dX11_size_14 : decode cX11_size 14 = .ok (.isub, 1) := by decide +kernel
theorem dX11_size_15 : decode cX11_size 15 = .ok (.iand, 1) := by decide +kernel
theorem dX11_size_16 : decode cX11_size 16 = .ok (.istore_n 2, 1) := by decide +kernel
theorem dX11_size_17 : decode cX11_size 17 = .ok (.goto (-13), 3) := by decide +kernel
theorem dX11_size_20 : decode cX11_size 20 = .ok (.iload_n 1, 1) := by decide +kernel
theorem dX11_size_21 : decode cX11_size 21 = .ok (.ireturn, 1) := by decide +kernel
theorem dX11_layOnes_0 : decode cX11_layOnes 0 = .ok (.aload_n 0, 1) := by decide +kernel
theorem dX11_layOnes_1 : decode cX11_layOnes 1 = .ok (.invokevirtual 404, 3) := by decide +kernel
theorem dX11_layOnes_4 : decode cX11_layOnes 4 = .ok (.ifCond .ne 7, 3) := by decide +kernel
theorem dX11_layOnes_7 : decode cX11_layOnes 7 = .ok (.iconst 1, 1) := by decide +kernel
theorem dX11_layOnes_8 : decode cX11_layOnes 8 = .ok (.goto 4, 3) := by decide +kernel
theorem dX11_layOnes_11 : decode cX11_layOnes 11 = .ok (.iconst 0, 1) := by decide +kernel
theorem dX11_layOnes_12 : decode cX11_layOnes 12 = .ok (.istore_n 2, 1) := by decide +kernel
theorem dX11_layOnes_13 : decode cX11_layOnes 13 = .ok (.iconst 0, 1) := by decide +kernel
theorem dX11_layOnes_14 : decode cX11_layOnes 14 = .ok (.istore_n 3, 1) := by decide +kernel
theorem dX11_layOnes_15 : decode cX11_layOnes 15 = .ok (.iload_n 3, 1) := by decide +kernel
theorem dX11_layOnes_16 : decode cX11_layOnes 16 = .ok (.aload_n 0, 1) := by decide +kernel
theorem dX11_layOnes_17 : decode cX11_layOnes 17 = .ok (.getfield 70, 3) := by decide +kernel
theorem dX11_layOnes_20 : decode cX11_layOnes 20 = .ok (.arraylength, 1) := by decide +kernel
theorem dX11_layOnes_21 : decode cX11_layOnes 21 = .ok (.if_icmp .ge 16, 3) := by decide +kernel
theorem dX11_layOnes_24 : decode cX11_layOnes 24 = .ok (.aload_n 0, 1) := by decide +kernel
theorem dX11_layOnes_25 : decode cX11_layOnes 25 = .ok (.getfield 70, 3) := by decide +kernel
theorem dX11_layOnes_28 : decode cX11_layOnes 28 = .ok (.iload_n 3, 1) := by decide +kernel
theorem dX11_layOnes_29 : decode cX11_layOnes 29 = .ok (.iconst 0, 1) := by decide +kernel
theorem dX11_layOnes_30 : decode cX11_layOnes 30 = .ok (.bastore, 1) := by decide +kernel
theorem dX11_layOnes_31 : decode cX11_layOnes 31 = .ok (.iinc 3 1, 3) := by decide +kernel
theorem dX11_layOnes_34 : decode cX11_layOnes 34 = .ok (.goto (-19), 3) := by decide +kernel
theorem dX11_layOnes_37 : decode cX11_layOnes 37 = .ok (.iconst 0, 1) := by decide +kernel
theorem dX11_layOnes_38 : decode cX11_layOnes 38 = .ok (.istore_n 3, 1) := by decide +kernel
theorem dX11_layOnes_39 : decode cX11_layOnes 39 = .ok (.iload_n 3, 1) := by decide +kernel
theorem dX11_layOnes_40 : decode cX11_layOnes 40 = .ok (.sipush 4096, 3) := by decide +kernel
theorem dX11_layOnes_43 : decode cX11_layOnes 43 = .ok (.if_icmp .ge 16, 3) := by decide +kernel
theorem dX11_layOnes_46 : decode cX11_layOnes 46 = .ok (.aload_n 0, 1) := by decide +kernel
theorem dX11_layOnes_47 : decode cX11_layOnes 47 = .ok (.getfield 73, 3) := by decide +kernel
theorem dX11_layOnes_50 : decode cX11_layOnes 50 = .ok (.iload_n 3, 1) := by decide +kernel
theorem dX11_layOnes_51 : decode cX11_layOnes 51 = .ok (.iconst 0, 1) := by decide +kernel
theorem dX11_layOnes_52 : decode cX11_layOnes 52 = .ok (.bastore, 1) := by decide +kernel
theorem dX11_layOnes_53 : decode cX11_layOnes 53 = .ok (.iinc 3 1, 3) := by decide +kernel
theorem dX11_layOnes_56 : decode cX11_layOnes 56 = .ok (.goto (-17), 3) := by decide +kernel
theorem dX11_layOnes_59 : decode cX11_layOnes 59 = .ok (.aload_n 0, 1) := by decide +kernel
theorem dX11_layOnes_60 : decode cX11_layOnes 60 = .ok (.iconst 0, 1) := by decide +kernel
theorem dX11_layOnes_61 : decode cX11_layOnes 61 = .ok (.putfield 401, 3) := by decide +kernel
theorem dX11_layOnes_64 : decode cX11_layOnes 64 = .ok (.iconst 0, 1) := by decide +kernel
theorem dX11_layOnes_65 : decode cX11_layOnes 65 = .ok (.istore_n 3, 1) := by decide +kernel
theorem dX11_layOnes_66 : decode cX11_layOnes 66 = .ok (.iload_n 3, 1) := by decide +kernel
theorem dX11_layOnes_67 : decode cX11_layOnes 67 = .ok (.aload_n 0, 1) := by decide +kernel
theorem dX11_layOnes_68 : decode cX11_layOnes 68 = .ok (.getfield 398, 3) := by decide +kernel
theorem dX11_layOnes_71 : decode cX11_layOnes 71 = .ok (.if_icmp .ge 55, 3) := by decide +kernel
theorem dX11_layOnes_74 : decode cX11_layOnes 74 = .ok (.iconst 0, 1) := by decide +kernel
theorem dX11_layOnes_75 : decode cX11_layOnes 75 = .ok (.istore 4, 2) := by decide +kernel
theorem dX11_layOnes_77 : decode cX11_layOnes 77 = .ok (.iload 4, 2) := by decide +kernel
theorem dX11_layOnes_79 : decode cX11_layOnes 79 = .ok (.iconst 2, 1) := by decide +kernel
theorem dX11_layOnes_80 : decode cX11_layOnes 80 = .ok (.if_icmp .ge 40, 3) := by decide +kernel
theorem dX11_layOnes_83 : decode cX11_layOnes 83 = .ok (.iload_n 2, 1) := by decide +kernel
theorem dX11_layOnes_84 : decode cX11_layOnes 84 = .ok (.ifCond .ne 22, 3) := by decide +kernel
theorem dX11_layOnes_87 : decode cX11_layOnes 87 = .ok (.aload_n 0, 1) := by decide +kernel
theorem dX11_layOnes_88 : decode cX11_layOnes 88 = .ok (.getfield 9, 3) := by decide +kernel
theorem dX11_layOnes_91 : decode cX11_layOnes 91 = .ok (.sipush 248, 3) := by decide +kernel
theorem dX11_layOnes_94 : decode cX11_layOnes 94 = .ok (.aload_n 0, 1) := by decide +kernel
theorem dX11_layOnes_95 : decode cX11_layOnes 95 = .ok (.getfield 60, 3) := by decide +kernel
theorem dX11_layOnes_98 : decode cX11_layOnes 98 = .ok (.iload_n 3, 1) := by decide +kernel
theorem dX11_layOnes_99 : decode cX11_layOnes 99 = .ok (.iaload, 1) := by decide +kernel
theorem dX11_layOnes_100 : decode cX11_layOnes 100 = .ok (.iadd, 1) := by decide +kernel
theorem dX11_layOnes_101 : decode cX11_layOnes 101 = .ok (.iaload, 1) := by decide +kernel
theorem dX11_layOnes_102 : decode cX11_layOnes 102 = .ok (.iconst 1, 1) := by decide +kernel
theorem dX11_layOnes_103 : decode cX11_layOnes 103 = .ok (.if_icmp .ne 17, 3) := by decide +kernel
theorem dX11_layOnes_106 : decode cX11_layOnes 106 = .ok (.aload_n 0, 1) := by decide +kernel
theorem dX11_layOnes_107 : decode cX11_layOnes 107 = .ok (.iconst 0, 1) := by decide +kernel
theorem dX11_layOnes_108 : decode cX11_layOnes 108 = .ok (.iload_n 3, 1) := by decide +kernel
theorem dX11_layOnes_109 : decode cX11_layOnes 109 = .ok (.iload 4, 2) := by decide +kernel
theorem dX11_layOnes_111 : decode cX11_layOnes 111 = .ok (.invokevirtual 407, 3) := by decide +kernel
theorem dX11_layOnes_114 : decode cX11_layOnes 114 = .ok (.iinc 4 1, 3) := by decide +kernel
theorem dX11_layOnes_117 : decode cX11_layOnes 117 = .ok (.goto (-40), 3) := by decide +kernel
theorem dX11_layOnes_120 : decode cX11_layOnes 120 = .ok (.iinc 3 1, 3) := by decide +kernel
theorem dX11_layOnes_123 : decode cX11_layOnes 123 = .ok (.goto (-57), 3) := by decide +kernel
theorem dX11_layOnes_126 : decode cX11_layOnes 126 = .ok (.iconst 0, 1) := by decide +kernel
theorem dX11_layOnes_127 : decode cX11_layOnes 127 = .ok (.istore_n 3, 1) := by decide +kernel
theorem dX11_layOnes_128 : decode cX11_layOnes 128 = .ok (.iload_n 3, 1) := by decide +kernel
theorem dX11_layOnes_129 : decode cX11_layOnes 129 = .ok (.aload_n 0, 1) := by decide +kernel
theorem dX11_layOnes_130 : decode cX11_layOnes 130 = .ok (.getfield 401, 3) := by decide +kernel
theorem dX11_layOnes_133 : decode cX11_layOnes 133 = .ok (.if_icmp .ge 219, 3) := by decide +kernel
theorem dX11_layOnes_136 : decode cX11_layOnes 136 = .ok (.aload_n 0, 1) := by decide +kernel
theorem dX11_layOnes_137 : decode cX11_layOnes 137 = .ok (.getfield 67, 3) := by decide +kernel
theorem dX11_layOnes_140 : decode cX11_layOnes 140 = .ok (.iload_n 3, 1) := by decide +kernel
theorem dX11_layOnes_141 : decode cX11_layOnes 141 = .ok (.iaload, 1) := by decide +kernel
theorem dX11_layOnes_142 : decode cX11_layOnes 142 = .ok (.bipush 24, 2) := by decide +kernel
theorem dX11_layOnes_144 : decode cX11_layOnes 144 = .ok (.idiv, 1) := by decide +kernel
theorem dX11_layOnes_145 : decode cX11_layOnes 145 = .ok (.istore 4, 2) := by decide +kernel
theorem dX11_layOnes_147 : decode cX11_layOnes 147 = .ok (.aload_n 0, 1) := by decide +kernel
theorem dX11_layOnes_148 : decode cX11_layOnes 148 = .ok (.getfield 67, 3) := by decide +kernel
theorem dX11_layOnes_151 : decode cX11_layOnes 151 = .ok (.iload_n 3, 1) := by decide +kernel
theorem dX11_layOnes_152 : decode cX11_layOnes 152 = .ok (.iaload, 1) := by decide +kernel
theorem dX11_layOnes_153 : decode cX11_layOnes 153 = .ok (.bipush 24, 2) := by decide +kernel
theorem dX11_layOnes_155 : decode cX11_layOnes 155 = .ok (.irem, 1) := by decide +kernel
theorem dX11_layOnes_156 : decode cX11_layOnes 156 = .ok (.iconst 2, 1) := by decide +kernel
theorem dX11_layOnes_157 : decode cX11_layOnes 157 = .ok (.idiv, 1) := by decide +kernel
theorem dX11_layOnes_158 : decode cX11_layOnes 158 = .ok (.istore 5, 2) := by decide +kernel
theorem dX11_layOnes_160 : decode cX11_layOnes 160 = .ok (.aload_n 0, 1) := by decide +kernel
theorem dX11_layOnes_161 : decode cX11_layOnes 161 = .ok (.getfield 67, 3) := by decide +kernel
theorem dX11_layOnes_164 : decode cX11_layOnes 164 = .ok (.iload_n 3, 1) := by decide +kernel
theorem dX11_layOnes_165 : decode cX11_layOnes 165 = .ok (.iaload, 1) := by decide +kernel
theorem dX11_layOnes_166 : decode cX11_layOnes 166 = .ok (.iconst 2, 1) := by decide +kernel
theorem dX11_layOnes_167 : decode cX11_layOnes 167 = .ok (.irem, 1) := by decide +kernel
theorem dX11_layOnes_168 : decode cX11_layOnes 168 = .ok (.istore 6, 2) := by decide +kernel
theorem dX11_layOnes_170 : decode cX11_layOnes 170 = .ok (.aload_n 0, 1) := by decide +kernel
theorem dX11_layOnes_171 : decode cX11_layOnes 171 = .ok (.getfield 73, 3) := by decide +kernel
theorem dX11_layOnes_174 : decode cX11_layOnes 174 = .ok (.iload 4, 2) := by decide +kernel
theorem dX11_layOnes_176 : decode cX11_layOnes 176 = .ok (.aload_n 0, 1) := by decide +kernel
theorem dX11_layOnes_177 : decode cX11_layOnes 177 = .ok (.getfield 73, 3) := by decide +kernel
theorem dX11_layOnes_180 : decode cX11_layOnes 180 = .ok (.iload 4, 2) := by decide +kernel
theorem dX11_layOnes_182 : decode cX11_layOnes 182 = .ok (.baload, 1) := by decide +kernel
theorem dX11_layOnes_183 : decode cX11_layOnes 183 = .ok (.ifCond .ne 27, 3) := by decide +kernel
theorem dX11_layOnes_186 : decode cX11_layOnes 186 = .ok (.iload_n 2, 1) := by decide +kernel
