theorem dX11_lengthen_127 : decode cX11_lengthen 127 = .ok (.iload_n 2, 1) := by decide +kernel
theorem dX11_lengthen_128 : decode cX11_lengthen 128 = .ok (.iadd, 1) := by decide +kernel
theorem dX11_lengthen_129 : decode cX11_lengthen 129 = .ok (.aload_n 0, 1) := by decide +kernel
theorem dX11_lengthen_130 : decode cX11_lengthen 130 = .ok (.getfield 19, 3) := by decide +kernel
theorem dX11_lengthen_133 : decode cX11_lengthen 133 = .ok (.iload_n 1, 1) := by decide +kernel
theorem dX11_lengthen_134 : decode cX11_lengthen 134 = .ok (.iaload, 1) := by decide +kernel
theorem dX11_lengthen_135 : decode cX11_lengthen 135 = .ok (.aload_n 0, 1) := by decide +kernel
theorem dX11_lengthen_136 : decode cX11_lengthen 136 = .ok (.getfield 22, 3) := by decide +kernel
theorem dX11_lengthen_139 : decode cX11_lengthen 139 = .ok (.iload_n 1, 1) := by decide +kernel
theorem dX11_lengthen_140 : decode cX11_lengthen 140 = .ok (.iaload, 1) := by decide +kernel
theorem dX11_lengthen_141 : decode cX11_lengthen 141 = .ok (.iconst 1, 1) := by decide +kernel
theorem dX11_lengthen_142 : decode cX11_lengthen 142 = .ok (.iadd, 1) := by decide +kernel
theorem dX11_lengthen_143 : decode cX11_lengthen 143 = .ok (.aload_n 0, 1) := by decide +kernel
theorem dX11_lengthen_144 : decode cX11_lengthen 144 = .ok (.getfield 22, 3) := by decide +kernel
theorem dX11_lengthen_147 : decode cX11_lengthen 147 = .ok (.iload_n 1, 1) := by decide +kernel
theorem dX11_lengthen_148 : decode cX11_lengthen 148 = .ok (.iaload, 1) := by decide +kernel
theorem dX11_lengthen_149 : decode cX11_lengthen 149 = .ok (.iconst 1, 1) := by decide +kernel
theorem dX11_lengthen_150 : decode cX11_lengthen 150 = .ok (.iadd, 1) := by decide +kernel
theorem dX11_lengthen_151 : decode cX11_lengthen 151 = .ok (.iload_n 3, 1) := by decide +kernel
theorem dX11_lengthen_152 : decode cX11_lengthen 152 = .ok (.iload 5, 2) := by decide +kernel
theorem dX11_lengthen_154 : decode cX11_lengthen 154 = .ok (.iload_n 1, 1) := by decide +kernel
theorem dX11_lengthen_155 : decode cX11_lengthen 155 = .ok (.invokevirtual 157, 3) := by decide +kernel
theorem dX11_lengthen_158 : decode cX11_lengthen 158 = .ok (.istore 6, 2) := by decide +kernel
theorem dX11_lengthen_160 : decode cX11_lengthen 160 = .ok (.aload_n 0, 1) := by decide +kernel
theorem dX11_lengthen_161 : decode cX11_lengthen 161 = .ok (.getfield 46, 3) := by decide +kernel
theorem dX11_lengthen_164 : decode cX11_lengthen 164 = .ok (.iload_n 1, 1) := by decide +kernel
theorem dX11_lengthen_165 : decode cX11_lengthen 165 = .ok (.iload 6, 2) := by decide +kernel
theorem dX11_lengthen_167 : decode cX11_lengthen 167 = .ok (.iastore, 1) := by decide +kernel
theorem dX11_lengthen_168 : decode cX11_lengthen 168 = .ok (.aload_n 0, 1) := by decide +kernel
theorem dX11_lengthen_169 : decode cX11_lengthen 169 = .ok (.iload_n 1, 1) := by decide +kernel
theorem dX11_lengthen_170 : decode cX11_lengthen 170 = .ok (.aload_n 0, 1) := by decide +kernel
theorem dX11_lengthen_171 : decode cX11_lengthen 171 = .ok (.getfield 19, 3) := by decide +kernel
theorem dX11_lengthen_174 : decode cX11_lengthen 174 = .ok (.iload_n 1, 1) := by decide +kernel
theorem dX11_lengthen_175 : decode cX11_lengthen 175 = .ok (.iaload, 1) := by decide +kernel
theorem dX11_lengthen_176 : decode cX11_lengthen 176 = .ok (.iload 6, 2) := by decide +kernel
theorem dX11_lengthen_178 : decode cX11_lengthen 178 = .ok (.iload_n 3, 1) := by decide +kernel
theorem dX11_lengthen_179 : decode cX11_lengthen 179 = .ok (.iload 4, 2) := by decide +kernel
theorem dX11_lengthen_181 : decode cX11_lengthen 181 = .ok (.iload 5, 2) := by decide +kernel
theorem dX11_lengthen_183 : decode cX11_lengthen 183 = .ok (.invokevirtual 179, 3) := by decide +kernel
theorem dX11_lengthen_186 : decode cX11_lengthen 186 = .ok (.iload 6, 2) := by decide +kernel
theorem dX11_lengthen_188 : decode cX11_lengthen 188 = .ok (.ireturn, 1) := by decide +kernel
theorem dX11_entry_0 : decode cX11_entry 0 = .ok (.aload_n 0, 1) := by decide +kernel
theorem dX11_entry_1 : decode cX11_entry 1 = .ok (.iload_n 1, 1) := by decide +kernel
theorem dX11_entry_2 : decode cX11_entry 2 = .ok (.invokevirtual 166, 3) := by decide +kernel
theorem dX11_entry_5 : decode cX11_entry 5 = .ok (.ifCond .ne 5, 3) := by decide +kernel
theorem dX11_entry_8 : decode cX11_entry 8 = .ok (.iconst (-1), 1) := by decide +kernel
theorem dX11_entry_9 : decode cX11_entry 9 = .ok (.ireturn, 1) := by decide +kernel
theorem dX11_entry_10 : decode cX11_entry 10 = .ok (.iload_n 2, 1) := by decide +kernel
theorem dX11_entry_11 : decode cX11_entry 11 = .ok (.tableswitch 112 0 8 #[49, 56, 63, 70, 77, 84, 91, 98, 105], 49) := by decide +kernel
theorem dX11_entry_60 : decode cX11_entry 60 = .ok (.aload_n 0, 1) := by decide +kernel
theorem dX11_entry_61 : decode cX11_entry 61 = .ok (.getfield 7, 3) := by decide +kernel
theorem dX11_entry_64 : decode cX11_entry 64 = .ok (.iload_n 1, 1) := by decide +kernel
theorem dX11_entry_65 : decode cX11_entry 65 = .ok (.iaload, 1) := by decide +kernel
theorem dX11_entry_66 : decode cX11_entry 66 = .ok (.ireturn, 1) := by decide +kernel
theorem dX11_entry_67 : decode cX11_entry 67 = .ok (.aload_n 0, 1) := by decide +kernel
theorem dX11_entry_68 : decode cX11_entry 68 = .ok (.getfield 13, 3) := by decide +kernel
theorem dX11_entry_71 : decode cX11_entry 71 = .ok (.iload_n 1, 1) := by decide +kernel
theorem dX11_entry_72 : decode cX11_entry 72 = .ok (.iaload, 1) := by decide +kernel
theorem dX11_entry_73 : decode cX11_entry 73 = .ok (.ireturn, 1) := by decide +kernel
theorem dX11_entry_74 : decode cX11_entry 74 = .ok (.aload_n 0, 1) := by decide +kernel
theorem dX11_entry_75 : decode cX11_entry 75 = .ok (.getfield 16, 3) := by decide +kernel
theorem dX11_entry_78 : decode cX11_entry 78 = .ok (.iload_n 1, 1) := by decide +kernel
theorem dX11_entry_79 : decode cX11_entry 79 = .ok (.iaload, 1) := by decide +kernel
theorem dX11_entry_80 : decode cX11_entry 80 = .ok (.ireturn, 1) := by decide +kernel
theorem dX11_entry_81 : decode cX11_entry 81 = .ok (.aload_n 0, 1) := by decide +kernel
theorem dX11_entry_82 : decode cX11_entry 82 = .ok (.getfield 19, 3) := by decide +kernel
theorem dX11_entry_85 : decode cX11_entry 85 = .ok (.iload_n 1, 1) := by decide +kernel
theorem dX11_entry_86 : decode cX11_entry 86 = .ok (.iaload, 1) := by decide +kernel
theorem dX11_entry_87 : decode cX11_entry 87 = .ok (.ireturn, 1) := by decide +kernel
theorem dX11_entry_88 : decode cX11_entry 88 = .ok (.aload_n 0, 1) := by decide +kernel
theorem dX11_entry_89 : decode cX11_entry 89 = .ok (.getfield 22, 3) := by decide +kernel
theorem dX11_entry_92 : decode cX11_entry 92 = .ok (.iload_n 1, 1) := by decide +kernel
theorem dX11_entry_93 : decode cX11_entry 93 = .ok (.iaload, 1) := by decide +kernel
theorem dX11_entry_94 : decode cX11_entry 94 = .ok (.ireturn, 1) := by decide +kernel
theorem dX11_entry_95 : decode cX11_entry 95 = .ok (.aload_n 0, 1) := by decide +kernel
theorem dX11_entry_96 : decode cX11_entry 96 = .ok (.getfield 25, 3) := by decide +kernel
theorem dX11_entry_99 : decode cX11_entry 99 = .ok (.iload_n 1, 1) := by decide +kernel
theorem dX11_entry_100 : decode cX11_entry 100 = .ok (.iaload, 1) := by decide +kernel
theorem dX11_entry_101 : decode cX11_entry 101 = .ok (.ireturn, 1) := by decide +kernel
theorem dX11_entry_102 : decode cX11_entry 102 = .ok (.aload_n 0, 1) := by decide +kernel
theorem dX11_entry_103 : decode cX11_entry 103 = .ok (.getfield 28, 3) := by decide +kernel
theorem dX11_entry_106 : decode cX11_entry 106 = .ok (.iload_n 1, 1) := by decide +kernel
theorem dX11_entry_107 : decode cX11_entry 107 = .ok (.iaload, 1) := by decide +kernel
theorem dX11_entry_108 : decode cX11_entry 108 = .ok (.ireturn, 1) := by decide +kernel
theorem dX11_entry_109 : decode cX11_entry 109 = .ok (.aload_n 0, 1) := by decide +kernel
theorem dX11_entry_110 : decode cX11_entry 110 = .ok (.getfield 31, 3) := by decide +kernel
theorem dX11_entry_113 : decode cX11_entry 113 = .ok (.iload_n 1, 1) := by decide +kernel
theorem dX11_entry_114 : decode cX11_entry 114 = .ok (.iaload, 1) := by decide +kernel
theorem dX11_entry_115 : decode cX11_entry 115 = .ok (.ireturn, 1) := by decide +kernel
theorem dX11_entry_116 : decode cX11_entry 116 = .ok (.aload_n 0, 1) := by decide +kernel
theorem dX11_entry_117 : decode cX11_entry 117 = .ok (.getfield 34, 3) := by decide +kernel
theorem dX11_entry_120 : decode cX11_entry 120 = .ok (.iload_n 1, 1) := by decide +kernel
theorem dX11_entry_121 : decode cX11_entry 121 = .ok (.iaload, 1) := by decide +kernel
theorem dX11_entry_122 : decode cX11_entry 122 = .ok (.ireturn, 1) := by decide +kernel
theorem dX11_entry_123 : decode cX11_entry 123 = .ok (.iconst (-1), 1) := by decide +kernel
theorem dX11_entry_124 : decode cX11_entry 124 = .ok (.ireturn, 1) := by decide +kernel
theorem dX11_may_0 : decode cX11_may 0 = .ok (.aload_n 0, 1) := by decide +kernel
theorem dX11_may_1 : decode cX11_may 1 = .ok (.getfield 16, 3) := by decide +kernel
theorem dX11_may_4 : decode cX11_may 4 = .ok (.iload_n 1, 1) := by decide +kernel
theorem dX11_may_5 : decode cX11_may 5 = .ok (.iaload, 1) := by decide +kernel
theorem dX11_may_6 : decode cX11_may 6 = .ok (.invokestatic 139, 3) := by decide +kernel
theorem dX11_may_9 : decode cX11_may 9 = .ok (.istore_n 3, 1) := by decide +kernel
theorem dX11_may_10 : decode cX11_may 10 = .ok (.iload_n 2, 1) := by decide +kernel
theorem dX11_may_11 : decode cX11_may 11 = .ok (.iload_n 3, 1) := by decide +kernel
theorem dX11_may_12 : decode cX11_may 12 = .ok (.if_icmp .ge 17, 3) := by decide +kernel
theorem dX11_may_15 : decode cX11_may 15 = .ok (.iconst 1, 1) := by decide +kernel
theorem dX11_may_16 : decode cX11_may 16 = .ok (.aload_n 0, 1) := by decide +kernel
theorem dX11_may_17 : decode cX11_may 17 = .ok (.getfield 16, 3) := by decide +kernel
theorem dX11_may_20 : decode cX11_may 20 = .ok (.iload_n 1, 1) := by decide +kernel
theorem dX11_may_21 : decode cX11_may 21 = .ok (.iaload, 1) := by decide +kernel
theorem dX11_may_22 : decode cX11_may 22 = .ok (.i2l, 1) := by decide +kernel
theorem dX11_may_23 : decode cX11_may 23 = .ok (.iload_n 2, 1) := by decide +kernel
theorem dX11_may_24 : decode cX11_may 24 = .ok (.invokestatic 183, 3) := by decide +kernel
theorem dX11_may_27 : decode cX11_may 27 = .ok (.ishl, 1) := by decide +kernel
theorem dX11_may_28 : decode cX11_may 28 = .ok (.ireturn, 1) := by decide +kernel
theorem dX11_may_29 : decode cX11_may 29 = .ok (.iload_n 2, 1) := by decide +kernel
theorem dX11_may_30 : decode cX11_may 30 = .ok (.iload_n 3, 1) := by decide +kernel
theorem dX11_may_31 : decode cX11_may 31 = .ok (.if_icmp .ne 21, 3) := by decide +kernel
theorem dX11_may_34 : decode cX11_may 34 = .ok (.aload_n 0, 1) := by decide +kernel
theorem dX11_may_35 : decode cX11_may 35 = .ok (.getfield 19, 3) := by decide +kernel
theorem dX11_may_38 : decode cX11_may 38 = .ok (.iload_n 1, 1) := by decide +kernel
theorem dX11_may_39 : decode cX11_may 39 = .ok (.iaload, 1) := by decide +kernel
theorem dX11_may_40 : decode cX11_may 40 = .ok (.ifCond .eq 12, 3) := by decide +kernel
theorem dX11_may_43 : decode cX11_may 43 = .ok (.aload_n 0, 1) := by decide +kernel
theorem dX11_may_44 : decode cX11_may 44 = .ok (.getfield 19, 3) := by decide +kernel
theorem dX11_may_47 : decode cX11_may 47 = .ok (.iload_n 1, 1) := by decide +kernel
theorem dX11_may_48 : decode cX11_may 48 = .ok (.iaload, 1) := by decide +kernel
theorem dX11_may_49 : decode cX11_may 49 = .ok (.goto 6, 3) := by decide +kernel
theorem dX11_may_52 : decode cX11_may 52 = .ok (.sipush 1023, 3) := by decide +kernel
theorem dX11_may_55 : decode cX11_may 55 = .ok (.ireturn, 1) := by decide +kernel
theorem dX11_begins_0 : decode cX11_begins 0 = .ok (.aload_n 0, 1) := by decide +kernel
theorem dX11_begins_1 : decode cX11_begins 1 = .ok (.getfield 22, 3) := by decide +kernel
theorem dX11_begins_4 : decode cX11_begins 4 = .ok (.iload_n 1, 1) := by decide +kernel
theorem dX11_begins_5 : decode cX11_begins 5 = .ok (.iaload, 1) := by decide +kernel
theorem dX11_begins_6 : decode cX11_begins 6 = .ok (.aload_n 0, 1) := by decide +kernel
theorem dX11_begins_7 : decode cX11_begins 7 = .ok (.getfield 25, 3) := by decide +kernel
theorem dX11_begins_10 : decode cX11_begins 10 = .ok (.iload_n 2, 1) := by decide +kernel
theorem dX11_begins_11 : decode cX11_begins 11 = .ok (.iaload, 1) := by decide +kernel
theorem dX11_begins_12 : decode cX11_begins 12 = .ok (.if_icmp .le 5, 3) := by decide +kernel
theorem dX11_begins_15 : decode cX11_begins 15 = .ok (.iconst 0, 1) := by decide +kernel
theorem dX11_begins_16 : decode cX11_begins 16 = .ok (.ireturn, 1) := by decide +kernel
theorem dX11_begins_17 : decode cX11_begins 17 = .ok (.iconst 0, 1) := by decide +kernel
theorem dX11_begins_18 : decode cX11_begins 18 = .ok (.istore_n 3, 1) := by decide +kernel
theorem dX11_begins_19 : decode cX11_begins 19 = .ok (.iload_n 3, 1) := by decide +kernel
theorem dX11_begins_20 : decode cX11_begins 20 = .ok (.aload_n 0, 1) := by decide +kernel
theorem dX11_begins_21 : decode cX11_begins 21 = .ok (.getfield 22, 3) := by decide +kernel
theorem dX11_begins_24 : decode cX11_begins 24 = .ok (.iload_n 1, 1) := by decide +kernel
theorem dX11_begins_25 : decode cX11_begins 25 = .ok (.iaload, 1) := by decide +kernel
theorem dX11_begins_26 : decode cX11_begins 26 = .ok (.if_icmp .ge 27, 3) := by decide +kernel
theorem dX11_begins_29 : decode cX11_begins 29 = .ok (.aload_n 0, 1) := by decide +kernel
theorem dX11_begins_30 : decode cX11_begins 30 = .ok (.iload_n 1, 1) := by decide +kernel
theorem dX11_begins_31 : decode cX11_begins 31 = .ok (.iload_n 3, 1) := by decide +kernel
theorem dX11_begins_32 : decode cX11_begins 32 = .ok (.invokevirtual 187, 3) := by decide +kernel
theorem dX11_begins_35 : decode cX11_begins 35 = .ok (.aload_n 0, 1) := by decide +kernel
theorem dX11_begins_36 : decode cX11_begins 36 = .ok (.iload_n 2, 1) := by decide +kernel
theorem dX11_begins_37 : decode cX11_begins 37 = .ok (.iload_n 3, 1) := by decide +kernel
theorem dX11_begins_38 : decode cX11_begins 38 = .ok (.invokevirtual 187, 3) := by decide +kernel
theorem dX11_begins_41 : decode cX11_begins 41 = .ok (.iand, 1) := by decide +kernel
theorem dX11_begins_42 : decode cX11_begins 42 = .ok (.ifCond .ne 5, 3) := by decide +kernel
theorem dX11_begins_45 : decode cX11_begins 45 = .ok (.iconst 0, 1) := by decide +kernel
theorem dX11_begins_46 : decode cX11_begins 46 = .ok (.ireturn, 1) := by decide +kernel
theorem dX11_begins_47 : decode cX11_begins 47 = .ok (.iinc 3 1, 3) := by decide +kernel
theorem dX11_begins_50 : decode cX11_begins 50 = .ok (.goto (-31), 3) := by decide +kernel
theorem dX11_begins_53 : decode cX11_begins 53 = .ok (.iconst 1, 1) := by decide +kernel
theorem dX11_begins_54 : decode cX11_begins 54 = .ok (.ireturn, 1) := by decide +kernel
theorem dX11_isPair_0 : decode cX11_isPair 0 = .ok (.aload_n 0, 1) := by decide +kernel
theorem dX11_isPair_1 : decode cX11_isPair 1 = .ok (.iload_n 1, 1) := by decide +kernel
theorem dX11_isPair_2 : decode cX11_isPair 2 = .ok (.iload_n 2, 1) := by decide +kernel
theorem dX11_isPair_3 : decode cX11_isPair 3 = .ok (.invokevirtual 191, 3) := by decide +kernel
theorem dX11_isPair_6 : decode cX11_isPair 6 = .ok (.ifCond .ne 12, 3) := by decide +kernel
theorem dX11_isPair_9 : decode cX11_isPair 9 = .ok (.aload_n 0, 1) := by decide +kernel
theorem dX11_isPair_10 : decode cX11_isPair 10 = .ok (.iload_n 2, 1) := by decide +kernel
theorem dX11_isPair_11 : decode cX11_isPair 11 = .ok (.iload_n 1, 1) := by decide +kernel
theorem dX11_isPair_12 : decode cX11_isPair 12 = .ok (.invokevirtual 191, 3) := by decide +kernel
theorem dX11_isPair_15 : decode cX11_isPair 15 = .ok (.ifCond .eq 7, 3) := by decide +kernel
theorem dX11_isPair_18 : decode cX11_isPair 18 = .ok (.iconst 1, 1) := by decide +kernel
theorem dX11_isPair_19 : decode cX11_isPair 19 = .ok (.goto 4, 3) := by decide +kernel
theorem dX11_isPair_22 : decode cX11_isPair 22 = .ok (.iconst 0, 1) := by decide +kernel
theorem dX11_isPair_23 : decode cX11_isPair 23 = .ok (.ireturn, 1) := by decide +kernel
theorem dX11_pairs_0 : decode cX11_pairs 0 = .ok (.iload_n 1, 1) := by decide +kernel
theorem dX11_pairs_1 : decode cX11_pairs 1 = .ok (.invokestatic 194, 3) := by decide +kernel
theorem dX11_pairs_4 : decode cX11_pairs 4 = .ok (.ifCond .ne 6, 3) := by decide +kernel
theorem dX11_pairs_7 : decode cX11_pairs 7 = .ok (.bipush (-2), 2) := by decide +kernel
theorem dX11_pairs_9 : decode cX11_pairs 9 = .ok (.ireturn, 1) := by decide +kernel
theorem dX11_pairs_10 : decode cX11_pairs 10 = .ok (.iconst 0, 1) := by decide +kernel
theorem dX11_pairs_11 : decode cX11_pairs 11 = .ok (.istore_n 2, 1) := by decide +kernel
theorem dX11_pairs_12 : decode cX11_pairs 12 = .ok (.iconst 0, 1) := by decide +kernel
theorem dX11_pairs_13 : decode cX11_pairs 13 = .ok (.istore_n 3, 1) := by decide +kernel
theorem dX11_pairs_14 : decode cX11_pairs 14 = .ok (.iload_n 3, 1) := by decide +kernel
theorem dX11_pairs_15 : decode cX11_pairs 15 = .ok (.aload_n 0, 1) := by decide +kernel
theorem dX11_pairs_16 : decode cX11_pairs 16 = .ok (.getfield 130, 3) := by decide +kernel
theorem dX11_pairs_19 : decode cX11_pairs 19 = .ok (.if_icmp .ge 66, 3) := by decide +kernel
theorem dX11_pairs_22 : decode cX11_pairs 22 = .ok (.iload_n 3, 1) := by decide +kernel
theorem dX11_pairs_23 : decode cX11_pairs 23 = .ok (.iconst 1, 1) := by decide +kernel
theorem dX11_pairs_24 : decode cX11_pairs 24 = .ok (.iadd, 1) := by decide +kernel
theorem dX11_pairs_25 : decode cX11_pairs 25 = .ok (.istore 4, 2) := by decide +kernel
theorem dX11_pairs_27 : decode cX11_pairs 27 = .ok (.iload 4, 2) := by decide +kernel
theorem dX11_pairs_29 : decode cX11_pairs 29 = .ok (.aload_n 0, 1) := by decide +kernel
theorem dX11_pairs_30 : decode cX11_pairs 30 = .ok (.getfield 130, 3) := by decide +kernel
theorem dX11_pairs_33 : decode cX11_pairs 33 = .ok (.if_icmp .ge 46, 3) := by decide +kernel
theorem dX11_pairs_36 : decode cX11_pairs 36 = .ok (.iload_n 2, 1) := by decide +kernel
theorem dX11_pairs_37 : decode cX11_pairs 37 = .ok (.aload_n 0, 1) := by decide +kernel
theorem dX11_pairs_38 : decode cX11_pairs 38 = .ok (.iload_n 3, 1) := by decide +kernel
theorem dX11_pairs_39 : decode cX11_pairs 39 = .ok (.iload_n 1, 1) := by decide +kernel
theorem dX11_pairs_40 : decode cX11_pairs 40 = .ok (.invokevirtual 197, 3) := by decide +kernel
theorem dX11_pairs_43 : decode cX11_pairs 43 = .ok (.ifCond .eq 27, 3) := by decide +kernel
theorem dX11_pairs_46 : decode cX11_pairs 46 = .ok (.aload_n 0, 1) := by decide +kernel
theorem dX11_pairs_47 : decode cX11_pairs 47 = .ok (.iload 4, 2) := by decide +kernel
theorem dX11_pairs_49 : decode cX11_pairs 49 = .ok (.iload_n 1, 1) := by decide +kernel
theorem dX11_pairs_50 : decode cX11_pairs 50 = .ok (.invokevirtual 197, 3) := by decide +kernel
theorem dX11_pairs_53 : decode cX11_pairs 53 = .ok (.ifCond .eq 17, 3) := by decide +kernel
theorem dX11_pairs_56 : decode cX11_pairs 56 = .ok (.aload_n 0, 1) := by decide +kernel
theorem dX11_pairs_57 : decode cX11_pairs 57 = .ok (.iload_n 3, 1) := by decide +kernel
theorem dX11_pairs_58 : decode cX11_pairs 58 = .ok (.iload 4, 2) := by decide +kernel
theorem dX11_pairs_60 : decode cX11_pairs 60 = .ok (.invokevirtual 200, 3) := by decide +kernel
theorem dX11_pairs_63 : decode cX11_pairs 63 = .ok (.ifCond .eq 7, 3) := by decide +kernel
theorem dX11_pairs_66 : decode cX11_pairs 66 = .ok (.iconst 1, 1) := by decide +kernel
theorem dX11_pairs_67 : decode cX11_pairs 67 = .ok (.goto 4, 3) := by decide +kernel
theorem dX11_pairs_70 : decode cX11_pairs 70 = .ok (.iconst 0, 1) := by decide +kernel
theorem dX11_pairs_71 : decode cX11_pairs 71 = .ok (.iadd, 1) := by decide +kernel
theorem dX11_pairs_72 : decode cX11_pairs 72 = .ok (.istore_n 2, 1) := by decide +kernel
theorem dX11_pairs_73 : decode cX11_pairs 73 = .ok (.iinc 4 1, 3) := by decide +kernel
theorem dX11_pairs_76 : decode cX11_pairs 76 = .ok (.goto (-49), 3) := by decide +kernel
theorem dX11_pairs_79 : decode cX11_pairs 79 = .ok (.iinc 3 1, 3) := by decide +kernel
theorem dX11_pairs_82 : decode cX11_pairs 82 = .ok (.goto (-68), 3) := by decide +kernel
theorem dX11_pairs_85 : decode cX11_pairs 85 = .ok (.iload_n 2, 1) := by decide +kernel
theorem dX11_pairs_86 : decode cX11_pairs 86 = .ok (.ireturn, 1) := by decide +kernel
theorem dX11_pair_0 : decode cX11_pair 0 = .ok (.iload_n 1, 1) := by decide +kernel
theorem dX11_pair_1 : decode cX11_pair 1 = .ok (.invokestatic 194, 3) := by decide +kernel
theorem dX11_pair_4 : decode cX11_pair 4 = .ok (.ifCond .eq 17, 3) := by decide +kernel
theorem dX11_pair_7 : decode cX11_pair 7 = .ok (.iload_n 2, 1) := by decide +kernel
theorem dX11_pair_8 : decode cX11_pair 8 = .ok (.ifCond .lt 13, 3) := by decide +kernel
theorem dX11_pair_11 : decode cX11_pair 11 = .ok (.iload_n 3, 1) := by decide +kernel
theorem dX11_pair_12 : decode cX11_pair 12 = .ok (.i2l, 1) := by decide +kernel
theorem dX11_pair_13 : decode cX11_pair 13 = .ok (.lconst 0, 1) := by decide +kernel
theorem dX11_pair_14 : decode cX11_pair 14 = .ok (.lconst 1, 1) := by decide +kernel
theorem dX11_pair_15 : decode cX11_pair 15 = .ok (.invokestatic 110, 3) := by decide +kernel
theorem dX11_pair_18 : decode cX11_pair 18 = .ok (.ifCond .ne 5, 3) := by decide +kernel
theorem dX11_pair_21 : decode cX11_pair 21 = .ok (.iconst (-1), 1) := by decide +kernel
theorem dX11_pair_22 : decode cX11_pair 22 = .ok (.ireturn, 1) := by decide +kernel
theorem dX11_pair_23 : decode cX11_pair 23 = .ok (.iload_n 2, 1) := by decide +kernel
theorem dX11_pair_24 : decode cX11_pair 24 = .ok (.istore 4, 2) := by decide +kernel
theorem dX11_pair_26 : decode cX11_pair 26 = .ok (.iconst 0, 1) := by decide +kernel
theorem dX11_pair_27 : decode cX11_pair 27 = .ok (.istore 5, 2) := by decide +kernel
theorem dX11_pair_29 : decode cX11_pair 29 = .ok (.iload 5, 2) := by decide +kernel
theorem dX11_pair_31 : decode cX11_pair 31 = .ok (.aload_n 0, 1) := by decide +kernel
theorem dX11_pair_32 : decode cX11_pair 32 = .ok (.getfield 130, 3) := by decide +kernel
theorem dX11_pair_35 : decode cX11_pair 35 = .ok (.if_icmp .ge 87, 3) := by decide +kernel
theorem dX11_pair_38 : decode cX11_pair 38 = .ok (.aload_n 0, 1) := by decide +kernel
theorem dX11_pair_39 : decode cX11_pair 39 = .ok (.iload 5, 2) := by decide +kernel
theorem dX11_pair_41 : decode cX11_pair 41 = .ok (.iload_n 1, 1) := by decide +kernel
theorem dX11_pair_42 : decode cX11_pair 42 = .ok (.invokevirtual 197, 3) := by decide +kernel
theorem dX11_pair_45 : decode cX11_pair 45 = .ok (.ifCond .ne 6, 3) := by decide +kernel
theorem dX11_pair_48 : decode cX11_pair 48 = .ok (.goto 68, 3) := by decide +kernel
theorem dX11_pair_51 : decode cX11_pair 51 = .ok (.iload 5, 2) := by decide +kernel
theorem dX11_pair_53 : decode cX11_pair 53 = .ok (.iconst 1, 1) := by decide +kernel
theorem dX11_pair_54 : decode cX11_pair 54 = .ok (.iadd, 1) := by decide +kernel
theorem dX11_pair_55 : decode cX11_pair 55 = .ok (.istore 6, 2) := by decide +kernel
theorem dX11_pair_57 : decode cX11_pair 57 = .ok (.iload 6, 2) := by decide +kernel
theorem dX11_pair_59 : decode cX11_pair 59 = .ok (.aload_n 0, 1) := by decide +kernel
theorem dX11_pair_60 : decode cX11_pair 60 = .ok (.getfield 130, 3) := by decide +kernel
theorem dX11_pair_63 : decode cX11_pair 63 = .ok (.if_icmp .ge 53, 3) := by decide +kernel
theorem dX11_pair_66 : decode cX11_pair 66 = .ok (.aload_n 0, 1) := by decide +kernel
theorem dX11_pair_67 : decode cX11_pair 67 = .ok (.iload 6, 2) := by decide +kernel
theorem dX11_pair_69 : decode cX11_pair 69 = .ok (.iload_n 1, 1) := by decide +kernel
theorem dX11_pair_70 : decode cX11_pair 70 = .ok (.invokevirtual 197, 3) := by decide +kernel
theorem dX11_pair_73 : decode cX11_pair 73 = .ok (.ifCond .eq 37, 3) := by decide +kernel
theorem dX11_pair_76 : decode cX11_pair 76 = .ok (.aload_n 0, 1) := by decide +kernel
theorem dX11_pair_77 : decode cX11_pair 77 = .ok (.iload 5, 2) := by decide +kernel
theorem dX11_pair_79 : decode cX11_pair 79 = .ok (.iload 6, 2) := by decide +kernel
theorem dX11_pair_81 : decode cX11_pair 81 = .ok (.invokevirtual 200, 3) := by decide +kernel
theorem dX11_pair_84 : decode cX11_pair 84 = .ok (.ifCond .ne 6, 3) := by decide +kernel
theorem dX11_pair_87 : decode cX11_pair 87 = .ok (.goto 23, 3) := by decide +kernel
theorem dX11_pair_90 : decode cX11_pair 90 = .ok (.iload 4, 2) := by decide +kernel
theorem dX11_pair_92 : decode cX11_pair 92 = .ok (.ifCond .ne 15, 3) := by decide +kernel
theorem dX11_pair_95 : decode cX11_pair 95 = .ok (.iload_n 3, 1) := by decide +kernel
theorem dX11_pair_96 : decode cX11_pair 96 = .ok (.ifCond .ne 8, 3) := by decide +kernel
theorem dX11_pair_99 : decode cX11_pair 99 = .ok (.iload 5, 2) := by decide +kernel
theorem dX11_pair_101 : decode cX11_pair 101 = .ok (.goto 5, 3) := by decide +kernel
theorem dX11_pair_104 : decode cX11_pair 104 = .ok (.iload 6, 2) := by decide +kernel
theorem dX11_pair_106 : decode cX11_pair 106 = .ok (.ireturn, 1) := by decide +kernel
theorem dX11_pair_107 : decode cX11_pair 107 = .ok (.iinc 4 (-1), 3) := by decide +kernel
theorem dX11_pair_110 : decode cX11_pair 110 = .ok (.iinc 6 1, 3) := by decide +kernel
theorem dX11_pair_113 : decode cX11_pair 113 = .ok (.goto (-56), 3) := by decide +kernel
theorem dX11_pair_116 : decode cX11_pair 116 = .ok (.iinc 5 1, 3) := by decide +kernel
theorem dX11_pair_119 : decode cX11_pair 119 = .ok (.goto (-90), 3) := by decide +kernel
theorem dX11_pair_122 : decode cX11_pair 122 = .ok (.iconst (-1), 1) := by decide +kernel
theorem dX11_pair_123 : decode cX11_pair 123 = .ok (.ireturn, 1) := by decide +kernel
theorem dX11_follow_0 : decode cX11_follow 0 = .ok (.iload_n 1, 1) := by decide +kernel
theorem dX11_follow_1 : decode cX11_follow 1 = .ok (.istore 5, 2) := by decide +kernel
theorem dX11_follow_3 : decode cX11_follow 3 = .ok (.aload_n 0, 1) := by decide +kernel
theorem dX11_follow_4 : decode cX11_follow 4 = .ok (.getfield 31, 3) := by decide +kernel
theorem dX11_follow_7 : decode cX11_follow 7 = .ok (.iload 5, 2) := by decide +kernel
theorem dX11_follow_9 : decode cX11_follow 9 = .ok (.iaload, 1) := by decide +kernel
theorem dX11_follow_10 : decode cX11_follow 10 = .ok (.iconst (-1), 1) := by decide +kernel
theorem dX11_follow_11 : decode cX11_follow 11 = .ok (.if_icmp .eq 75, 3) := by decide +kernel
theorem dX11_follow_14 : decode cX11_follow 14 = .ok (.iload 4, 2) := by decide +kernel
theorem dX11_follow_16 : decode cX11_follow 16 = .ok (.aload_n 0, 1) := by decide +kernel
theorem dX11_follow_17 : decode cX11_follow 17 = .ok (.getfield 31, 3) := by decide +kernel
theorem dX11_follow_20 : decode cX11_follow 20 = .ok (.iload 5, 2) := by decide +kernel
theorem dX11_follow_22 : decode cX11_follow 22 = .ok (.iaload, 1) := by decide +kernel
theorem dX11_follow_23 : decode cX11_follow 23 = .ok (.if_icmp .lt 63, 3) := by decide +kernel
theorem dX11_follow_26 : decode cX11_follow 26 = .ok (.aload_n 0, 1) := by decide +kernel
theorem dX11_follow_27 : decode cX11_follow 27 = .ok (.getfield 37, 3) := by decide +kernel
theorem dX11_follow_30 : decode cX11_follow 30 = .ok (.iload 5, 2) := by decide +kernel
theorem dX11_follow_32 : decode cX11_follow 32 = .ok (.iaload, 1) := by decide +kernel
theorem dX11_follow_33 : decode cX11_follow 33 = .ok (.aload_n 0, 1) := by decide +kernel
theorem dX11_follow_34 : decode cX11_follow 34 = .ok (.getfield 31, 3) := by decide +kernel
theorem dX11_follow_37 : decode cX11_follow 37 = .ok (.iload 5, 2) := by decide +kernel
theorem dX11_follow_39 : decode cX11_follow 39 = .ok (.iaload, 1) := by decide +kernel
theorem dX11_follow_40 : decode cX11_follow 40 = .ok (.if_icmp .eq 5, 3) := by decide +kernel
theorem dX11_follow_43 : decode cX11_follow 43 = .ok (.iconst (-1), 1) := by decide +kernel
theorem dX11_follow_44 : decode cX11_follow 44 = .ok (.ireturn, 1) := by decide +kernel
theorem dX11_follow_45 : decode cX11_follow 45 = .ok (.aload_n 0, 1) := by decide +kernel
theorem dX11_follow_46 : decode cX11_follow 46 = .ok (.getfield 43, 3) := by decide +kernel
theorem dX11_follow_49 : decode cX11_follow 49 = .ok (.iload 5, 2) := by decide +kernel
theorem dX11_follow_51 : decode cX11_follow 51 = .ok (.iaload, 1) := by decide +kernel
theorem dX11_follow_52 : decode cX11_follow 52 = .ok (.lload_n 2, 1) := by decide +kernel
theorem dX11_follow_53 : decode cX11_follow 53 = .ok (.iconst 0, 1) := by decide +kernel
theorem dX11_follow_54 : decode cX11_follow 54 = .ok (.invokestatic 183, 3) := by decide +kernel
theorem dX11_follow_57 : decode cX11_follow 57 = .ok (.ishr, 1) := by decide +kernel
theorem dX11_follow_58 : decode cX11_follow 58 = .ok (.iconst 1, 1) := by decide +kernel
theorem dX11_follow_59 : decode cX11_follow 59 = .ok (.iand, 1) := by decide +kernel
theorem dX11_follow_60 : decode cX11_follow 60 = .ok (.iconst 1, 1) := by decide +kernel
theorem dX11_follow_61 : decode cX11_follow 61 = .ok (.if_icmp .ne 13, 3) := by decide +kernel
theorem dX11_follow_64 : decode cX11_follow 64 = .ok (.aload_n 0, 1) := by decide +kernel
theorem dX11_follow_65 : decode cX11_follow 65 = .ok (.getfield 46, 3) := by decide +kernel
theorem dX11_follow_68 : decode cX11_follow 68 = .ok (.iload 5, 2) := by decide +kernel
theorem dX11_follow_70 : decode cX11_follow 70 = .ok (.iaload, 1) := by decide +kernel
theorem dX11_follow_71 : decode cX11_follow 71 = .ok (.goto 10, 3) := by decide +kernel
theorem dX11_follow_74 : decode cX11_follow 74 = .ok (.aload_n 0, 1) := by decide +kernel
theorem dX11_follow_75 : decode cX11_follow 75 = .ok (.getfield 40, 3) := by decide +kernel
theorem dX11_follow_78 : decode cX11_follow 78 = .ok (.iload 5, 2) := by decide +kernel
theorem dX11_follow_80 : decode cX11_follow 80 = .ok (.iaload, 1) := by decide +kernel
theorem dX11_follow_81 : decode cX11_follow 81 = .ok (.istore 5, 2) := by decide +kernel
theorem dX11_follow_83 : decode cX11_follow 83 = .ok (.goto (-80), 3) := by decide +kernel
theorem dX11_follow_86 : decode cX11_follow 86 = .ok (.iload 4, 2) := by decide +kernel
theorem dX11_follow_88 : decode cX11_follow 88 = .ok (.aload_n 0, 1) := by decide +kernel
theorem dX11_follow_89 : decode cX11_follow 89 = .ok (.getfield 28, 3) := by decide +kernel
theorem dX11_follow_92 : decode cX11_follow 92 = .ok (.iload 5, 2) := by decide +kernel
theorem dX11_follow_94 : decode cX11_follow 94 = .ok (.iaload, 1) := by decide +kernel
theorem dX11_follow_95 : decode cX11_follow 95 = .ok (.if_icmp .lt 8, 3) := by decide +kernel
theorem dX11_follow_98 : decode cX11_follow 98 = .ok (.iload 5, 2) := by decide +kernel
theorem dX11_follow_100 : decode cX11_follow 100 = .ok (.goto 4, 3) := by decide +kernel
theorem dX11_follow_103 : decode cX11_follow 103 = .ok (.iconst (-1), 1) := by decide +kernel
theorem dX11_follow_104 : decode cX11_follow 104 = .ok (.ireturn, 1) := by decide +kernel
theorem dX11_blockOf_0 : decode cX11_blockOf 0 = .ok (.iload_n 2, 1) := by decide +kernel
theorem dX11_blockOf_1 : decode cX11_blockOf 1 = .ok (.aload_n 0, 1) := by decide +kernel
theorem dX11_blockOf_2 : decode cX11_blockOf 2 = .ok (.getfield 59, 3) := by decide +kernel
theorem dX11_blockOf_5 : decode cX11_blockOf 5 = .ok (.iload_n 1, 1) := by decide +kernel
theorem dX11_blockOf_6 : decode cX11_blockOf 6 = .ok (.iaload, 1) := by decide +kernel
theorem dX11_blockOf_7 : decode cX11_blockOf 7 = .ok (.if_icmp .lt 23, 3) := by decide +kernel
theorem dX11_blockOf_10 : decode cX11_blockOf 10 = .ok (.aload_n 0, 1) := by decide +kernel
theorem dX11_blockOf_11 : decode cX11_blockOf 11 = .ok (.getfield 62, 3) := by decide +kernel
theorem dX11_blockOf_14 : decode cX11_blockOf 14 = .ok (.iload_n 1, 1) := by decide +kernel
theorem dX11_blockOf_15 : decode cX11_blockOf 15 = .ok (.iaload, 1) := by decide +kernel
theorem dX11_blockOf_16 : decode cX11_blockOf 16 = .ok (.iconst (-1), 1) := by decide +kernel
theorem dX11_blockOf_17 : decode cX11_blockOf 17 = .ok (.if_icmp .eq 15, 3) := by decide +kernel
theorem dX11_blockOf_20 : decode cX11_blockOf 20 = .ok (.iload_n 2, 1) := by decide +kernel
theorem dX11_blockOf_21 : decode cX11_blockOf 21 = .ok (.aload_n 0, 1) := by decide +kernel
theorem dX11_blockOf_22 : decode cX11_blockOf 22 = .ok (.getfield 62, 3) := by decide +kernel
theorem dX11_blockOf_25 : decode cX11_blockOf 25 = .ok (.iload_n 1, 1) := by decide +kernel
theorem dX11_blockOf_26 : decode cX11_blockOf 26 = .ok (.iaload, 1) := by decide +kernel
theorem dX11_blockOf_27 : decode cX11_blockOf 27 = .ok (.if_icmp .lt 5, 3) := by decide +kernel
theorem dX11_blockOf_30 : decode cX11_blockOf 30 = .ok (.iconst (-1), 1) := by decide +kernel
theorem dX11_blockOf_31 : decode cX11_blockOf 31 = .ok (.ireturn, 1) := by decide +kernel
theorem dX11_blockOf_32 : decode cX11_blockOf 32 = .ok (.aload_n 0, 1) := by decide +kernel
theorem dX11_blockOf_33 : decode cX11_blockOf 33 = .ok (.aload_n 0, 1) := by decide +kernel
theorem dX11_blockOf_34 : decode cX11_blockOf 34 = .ok (.getfield 53, 3) := by decide +kernel
theorem dX11_blockOf_37 : decode cX11_blockOf 37 = .ok (.iload_n 1, 1) := by decide +kernel
theorem dX11_blockOf_38 : decode cX11_blockOf 38 = .ok (.iaload, 1) := by decide +kernel
theorem dX11_blockOf_39 : decode cX11_blockOf 39 = .ok (.aload_n 0, 1) := by decide +kernel
theorem dX11_blockOf_40 : decode cX11_blockOf 40 = .ok (.getfield 56, 3) := by decide +kernel
theorem dX11_blockOf_43 : decode cX11_blockOf 43 = .ok (.iload_n 1, 1) := by decide +kernel
theorem dX11_blockOf_44 : decode cX11_blockOf 44 = .ok (.laload, 1) := by decide +kernel
theorem dX11_blockOf_45 : decode cX11_blockOf 45 = .ok (.iload_n 2, 1) := by decide +kernel
theorem dX11_blockOf_46 : decode cX11_blockOf 46 = .ok (.invokevirtual 203, 3) := by decide +kernel
theorem dX11_blockOf_49 : decode cX11_blockOf 49 = .ok (.ireturn, 1) := by decide +kernel
theorem dX11_lineOn_0 : decode cX11_lineOn 0 = .ok (.iconst 0, 1) := by decide +kernel
theorem dX11_lineOn_1 : decode cX11_lineOn 1 = .ok (.istore 5, 2) := by decide +kernel
theorem dX11_lineOn_3 : decode cX11_lineOn 3 = .ok (.iload 5, 2) := by decide +kernel
theorem dX11_lineOn_5 : decode cX11_lineOn 5 = .ok (.aload_n 0, 1) := by decide +kernel
theorem dX11_lineOn_6 : decode cX11_lineOn 6 = .ok (.getfield 207, 3) := by decide +kernel
theorem dX11_lineOn_9 : decode cX11_lineOn 9 = .ok (.if_icmp .ge 36, 3) := by decide +kernel
theorem dX11_lineOn_12 : decode cX11_lineOn 12 = .ok (.aload_n 0, 1) := by decide +kernel
theorem dX11_lineOn_13 : decode cX11_lineOn 13 = .ok (.getfield 56, 3) := by decide +kernel
theorem dX11_lineOn_16 : decode cX11_lineOn 16 = .ok (.iload 5, 2) := by decide +kernel
theorem dX11_lineOn_18 : decode cX11_lineOn 18 = .ok (.laload, 1) := by decide +kernel
theorem dX11_lineOn_19 : decode cX11_lineOn 19 = .ok (.lload_n 2, 1) := by decide +kernel
theorem dX11_lineOn_20 : decode cX11_lineOn 20 = .ok (.lcmp, 1) := by decide +kernel
theorem dX11_lineOn_21 : decode cX11_lineOn 21 = .ok (.ifCond .ne 18, 3) := by decide +kernel
theorem dX11_lineOn_24 : decode cX11_lineOn 24 = .ok (.aload_n 0, 1) := by decide +kernel
theorem dX11_lineOn_25 : decode cX11_lineOn 25 = .ok (.iload 5, 2) := by decide +kernel
theorem dX11_lineOn_27 : decode cX11_lineOn 27 = .ok (.iload 4, 2) := by decide +kernel
theorem dX11_lineOn_29 : decode cX11_lineOn 29 = .ok (.invokevirtual 210, 3) := by decide +kernel
theorem dX11_lineOn_32 : decode cX11_lineOn 32 = .ok (.iload_n 1, 1) := by decide +kernel
theorem dX11_lineOn_33 : decode cX11_lineOn 33 = .ok (.if_icmp .ne 6, 3) := by decide +kernel
theorem dX11_lineOn_36 : decode cX11_lineOn 36 = .ok (.iload 5, 2) := by decide +kernel
theorem dX11_lineOn_38 : decode cX11_lineOn 38 = .ok (.ireturn, 1) := by decide +kernel
theorem dX11_lineOn_39 : decode cX11_lineOn 39 = .ok (.iinc 5 1, 3) := by decide +kernel
theorem dX11_lineOn_42 : decode cX11_lineOn 42 = .ok (.goto (-39), 3) := by decide +kernel
theorem dX11_lineOn_45 : decode cX11_lineOn 45 = .ok (.iconst (-1), 1) := by decide +kernel
theorem dX11_lineOn_46 : decode cX11_lineOn 46 = .ok (.ireturn, 1) := by decide +kernel
theorem dX11_line_0 : decode cX11_line 0 = .ok (.aload_n 0, 1) := by decide +kernel
theorem dX11_line_1 : decode cX11_line 1 = .ok (.iload_n 1, 1) := by decide +kernel
theorem dX11_line_2 : decode cX11_line 2 = .ok (.invokevirtual 166, 3) := by decide +kernel
theorem dX11_line_5 : decode cX11_line 5 = .ok (.ifCond .eq 24, 3) := by decide +kernel
theorem dX11_line_8 : decode cX11_line 8 = .ok (.aload_n 0, 1) := by decide +kernel
theorem dX11_line_9 : decode cX11_line 9 = .ok (.getfield 7, 3) := by decide +kernel
theorem dX11_line_12 : decode cX11_line 12 = .ok (.iload_n 1, 1) := by decide +kernel
theorem dX11_line_13 : decode cX11_line 13 = .ok (.iaload, 1) := by decide +kernel
theorem dX11_line_14 : decode cX11_line 14 = .ok (.ifCond .ne 15, 3) := by decide +kernel
theorem dX11_line_17 : decode cX11_line 17 = .ok (.aload_n 0, 1) := by decide +kernel
theorem dX11_line_18 : decode cX11_line 18 = .ok (.iload_n 1, 1) := by decide +kernel
theorem dX11_line_19 : decode cX11_line 19 = .ok (.aload_n 0, 1) := by decide +kernel
theorem dX11_line_20 : decode cX11_line 20 = .ok (.getfield 114, 3) := by decide +kernel
theorem dX11_line_23 : decode cX11_line 23 = .ok (.invokevirtual 197, 3) := by decide +kernel
theorem dX11_line_26 : decode cX11_line 26 = .ok (.ifCond .ne 6, 3) := by decide +kernel
theorem dX11_line_29 : decode cX11_line 29 = .ok (.bipush (-2), 2) := by decide +kernel
theorem dX11_line_31 : decode cX11_line 31 = .ok (.ireturn, 1) := by decide +kernel
theorem dX11_line_32 : decode cX11_line 32 = .ok (.iload_n 2, 1) := by decide +kernel
theorem dX11_line_33 : decode cX11_line 33 = .ok (.i2l, 1) := by decide +kernel
theorem dX11_line_34 : decode cX11_line 34 = .ok (.invokestatic 122, 3) := by decide +kernel
theorem dX11_line_37 : decode cX11_line 37 = .ok (.aload_n 0, 1) := by decide +kernel
theorem dX11_line_38 : decode cX11_line 38 = .ok (.getfield 22, 3) := by decide +kernel
theorem dX11_line_41 : decode cX11_line 41 = .ok (.iload_n 1, 1) := by decide +kernel
theorem dX11_line_42 : decode cX11_line 42 = .ok (.iaload, 1) := by decide +kernel
theorem dX11_line_43 : decode cX11_line 43 = .ok (.aload_n 0, 1) := by decide +kernel
theorem dX11_line_44 : decode cX11_line 44 = .ok (.getfield 16, 3) := by decide +kernel
theorem dX11_line_47 : decode cX11_line 47 = .ok (.iload_n 1, 1) := by decide +kernel
theorem dX11_line_48 : decode cX11_line 48 = .ok (.iaload, 1) := by decide +kernel
theorem dX11_line_49 : decode cX11_line 49 = .ok (.invokestatic 139, 3) := by decide +kernel
theorem dX11_line_52 : decode cX11_line 52 = .ok (.isub, 1) := by decide +kernel
theorem dX11_line_53 : decode cX11_line 53 = .ok (.if_icmp .ne 21, 3) := by decide +kernel
theorem dX11_line_56 : decode cX11_line 56 = .ok (.aload_n 0, 1) := by decide +kernel
theorem dX11_line_57 : decode cX11_line 57 = .ok (.getfield 19, 3) := by decide +kernel
theorem dX11_line_60 : decode cX11_line 60 = .ok (.iload_n 1, 1) := by decide +kernel
theorem dX11_line_61 : decode cX11_line 61 = .ok (.iaload, 1) := by decide +kernel
theorem dX11_line_62 : decode cX11_line 62 = .ok (.iload_n 2, 1) := by decide +kernel
theorem dX11_line_63 : decode cX11_line 63 = .ok (.i2l, 1) := by decide +kernel
theorem dX11_line_64 : decode cX11_line 64 = .ok (.iconst 0, 1) := by decide +kernel
theorem dX11_line_65 : decode cX11_line 65 = .ok (.invokestatic 183, 3) := by decide +kernel
theorem dX11_line_68 : decode cX11_line 68 = .ok (.ishr, 1) := by decide +kernel
theorem dX11_line_69 : decode cX11_line 69 = .ok (.iconst 1, 1) := by decide +kernel
theorem dX11_line_70 : decode cX11_line 70 = .ok (.iand, 1) := by decide +kernel
theorem dX11_line_71 : decode cX11_line 71 = .ok (.ifCond .ne 6, 3) := by decide +kernel
theorem dX11_line_74 : decode cX11_line 74 = .ok (.bipush (-2), 2) := by decide +kernel
theorem dX11_line_76 : decode cX11_line 76 = .ok (.ireturn, 1) := by decide +kernel
theorem dX11_line_77 : decode cX11_line 77 = .ok (.aload_n 0, 1) := by decide +kernel
theorem dX11_line_78 : decode cX11_line 78 = .ok (.iload_n 1, 1) := by decide +kernel
theorem dX11_line_79 : decode cX11_line 79 = .ok (.iload_n 2, 1) := by decide +kernel
theorem dX11_line_80 : decode cX11_line 80 = .ok (.i2l, 1) := by decide +kernel
theorem dX11_line_81 : decode cX11_line 81 = .ok (.aload_n 0, 1) := by decide +kernel
theorem dX11_line_82 : decode cX11_line 82 = .ok (.getfield 114, 3) := by decide +kernel
theorem dX11_line_85 : decode cX11_line 85 = .ok (.invokevirtual 213, 3) := by decide +kernel
theorem dX11_line_88 : decode cX11_line 88 = .ok (.iconst (-1), 1) := by decide +kernel
theorem dX11_line_89 : decode cX11_line 89 = .ok (.if_icmp .eq 5, 3) := by decide +kernel
theorem dX11_line_92 : decode cX11_line 92 = .ok (.iconst (-1), 1) := by decide +kernel
theorem dX11_line_93 : decode cX11_line 93 = .ok (.ireturn, 1) := by decide +kernel
theorem dX11_line_94 : decode cX11_line 94 = .ok (.aload_n 0, 1) := by decide +kernel
theorem dX11_line_95 : decode cX11_line 95 = .ok (.getfield 207, 3) := by decide +kernel
theorem dX11_line_98 : decode cX11_line 98 = .ok (.sipush 300, 3) := by decide +kernel
theorem dX11_line_101 : decode cX11_line 101 = .ok (.if_icmp .ne 6, 3) := by decide +kernel
theorem dX11_line_104 : decode cX11_line 104 = .ok (.bipush (-3), 2) := by decide +kernel
theorem dX11_line_106 : decode cX11_line 106 = .ok (.ireturn, 1) := by decide +kernel
theorem dX11_line_107 : decode cX11_line 107 = .ok (.aload_n 0, 1) := by decide +kernel
theorem dX11_line_108 : decode cX11_line 108 = .ok (.getfield 53, 3) := by decide +kernel
theorem dX11_line_111 : decode cX11_line 111 = .ok (.aload_n 0, 1) := by decide +kernel
theorem dX11_line_112 : decode cX11_line 112 = .ok (.getfield 207, 3) := by decide +kernel
theorem dX11_line_115 : decode cX11_line 115 = .ok (.iload_n 1, 1) := by decide +kernel
theorem dX11_line_116 : decode cX11_line 116 = .ok (.iastore, 1) := by decide +kernel
theorem dX11_line_117 : decode cX11_line 117 = .ok (.aload_n 0, 1) := by decide +kernel
theorem dX11_line_118 : decode cX11_line 118 = .ok (.getfield 56, 3) := by decide +kernel
theorem dX11_line_121 : decode cX11_line 121 = .ok (.aload_n 0, 1) := by decide +kernel
theorem dX11_line_122 : decode cX11_line 122 = .ok (.getfield 207, 3) := by decide +kernel
theorem dX11_line_125 : decode cX11_line 125 = .ok (.iload_n 2, 1) := by decide +kernel
theorem dX11_line_126 : decode cX11_line 126 = .ok (.i2l, 1) := by decide +kernel
theorem dX11_line_127 : decode cX11_line 127 = .ok (.lastore, 1) := by decide +kernel
theorem dX11_line_128 : decode cX11_line 128 = .ok (.aload_n 0, 1) := by decide +kernel
theorem dX11_line_129 : decode cX11_line 129 = .ok (.getfield 59, 3) := by decide +kernel
theorem dX11_line_132 : decode cX11_line 132 = .ok (.aload_n 0, 1) := by decide +kernel
theorem dX11_line_133 : decode cX11_line 133 = .ok (.getfield 207, 3) := by decide +kernel
theorem dX11_line_136 : decode cX11_line 136 = .ok (.aload_n 0, 1) := by decide +kernel
theorem dX11_line_137 : decode cX11_line 137 = .ok (.getfield 114, 3) := by decide +kernel
theorem dX11_line_140 : decode cX11_line 140 = .ok (.iastore, 1) := by decide +kernel
theorem dX11_line_141 : decode cX11_line 141 = .ok (.aload_n 0, 1) := by decide +kernel
theorem dX11_line_142 : decode cX11_line 142 = .ok (.getfield 62, 3) := by decide +kernel
theorem dX11_line_145 : decode cX11_line 145 = .ok (.aload_n 0, 1) := by decide +kernel
theorem dX11_line_146 : decode cX11_line 146 = .ok (.getfield 207, 3) := by decide +kernel
theorem dX11_line_149 : decode cX11_line 149 = .ok (.iconst (-1), 1) := by decide +kernel
theorem dX11_line_150 : decode cX11_line 150 = .ok (.iastore, 1) := by decide +kernel
theorem dX11_line_151 : decode cX11_line 151 = .ok (.aload_n 0, 1) := by decide +kernel
theorem dX11_line_152 : decode cX11_line 152 = .ok (.dup, 1) := by decide +kernel
theorem dX11_line_153 : decode cX11_line 153 = .ok (.getfield 207, 3) := by decide +kernel
theorem dX11_line_156 : decode cX11_line 156 = .ok (.iconst 1, 1) := by decide +kernel
theorem dX11_line_157 : decode cX11_line 157 = .ok (.iadd, 1) := by decide +kernel
theorem dX11_line_158 : decode cX11_line 158 = .ok (.putfield 207, 3) := by decide +kernel
theorem dX11_line_161 : decode cX11_line 161 = .ok (.aload_n 0, 1) := by decide +kernel
theorem dX11_line_162 : decode cX11_line 162 = .ok (.getfield 207, 3) := by decide +kernel
theorem dX11_line_165 : decode cX11_line 165 = .ok (.iconst 1, 1) := by decide +kernel
theorem dX11_line_166 : decode cX11_line 166 = .ok (.isub, 1) := by decide +kernel
theorem dX11_line_167 : decode cX11_line 167 = .ok (.ireturn, 1) := by decide +kernel
theorem dX11_isLine_0 : decode cX11_isLine 0 = .ok (.iload_n 1, 1) := by decide +kernel
theorem dX11_isLine_1 : decode cX11_isLine 1 = .ok (.i2l, 1) := by decide +kernel
theorem dX11_isLine_2 : decode cX11_isLine 2 = .ok (.lconst 0, 1) := by decide +kernel
theorem dX11_isLine_3 : decode cX11_isLine 3 = .ok (.aload_n 0, 1) := by decide +kernel
theorem dX11_isLine_4 : decode cX11_isLine 4 = .ok (.getfield 207, 3) := by decide +kernel
theorem dX11_isLine_7 : decode cX11_isLine 7 = .ok (.iconst 1, 1) := by decide +kernel
theorem dX11_isLine_8 : decode cX11_isLine 8 = .ok (.isub, 1) := by decide +kernel
theorem dX11_isLine_9 : decode cX11_isLine 9 = .ok (.i2l, 1) := by decide +kernel
theorem dX11_isLine_10 : decode cX11_isLine 10 = .ok (.invokestatic 110, 3) := by decide +kernel
theorem dX11_isLine_13 : decode cX11_isLine 13 = .ok (.ireturn, 1) := by decide +kernel
theorem dX11_drop_0 : decode cX11_drop 0 = .ok (.aload_n 0, 1) := by decide +kernel
theorem dX11_drop_1 : decode cX11_drop 1 = .ok (.iload_n 1, 1) := by decide +kernel
theorem dX11_drop_2 : decode cX11_drop 2 = .ok (.invokevirtual 216, 3) := by decide +kernel
theorem dX11_drop_5 : decode cX11_drop 5 = .ok (.ifCond .eq 13, 3) := by decide +kernel
theorem dX11_drop_8 : decode cX11_drop 8 = .ok (.aload_n 0, 1) := by decide +kernel
theorem dX11_drop_9 : decode cX11_drop 9 = .ok (.getfield 62, 3) := by decide +kernel
theorem dX11_drop_12 : decode cX11_drop 12 = .ok (.iload_n 1, 1) := by decide +kernel
theorem dX11_drop_13 : decode cX11_drop 13 = .ok (.iaload, 1) := by decide +kernel
theorem dX11_drop_14 : decode cX11_drop 14 = .ok (.iconst (-1), 1) := by decide +kernel
theorem dX11_drop_15 : decode cX11_drop 15 = .ok (.if_icmp .eq 6, 3) := by decide +kernel
theorem dX11_drop_18 : decode cX11_drop 18 = .ok (.bipush (-2), 2) := by decide +kernel
theorem dX11_drop_20 : decode cX11_drop 20 = .ok (.ireturn, 1) := by decide +kernel
theorem dX11_drop_21 : decode cX11_drop 21 = .ok (.aload_n 0, 1) := by decide +kernel
theorem dX11_drop_22 : decode cX11_drop 22 = .ok (.getfield 62, 3) := by decide +kernel
theorem dX11_drop_25 : decode cX11_drop 25 = .ok (.iload_n 1, 1) := by decide +kernel
theorem dX11_drop_26 : decode cX11_drop 26 = .ok (.aload_n 0, 1) := by decide +kernel
theorem dX11_drop_27 : decode cX11_drop 27 = .ok (.getfield 114, 3) := by decide +kernel
theorem dX11_drop_30 : decode cX11_drop 30 = .ok (.iastore, 1) := by decide +kernel
theorem dX11_drop_31 : decode cX11_drop 31 = .ok (.iconst 1, 1) := by decide +kernel
theorem dX11_drop_32 : decode cX11_drop 32 = .ok (.ireturn, 1) := by decide +kernel
theorem dX11_carrierOf_0 : decode cX11_carrierOf 0 = .ok (.iconst (-1), 1) := by decide +kernel
theorem dX11_carrierOf_1 : decode cX11_carrierOf 1 = .ok (.istore_n 3, 1) := by decide +kernel
theorem dX11_carrierOf_2 : decode cX11_carrierOf 2 = .ok (.iconst 0, 1) := by decide +kernel
theorem dX11_carrierOf_3 : decode cX11_carrierOf 3 = .ok (.istore 4, 2) := by decide +kernel
theorem dX11_carrierOf_5 : decode cX11_carrierOf 5 = .ok (.iload 4, 2) := by decide +kernel
theorem dX11_carrierOf_7 : decode cX11_carrierOf 7 = .ok (.aload_n 0, 1) := by decide +kernel
theorem dX11_carrierOf_8 : decode cX11_carrierOf 8 = .ok (.getfield 219, 3) := by decide +kernel
theorem dX11_carrierOf_11 : decode cX11_carrierOf 11 = .ok (.if_icmp .ge 39, 3) := by decide +kernel
theorem dX11_carrierOf_14 : decode cX11_carrierOf 14 = .ok (.aload_n 0, 1) := by decide +kernel
theorem dX11_carrierOf_15 : decode cX11_carrierOf 15 = .ok (.getfield 65, 3) := by decide +kernel
theorem dX11_carrierOf_18 : decode cX11_carrierOf 18 = .ok (.iload 4, 2) := by decide +kernel
theorem dX11_carrierOf_20 : decode cX11_carrierOf 20 = .ok (.iaload, 1) := by decide +kernel
theorem dX11_carrierOf_21 : decode cX11_carrierOf 21 = .ok (.iload_n 1, 1) := by decide +kernel
theorem dX11_carrierOf_22 : decode cX11_carrierOf 22 = .ok (.if_icmp .ne 22, 3) := by decide +kernel
theorem dX11_carrierOf_25 : decode cX11_carrierOf 25 = .ok (.aload_n 0, 1) := by decide +kernel
theorem dX11_carrierOf_26 : decode cX11_carrierOf 26 = .ok (.getfield 68, 3) := by decide +kernel
theorem dX11_carrierOf_29 : decode cX11_carrierOf 29 = .ok (.iload 4, 2) := by decide +kernel
theorem dX11_carrierOf_31 : decode cX11_carrierOf 31 = .ok (.iaload, 1) := by decide +kernel
theorem dX11_carrierOf_32 : decode cX11_carrierOf 32 = .ok (.iload_n 2, 1) := by decide +kernel
theorem dX11_carrierOf_33 : decode cX11_carrierOf 33 = .ok (.if_icmp .gt 11, 3) := by decide +kernel
theorem dX11_carrierOf_36 : decode cX11_carrierOf 36 = .ok (.aload_n 0, 1) := by decide +kernel
theorem dX11_carrierOf_37 : decode cX11_carrierOf 37 = .ok (.getfield 71, 3) := by decide +kernel
theorem dX11_carrierOf_40 : decode cX11_carrierOf 40 = .ok (.iload 4, 2) := by decide +kernel
theorem dX11_carrierOf_42 : decode cX11_carrierOf 42 = .ok (.iaload, 1) := by decide +kernel
theorem dX11_carrierOf_43 : decode cX11_carrierOf 43 = .ok (.istore_n 3, 1) := by decide +kernel
theorem dX11_carrierOf_44 : decode cX11_carrierOf 44 = .ok (.iinc 4 1, 3) := by decide +kernel
theorem dX11_carrierOf_47 : decode cX11_carrierOf 47 = .ok (.goto (-42), 3) := by decide +kernel
theorem dX11_carrierOf_50 : decode cX11_carrierOf 50 = .ok (.iload_n 3, 1) := by decide +kernel
theorem dX11_carrierOf_51 : decode cX11_carrierOf 51 = .ok (.ireturn, 1) := by decide +kernel
theorem dX11_port_0 : decode cX11_port 0 = .ok (.aload_n 0, 1) := by decide +kernel
theorem dX11_port_1 : decode cX11_port 1 = .ok (.iload_n 1, 1) := by decide +kernel
theorem dX11_port_2 : decode cX11_port 2 = .ok (.invokevirtual 216, 3) := by decide +kernel
theorem dX11_port_5 : decode cX11_port 5 = .ok (.ifCond .eq 25, 3) := by decide +kernel
theorem dX11_port_8 : decode cX11_port 8 = .ok (.aload_n 0, 1) := by decide +kernel
theorem dX11_port_9 : decode cX11_port 9 = .ok (.getfield 62, 3) := by decide +kernel
theorem dX11_port_12 : decode cX11_port 12 = .ok (.iload_n 1, 1) := by decide +kernel
theorem dX11_port_13 : decode cX11_port 13 = .ok (.iaload, 1) := by decide +kernel
theorem dX11_port_14 : decode cX11_port 14 = .ok (.iconst (-1), 1) := by decide +kernel
theorem dX11_port_15 : decode cX11_port 15 = .ok (.if_icmp .ne 15, 3) := by decide +kernel
theorem dX11_port_18 : decode cX11_port 18 = .ok (.iload_n 2, 1) := by decide +kernel
theorem dX11_port_19 : decode cX11_port 19 = .ok (.i2l, 1) := by decide +kernel
theorem dX11_port_20 : decode cX11_port 20 = .ok (.lconst 0, 1) := by decide +kernel
theorem dX11_port_21 : decode cX11_port 21 = .ok (.ldc2_w 162, 3) := by decide +kernel
theorem dX11_port_24 : decode cX11_port 24 = .ok (.invokestatic 110, 3) := by decide +kernel
theorem dX11_port_27 : decode cX11_port 27 = .ok (.ifCond .ne 6, 3) := by decide +kernel
theorem dX11_port_30 : decode cX11_port 30 = .ok (.bipush (-2), 2) := by decide +kernel
theorem dX11_port_32 : decode cX11_port 32 = .ok (.ireturn, 1) := by decide +kernel
theorem dX11_port_33 : decode cX11_port 33 = .ok (.aload_n 0, 1) := by decide +kernel
theorem dX11_port_34 : decode cX11_port 34 = .ok (.getfield 219, 3) := by decide +kernel
theorem dX11_port_37 : decode cX11_port 37 = .ok (.sipush 500, 3) := by decide +kernel
theorem dX11_port_40 : decode cX11_port 40 = .ok (.if_icmp .ne 6, 3) := by decide +kernel
theorem dX11_port_43 : decode cX11_port 43 = .ok (.bipush (-3), 2) := by decide +kernel
theorem dX11_port_45 : decode cX11_port 45 = .ok (.ireturn, 1) := by decide +kernel
theorem dX11_port_46 : decode cX11_port 46 = .ok (.aload_n 0, 1) := by decide +kernel
theorem dX11_port_47 : decode cX11_port 47 = .ok (.iload_n 1, 1) := by decide +kernel
theorem dX11_port_48 : decode cX11_port 48 = .ok (.aload_n 0, 1) := by decide +kernel
theorem dX11_port_49 : decode cX11_port 49 = .ok (.getfield 114, 3) := by decide +kernel
theorem dX11_port_52 : decode cX11_port 52 = .ok (.invokevirtual 222, 3) := by decide +kernel
theorem dX11_port_55 : decode cX11_port 55 = .ok (.istore_n 3, 1) := by decide +kernel
theorem dX11_port_56 : decode cX11_port 56 = .ok (.aload_n 0, 1) := by decide +kernel
theorem dX11_port_57 : decode cX11_port 57 = .ok (.getfield 65, 3) := by decide +kernel
theorem dX11_port_60 : decode cX11_port 60 = .ok (.aload_n 0, 1) := by decide +kernel
theorem dX11_port_61 : decode cX11_port 61 = .ok (.getfield 219, 3) := by decide +kernel
theorem dX11_port_64 : decode cX11_port 64 = .ok (.iload_n 1, 1) := by decide +kernel
theorem dX11_port_65 : decode cX11_port 65 = .ok (.iastore, 1) := by decide +kernel
theorem dX11_port_66 : decode cX11_port 66 = .ok (.aload_n 0, 1) := by decide +kernel
theorem dX11_port_67 : decode cX11_port 67 = .ok (.getfield 68, 3) := by decide +kernel
theorem dX11_port_70 : decode cX11_port 70 = .ok (.aload_n 0, 1) := by decide +kernel
theorem dX11_port_71 : decode cX11_port 71 = .ok (.getfield 219, 3) := by decide +kernel
theorem dX11_port_74 : decode cX11_port 74 = .ok (.aload_n 0, 1) := by decide +kernel
theorem dX11_port_75 : decode cX11_port 75 = .ok (.getfield 114, 3) := by decide +kernel
theorem dX11_port_78 : decode cX11_port 78 = .ok (.iastore, 1) := by decide +kernel
theorem dX11_port_79 : decode cX11_port 79 = .ok (.aload_n 0, 1) := by decide +kernel
theorem dX11_port_80 : decode cX11_port 80 = .ok (.getfield 71, 3) := by decide +kernel
theorem dX11_port_83 : decode cX11_port 83 = .ok (.aload_n 0, 1) := by decide +kernel
theorem dX11_port_84 : decode cX11_port 84 = .ok (.getfield 219, 3) := by decide +kernel
theorem dX11_port_87 : decode cX11_port 87 = .ok (.iload_n 2, 1) := by decide +kernel
theorem dX11_port_88 : decode cX11_port 88 = .ok (.iastore, 1) := by decide +kernel
theorem dX11_port_89 : decode cX11_port 89 = .ok (.aload_n 0, 1) := by decide +kernel
theorem dX11_port_90 : decode cX11_port 90 = .ok (.dup, 1) := by decide +kernel
theorem dX11_port_91 : decode cX11_port 91 = .ok (.getfield 219, 3) := by decide +kernel
theorem dX11_port_94 : decode cX11_port 94 = .ok (.iconst 1, 1) := by decide +kernel
theorem dX11_port_95 : decode cX11_port 95 = .ok (.iadd, 1) := by decide +kernel
theorem dX11_port_96 : decode cX11_port 96 = .ok (.putfield 219, 3) := by decide +kernel
theorem dX11_port_99 : decode cX11_port 99 = .ok (.iload_n 3, 1) := by decide +kernel
theorem dX11_port_100 : decode cX11_port 100 = .ok (.ireturn, 1) := by decide +kernel
theorem dX11_joined_0 : decode cX11_joined 0 = .ok (.lload_n 0, 1) := by decide +kernel
theorem dX11_joined_1 : decode cX11_joined 1 = .ok (.lstore 4, 2) := by decide +kernel
theorem dX11_joined_3 : decode cX11_joined 3 = .ok (.lload_n 2, 1) := by decide +kernel
theorem dX11_joined_4 : decode cX11_joined 4 = .ok (.invokestatic 122, 3) := by decide +kernel
theorem dX11_joined_7 : decode cX11_joined 7 = .ok (.istore 6, 2) := by decide +kernel
theorem dX11_joined_9 : decode cX11_joined 9 = .ok (.iconst 0, 1) := by decide +kernel
theorem dX11_joined_10 : decode cX11_joined 10 = .ok (.istore 7, 2) := by decide +kernel
theorem dX11_joined_12 : decode cX11_joined 12 = .ok (.iload 7, 2) := by decide +kernel
theorem dX11_joined_14 : decode cX11_joined 14 = .ok (.iload 6, 2) := by decide +kernel
theorem dX11_joined_16 : decode cX11_joined 16 = .ok (.if_icmp .ge 25, 3) := by decide +kernel
theorem dX11_joined_19 : decode cX11_joined 19 = .ok (.ldc2_w 120, 3) := by decide +kernel
theorem dX11_joined_22 : decode cX11_joined 22 = .ok (.lload 4, 2) := by decide +kernel
theorem dX11_joined_24 : decode cX11_joined 24 = .ok (.lmul, 1) := by decide +kernel
theorem dX11_joined_25 : decode cX11_joined 25 = .ok (.lload_n 2, 1) := by decide +kernel
theorem dX11_joined_26 : decode cX11_joined 26 = .ok (.iload 7, 2) := by decide +kernel
theorem dX11_joined_28 : decode cX11_joined 28 = .ok (.invokestatic 183, 3) := by decide +kernel
theorem dX11_joined_31 : decode cX11_joined 31 = .ok (.i2l, 1) := by decide +kernel
theorem dX11_joined_32 : decode cX11_joined 32 = .ok (.ladd, 1) := by decide +kernel
theorem dX11_joined_33 : decode cX11_joined 33 = .ok (.lstore 4, 2) := by decide +kernel
theorem dX11_joined_35 : decode cX11_joined 35 = .ok (.iinc 7 1, 3) := by decide +kernel
theorem dX11_joined_38 : decode cX11_joined 38 = .ok (.goto (-26), 3) := by decide +kernel
theorem dX11_joined_41 : decode cX11_joined 41 = .ok (.lload 4, 2) := by decide +kernel
theorem dX11_joined_43 : decode cX11_joined 43 = .ok (.lreturn, 1) := by decide +kernel
theorem dX11_numberOf_0 : decode cX11_numberOf 0 = .ok (.aload_n 0, 1) := by decide +kernel
theorem dX11_numberOf_1 : decode cX11_numberOf 1 = .ok (.iload_n 1, 1) := by decide +kernel
theorem dX11_numberOf_2 : decode cX11_numberOf 2 = .ok (.invokevirtual 216, 3) := by decide +kernel
theorem dX11_numberOf_5 : decode cX11_numberOf 5 = .ok (.ifCond .eq 10, 3) := by decide +kernel
theorem dX11_numberOf_8 : decode cX11_numberOf 8 = .ok (.iload_n 2, 1) := by decide +kernel
theorem dX11_numberOf_9 : decode cX11_numberOf 9 = .ok (.invokestatic 194, 3) := by decide +kernel
theorem dX11_numberOf_12 : decode cX11_numberOf 12 = .ok (.ifCond .ne 7, 3) := by decide +kernel
theorem dX11_numberOf_15 : decode cX11_numberOf 15 = .ok (.ldc2_w 225, 3) := by decide +kernel
theorem dX11_numberOf_18 : decode cX11_numberOf 18 = .ok (.lreturn, 1) := by decide +kernel
theorem dX11_numberOf_19 : decode cX11_numberOf 19 = .ok (.aload_n 0, 1) := by decide +kernel
theorem dX11_numberOf_20 : decode cX11_numberOf 20 = .ok (.iload_n 1, 1) := by decide +kernel
theorem dX11_numberOf_21 : decode cX11_numberOf 21 = .ok (.iload_n 2, 1) := by decide +kernel
theorem dX11_numberOf_22 : decode cX11_numberOf 22 = .ok (.invokevirtual 210, 3) := by decide +kernel
theorem dX11_numberOf_25 : decode cX11_numberOf 25 = .ok (.istore_n 3, 1) := by decide +kernel
theorem dX11_numberOf_26 : decode cX11_numberOf 26 = .ok (.iload_n 3, 1) := by decide +kernel
theorem dX11_numberOf_27 : decode cX11_numberOf 27 = .ok (.iconst (-1), 1) := by decide +kernel
theorem dX11_numberOf_28 : decode cX11_numberOf 28 = .ok (.if_icmp .ne 9, 3) := by decide +kernel
theorem dX11_numberOf_31 : decode cX11_numberOf 31 = .ok (.ldc2_w 225, 3) := by decide +kernel
theorem dX11_numberOf_34 : decode cX11_numberOf 34 = .ok (.goto 19, 3) := by decide +kernel
theorem dX11_numberOf_37 : decode cX11_numberOf 37 = .ok (.aload_n 0, 1) := by decide +kernel
theorem dX11_numberOf_38 : decode cX11_numberOf 38 = .ok (.getfield 16, 3) := by decide +kernel
theorem dX11_numberOf_41 : decode cX11_numberOf 41 = .ok (.iload_n 3, 1) := by decide +kernel
theorem dX11_numberOf_42 : decode cX11_numberOf 42 = .ok (.iaload, 1) := by decide +kernel
theorem dX11_numberOf_43 : decode cX11_numberOf 43 = .ok (.i2l, 1) := by decide +kernel
theorem dX11_numberOf_44 : decode cX11_numberOf 44 = .ok (.aload_n 0, 1) := by decide +kernel
theorem dX11_numberOf_45 : decode cX11_numberOf 45 = .ok (.getfield 56, 3) := by decide +kernel
theorem dX11_numberOf_48 : decode cX11_numberOf 48 = .ok (.iload_n 1, 1) := by decide +kernel
theorem dX11_numberOf_49 : decode cX11_numberOf 49 = .ok (.laload, 1) := by decide +kernel
theorem dX11_numberOf_50 : decode cX11_numberOf 50 = .ok (.invokestatic 227, 3) := by decide +kernel
theorem dX11_numberOf_53 : decode cX11_numberOf 53 = .ok (.lreturn, 1) := by decide +kernel
theorem dX11_lineAt_0 : decode cX11_lineAt 0 = .ok (.aload_n 0, 1) := by decide +kernel
theorem dX11_lineAt_1 : decode cX11_lineAt 1 = .ok (.iload_n 1, 1) := by decide +kernel
theorem dX11_lineAt_2 : decode cX11_lineAt 2 = .ok (.invokevirtual 216, 3) := by decide +kernel
theorem dX11_lineAt_5 : decode cX11_lineAt 5 = .ok (.ifCond .eq 10, 3) := by decide +kernel
theorem dX11_lineAt_8 : decode cX11_lineAt 8 = .ok (.iload_n 2, 1) := by decide +kernel
theorem dX11_lineAt_9 : decode cX11_lineAt 9 = .ok (.invokestatic 194, 3) := by decide +kernel
theorem dX11_lineAt_12 : decode cX11_lineAt 12 = .ok (.ifCond .ne 5, 3) := by decide +kernel
theorem dX11_lineAt_15 : decode cX11_lineAt 15 = .ok (.iconst (-1), 1) := by decide +kernel
theorem dX11_lineAt_16 : decode cX11_lineAt 16 = .ok (.ireturn, 1) := by decide +kernel
theorem dX11_lineAt_17 : decode cX11_lineAt 17 = .ok (.aload_n 0, 1) := by decide +kernel
theorem dX11_lineAt_18 : decode cX11_lineAt 18 = .ok (.iload_n 1, 1) := by decide +kernel
theorem dX11_lineAt_19 : decode cX11_lineAt 19 = .ok (.iload_n 2, 1) := by decide +kernel
theorem dX11_lineAt_20 : decode cX11_lineAt 20 = .ok (.invokevirtual 210, 3) := by decide +kernel
theorem dX11_lineAt_23 : decode cX11_lineAt 23 = .ok (.istore 4, 2) := by decide +kernel
theorem dX11_lineAt_25 : decode cX11_lineAt 25 = .ok (.iload 4, 2) := by decide +kernel
theorem dX11_lineAt_27 : decode cX11_lineAt 27 = .ok (.iconst (-1), 1) := by decide +kernel
theorem dX11_lineAt_28 : decode cX11_lineAt 28 = .ok (.if_icmp .ne 5, 3) := by decide +kernel
theorem dX11_lineAt_31 : decode cX11_lineAt 31 = .ok (.iconst (-1), 1) := by decide +kernel
theorem dX11_lineAt_32 : decode cX11_lineAt 32 = .ok (.ireturn, 1) := by decide +kernel
theorem dX11_lineAt_33 : decode cX11_lineAt 33 = .ok (.iload_n 3, 1) := by decide +kernel
theorem dX11_lineAt_34 : decode cX11_lineAt 34 = .ok (.ifCond .ne 8, 3) := by decide +kernel
theorem dX11_lineAt_37 : decode cX11_lineAt 37 = .ok (.iload 4, 2) := by decide +kernel
theorem dX11_lineAt_39 : decode cX11_lineAt 39 = .ok (.goto 33, 3) := by decide +kernel
theorem dX11_lineAt_42 : decode cX11_lineAt 42 = .ok (.iload_n 3, 1) := by decide +kernel
theorem dX11_lineAt_43 : decode cX11_lineAt 43 = .ok (.iconst 1, 1) := by decide +kernel
theorem dX11_lineAt_44 : decode cX11_lineAt 44 = .ok (.if_icmp .ne 12, 3) := by decide +kernel
theorem dX11_lineAt_47 : decode cX11_lineAt 47 = .ok (.aload_n 0, 1) := by decide +kernel
theorem dX11_lineAt_48 : decode cX11_lineAt 48 = .ok (.iload_n 1, 1) := by decide +kernel
theorem dX11_lineAt_49 : decode cX11_lineAt 49 = .ok (.iload_n 2, 1) := by decide +kernel
theorem dX11_lineAt_50 : decode cX11_lineAt 50 = .ok (.invokevirtual 222, 3) := by decide +kernel
theorem dX11_lineAt_53 : decode cX11_lineAt 53 = .ok (.goto 19, 3) := by decide +kernel
theorem dX11_lineAt_56 : decode cX11_lineAt 56 = .ok (.iload_n 3, 1) := by decide +kernel
theorem dX11_lineAt_57 : decode cX11_lineAt 57 = .ok (.iconst 2, 1) := by decide +kernel
theorem dX11_lineAt_58 : decode cX11_lineAt 58 = .ok (.if_icmp .ne 13, 3) := by decide +kernel
theorem dX11_lineAt_61 : decode cX11_lineAt 61 = .ok (.aload_n 0, 1) := by decide +kernel
theorem dX11_lineAt_62 : decode cX11_lineAt 62 = .ok (.getfield 13, 3) := by decide +kernel
theorem dX11_lineAt_65 : decode cX11_lineAt 65 = .ok (.iload 4, 2) := by decide +kernel
theorem dX11_lineAt_67 : decode cX11_lineAt 67 = .ok (.iaload, 1) := by decide +kernel
theorem dX11_lineAt_68 : decode cX11_lineAt 68 = .ok (.goto 4, 3) := by decide +kernel
theorem dX11_lineAt_71 : decode cX11_lineAt 71 = .ok (.iconst (-1), 1) := by decide +kernel
theorem dX11_lineAt_72 : decode cX11_lineAt 72 = .ok (.ireturn, 1) := by decide +kernel
theorem dX11_isCall_0 : decode cX11_isCall 0 = .ok (.iload_n 1, 1) := by decide +kernel
theorem dX11_isCall_1 : decode cX11_isCall 1 = .ok (.i2l, 1) := by decide +kernel
theorem dX11_isCall_2 : decode cX11_isCall 2 = .ok (.lconst 0, 1) := by decide +kernel
theorem dX11_isCall_3 : decode cX11_isCall 3 = .ok (.ldc2_w 231, 3) := by decide +kernel
theorem dX11_isCall_6 : decode cX11_isCall 6 = .ok (.invokestatic 110, 3) := by decide +kernel
theorem dX11_isCall_9 : decode cX11_isCall 9 = .ok (.ireturn, 1) := by decide +kernel
theorem dX11_call_0 : decode cX11_call 0 = .ok (.aload_n 0, 1) := by decide +kernel
theorem dX11_call_1 : decode cX11_call 1 = .ok (.iload_n 1, 1) := by decide +kernel
theorem dX11_call_2 : decode cX11_call 2 = .ok (.invokevirtual 233, 3) := by decide +kernel
theorem dX11_call_5 : decode cX11_call 5 = .ok (.ifCond .ne 6, 3) := by decide +kernel
theorem dX11_call_8 : decode cX11_call 8 = .ok (.bipush (-2), 2) := by decide +kernel
theorem dX11_call_10 : decode cX11_call 10 = .ok (.ireturn, 1) := by decide +kernel
theorem dX11_call_11 : decode cX11_call 11 = .ok (.aload_n 0, 1) := by decide +kernel
theorem dX11_call_12 : decode cX11_call 12 = .ok (.getfield 90, 3) := by decide +kernel
theorem dX11_call_15 : decode cX11_call 15 = .ok (.iload_n 1, 1) := by decide +kernel
theorem dX11_call_16 : decode cX11_call 16 = .ok (.iconst 1, 1) := by decide +kernel
theorem dX11_call_17 : decode cX11_call 17 = .ok (.bastore, 1) := by decide +kernel
theorem dX11_call_18 : decode cX11_call 18 = .ok (.aload_n 0, 1) := by decide +kernel
theorem dX11_call_19 : decode cX11_call 19 = .ok (.getfield 74, 3) := by decide +kernel
theorem dX11_call_22 : decode cX11_call 22 = .ok (.iload_n 1, 1) := by decide +kernel
theorem dX11_call_23 : decode cX11_call 23 = .ok (.aload_n 0, 1) := by decide +kernel
theorem dX11_call_24 : decode cX11_call 24 = .ok (.getfield 114, 3) := by decide +kernel
theorem dX11_call_27 : decode cX11_call 27 = .ok (.iastore, 1) := by decide +kernel
theorem dX11_call_28 : decode cX11_call 28 = .ok (.aload_n 0, 1) := by decide +kernel
theorem dX11_call_29 : decode cX11_call 29 = .ok (.getfield 77, 3) := by decide +kernel
theorem dX11_call_32 : decode cX11_call 32 = .ok (.iload_n 1, 1) := by decide +kernel
theorem dX11_call_33 : decode cX11_call 33 = .ok (.iconst 0, 1) := by decide +kernel
theorem dX11_call_34 : decode cX11_call 34 = .ok (.iastore, 1) := by decide +kernel
theorem dX11_call_35 : decode cX11_call 35 = .ok (.aload_n 0, 1) := by decide +kernel
theorem dX11_call_36 : decode cX11_call 36 = .ok (.getfield 83, 3) := by decide +kernel
theorem dX11_call_39 : decode cX11_call 39 = .ok (.iload_n 1, 1) := by decide +kernel
theorem dX11_call_40 : decode cX11_call 40 = .ok (.iconst (-1), 1) := by decide +kernel
theorem dX11_call_41 : decode cX11_call 41 = .ok (.iastore, 1) := by decide +kernel
theorem dX11_call_42 : decode cX11_call 42 = .ok (.aload_n 0, 1) := by decide +kernel
theorem dX11_call_43 : decode cX11_call 43 = .ok (.getfield 86, 3) := by decide +kernel
theorem dX11_call_46 : decode cX11_call 46 = .ok (.iload_n 1, 1) := by decide +kernel
theorem dX11_call_47 : decode cX11_call 47 = .ok (.iconst 0, 1) := by decide +kernel
theorem dX11_call_48 : decode cX11_call 48 = .ok (.bastore, 1) := by decide +kernel
theorem dX11_call_49 : decode cX11_call 49 = .ok (.aload_n 0, 1) := by decide +kernel
theorem dX11_call_50 : decode cX11_call 50 = .ok (.getfield 114, 3) := by decide +kernel
theorem dX11_call_53 : decode cX11_call 53 = .ok (.ireturn, 1) := by decide +kernel
theorem dX11_takeCall_0 : decode cX11_takeCall 0 = .ok (.aload_n 0, 1) := by decide +kernel
theorem dX11_takeCall_1 : decode cX11_takeCall 1 = .ok (.aload_n 0, 1) := by decide +kernel
theorem dX11_takeCall_2 : decode cX11_takeCall 2 = .ok (.getfield 77, 3) := by decide +kernel
theorem dX11_takeCall_5 : decode cX11_takeCall 5 = .ok (.iload_n 1, 1) := by decide +kernel
theorem dX11_takeCall_6 : decode cX11_takeCall 6 = .ok (.iaload, 1) := by decide +kernel
theorem dX11_takeCall_7 : decode cX11_takeCall 7 = .ok (.putfield 236, 3) := by decide +kernel
theorem dX11_takeCall_10 : decode cX11_takeCall 10 = .ok (.iconst 0, 1) := by decide +kernel
theorem dX11_takeCall_11 : decode cX11_takeCall 11 = .ok (.istore_n 2, 1) := by decide +kernel
theorem dX11_takeCall_12 : decode cX11_takeCall 12 = .ok (.iload_n 2, 1) := by decide +kernel
theorem dX11_takeCall_13 : decode cX11_takeCall 13 = .ok (.aload_n 0, 1) := by decide +kernel
theorem dX11_takeCall_14 : decode cX11_takeCall 14 = .ok (.getfield 236, 3) := by decide +kernel
theorem dX11_takeCall_17 : decode cX11_takeCall 17 = .ok (.if_icmp .ge 26, 3) := by decide +kernel
theorem dX11_takeCall_20 : decode cX11_takeCall 20 = .ok (.aload_n 0, 1) := by decide +kernel
theorem dX11_takeCall_21 : decode cX11_takeCall 21 = .ok (.getfield 93, 3) := by decide +kernel
theorem dX11_takeCall_24 : decode cX11_takeCall 24 = .ok (.iload_n 2, 1) := by decide +kernel
theorem dX11_takeCall_25 : decode cX11_takeCall 25 = .ok (.aload_n 0, 1) := by decide +kernel
theorem dX11_takeCall_26 : decode cX11_takeCall 26 = .ok (.getfield 80, 3) := by decide +kernel
theorem dX11_takeCall_29 : decode cX11_takeCall 29 = .ok (.bipush 16, 2) := by decide +kernel
theorem dX11_takeCall_31 : decode cX11_takeCall 31 = .ok (.iload_n 1, 1) := by decide +kernel
theorem dX11_takeCall_32 : decode cX11_takeCall 32 = .ok (.imul, 1) := by decide +kernel
theorem dX11_takeCall_33 : decode cX11_takeCall 33 = .ok (.iload_n 2, 1) := by decide +kernel
theorem dX11_takeCall_34 : decode cX11_takeCall 34 = .ok (.iadd, 1) := by decide +kernel
theorem dX11_takeCall_35 : decode cX11_takeCall 35 = .ok (.iaload, 1) := by decide +kernel
theorem dX11_takeCall_36 : decode cX11_takeCall 36 = .ok (.iastore, 1) := by decide +kernel
theorem dX11_takeCall_37 : decode cX11_takeCall 37 = .ok (.iinc 2 1, 3) := by decide +kernel
theorem dX11_takeCall_40 : decode cX11_takeCall 40 = .ok (.goto (-28), 3) := by decide +kernel
theorem dX11_takeCall_43 : decode cX11_takeCall 43 = .ok (.return_, 1) := by decide +kernel
theorem dX11_takeNumber_0 : decode cX11_takeNumber 0 = .ok (.aload_n 0, 1) := by decide +kernel
theorem dX11_takeNumber_1 : decode cX11_takeNumber 1 = .ok (.lload_n 1, 1) := by decide +kernel
theorem dX11_takeNumber_2 : decode cX11_takeNumber 2 = .ok (.invokestatic 122, 3) := by decide +kernel
theorem dX11_takeNumber_5 : decode cX11_takeNumber 5 = .ok (.putfield 236, 3) := by decide +kernel
theorem dX11_takeNumber_8 : decode cX11_takeNumber 8 = .ok (.iconst 0, 1) := by decide +kernel
theorem dX11_takeNumber_9 : decode cX11_takeNumber 9 = .ok (.istore_n 3, 1) := by decide +kernel
theorem dX11_takeNumber_10 : decode cX11_takeNumber 10 = .ok (.iload_n 3, 1) := by decide +kernel
theorem dX11_takeNumber_11 : decode cX11_takeNumber 11 = .ok (.aload_n 0, 1) := by decide +kernel
theorem dX11_takeNumber_12 : decode cX11_takeNumber 12 = .ok (.getfield 236, 3) := by decide +kernel
theorem dX11_takeNumber_15 : decode cX11_takeNumber 15 = .ok (.if_icmp .ge 20, 3) := by decide +kernel
theorem dX11_takeNumber_18 : decode cX11_takeNumber 18 = .ok (.aload_n 0, 1) := by decide +kernel
theorem dX11_takeNumber_19 : decode cX11_takeNumber 19 = .ok (.getfield 93, 3) := by decide +kernel
theorem dX11_takeNumber_22 : decode cX11_takeNumber 22 = .ok (.iload_n 3, 1) := by decide +kernel
theorem dX11_takeNumber_23 : decode cX11_takeNumber 23 = .ok (.lload_n 1, 1) := by decide +kernel
theorem dX11_takeNumber_24 : decode cX11_takeNumber 24 = .ok (.iload_n 3, 1) := by decide +kernel
theorem dX11_takeNumber_25 : decode cX11_takeNumber 25 = .ok (.invokestatic 183, 3) := by decide +kernel
theorem dX11_takeNumber_28 : decode cX11_takeNumber 28 = .ok (.iastore, 1) := by decide +kernel
theorem dX11_takeNumber_29 : decode cX11_takeNumber 29 = .ok (.iinc 3 1, 3) := by decide +kernel
theorem dX11_takeNumber_32 : decode cX11_takeNumber 32 = .ok (.goto (-22), 3) := by decide +kernel
theorem dX11_takeNumber_35 : decode cX11_takeNumber 35 = .ok (.return_, 1) := by decide +kernel
theorem dX11_isBegun_0 : decode cX11_isBegun 0 = .ok (.iconst 0, 1) := by decide +kernel
theorem dX11_isBegun_1 : decode cX11_isBegun 1 = .ok (.istore_n 2, 1) := by decide +kernel
theorem dX11_isBegun_2 : decode cX11_isBegun 2 = .ok (.iload_n 2, 1) := by decide +kernel
theorem dX11_isBegun_3 : decode cX11_isBegun 3 = .ok (.aload_n 0, 1) := by decide +kernel
theorem dX11_isBegun_4 : decode cX11_isBegun 4 = .ok (.getfield 236, 3) := by decide +kernel
theorem dX11_isBegun_7 : decode cX11_isBegun 7 = .ok (.if_icmp .ge 29, 3) := by decide +kernel
theorem dX11_isBegun_10 : decode cX11_isBegun 10 = .ok (.aload_n 0, 1) := by decide +kernel
theorem dX11_isBegun_11 : decode cX11_isBegun 11 = .ok (.iload_n 1, 1) := by decide +kernel
theorem dX11_isBegun_12 : decode cX11_isBegun 12 = .ok (.iload_n 2, 1) := by decide +kernel
theorem dX11_isBegun_13 : decode cX11_isBegun 13 = .ok (.invokevirtual 187, 3) := by decide +kernel
theorem dX11_isBegun_16 : decode cX11_isBegun 16 = .ok (.aload_n 0, 1) := by decide +kernel
theorem dX11_isBegun_17 : decode cX11_isBegun 17 = .ok (.getfield 93, 3) := by decide +kernel
theorem dX11_isBegun_20 : decode cX11_isBegun 20 = .ok (.iload_n 2, 1) := by decide +kernel
theorem dX11_isBegun_21 : decode cX11_isBegun 21 = .ok (.iaload, 1) := by decide +kernel
theorem dX11_isBegun_22 : decode cX11_isBegun 22 = .ok (.ishr, 1) := by decide +kernel
theorem dX11_isBegun_23 : decode cX11_isBegun 23 = .ok (.iconst 1, 1) := by decide +kernel
theorem dX11_isBegun_24 : decode cX11_isBegun 24 = .ok (.iand, 1) := by decide +kernel
theorem dX11_isBegun_25 : decode cX11_isBegun 25 = .ok (.ifCond .ne 5, 3) := by decide +kernel
theorem dX11_isBegun_28 : decode cX11_isBegun 28 = .ok (.iconst 0, 1) := by decide +kernel
theorem dX11_isBegun_29 : decode cX11_isBegun 29 = .ok (.ireturn, 1) := by decide +kernel
theorem dX11_isBegun_30 : decode cX11_isBegun 30 = .ok (.iinc 2 1, 3) := by decide +kernel
theorem dX11_isBegun_33 : decode cX11_isBegun 33 = .ok (.goto (-31), 3) := by decide +kernel
theorem dX11_isBegun_36 : decode cX11_isBegun 36 = .ok (.iconst 1, 1) := by decide +kernel
theorem dX11_isBegun_37 : decode cX11_isBegun 37 = .ok (.ireturn, 1) := by decide +kernel
theorem dX11_isNumber_0 : decode cX11_isNumber 0 = .ok (.aload_n 0, 1) := by decide +kernel
theorem dX11_isNumber_1 : decode cX11_isNumber 1 = .ok (.getfield 236, 3) := by decide +kernel
theorem dX11_isNumber_4 : decode cX11_isNumber 4 = .ok (.i2l, 1) := by decide +kernel
theorem dX11_isNumber_5 : decode cX11_isNumber 5 = .ok (.aload_n 0, 1) := by decide +kernel
theorem dX11_isNumber_6 : decode cX11_isNumber 6 = .ok (.getfield 22, 3) := by decide +kernel
theorem dX11_isNumber_9 : decode cX11_isNumber 9 = .ok (.iload_n 1, 1) := by decide +kernel
theorem dX11_isNumber_10 : decode cX11_isNumber 10 = .ok (.iaload, 1) := by decide +kernel
theorem dX11_isNumber_11 : decode cX11_isNumber 11 = .ok (.i2l, 1) := by decide +kernel
theorem dX11_isNumber_12 : decode cX11_isNumber 12 = .ok (.aload_n 0, 1) := by decide +kernel
theorem dX11_isNumber_13 : decode cX11_isNumber 13 = .ok (.getfield 25, 3) := by decide +kernel
theorem dX11_isNumber_16 : decode cX11_isNumber 16 = .ok (.iload_n 1, 1) := by decide +kernel
theorem dX11_isNumber_17 : decode cX11_isNumber 17 = .ok (.iaload, 1) := by decide +kernel
theorem dX11_isNumber_18 : decode cX11_isNumber 18 = .ok (.i2l, 1) := by decide +kernel
theorem dX11_isNumber_19 : decode cX11_isNumber 19 = .ok (.invokestatic 110, 3) := by decide +kernel
theorem dX11_isNumber_22 : decode cX11_isNumber 22 = .ok (.ifCond .eq 15, 3) := by decide +kernel
theorem dX11_isNumber_25 : decode cX11_isNumber 25 = .ok (.aload_n 0, 1) := by decide +kernel
theorem dX11_isNumber_26 : decode cX11_isNumber 26 = .ok (.iload_n 1, 1) := by decide +kernel
theorem dX11_isNumber_27 : decode cX11_isNumber 27 = .ok (.invokevirtual 239, 3) := by decide +kernel
theorem dX11_isNumber_30 : decode cX11_isNumber 30 = .ok (.ifCond .eq 7, 3) := by decide +kernel
theorem dX11_isNumber_33 : decode cX11_isNumber 33 = .ok (.iconst 1, 1) := by decide +kernel
theorem dX11_isNumber_34 : decode cX11_isNumber 34 = .ok (.goto 4, 3) := by decide +kernel
theorem dX11_isNumber_37 : decode cX11_isNumber 37 = .ok (.iconst 0, 1) := by decide +kernel
theorem dX11_isNumber_38 : decode cX11_isNumber 38 = .ok (.ireturn, 1) := by decide +kernel
theorem dX11_goesOn_0 : decode cX11_goesOn 0 = .ok (.aload_n 0, 1) := by decide +kernel
theorem dX11_goesOn_1 : decode cX11_goesOn 1 = .ok (.getfield 25, 3) := by decide +kernel
theorem dX11_goesOn_4 : decode cX11_goesOn 4 = .ok (.iload_n 1, 1) := by decide +kernel
theorem dX11_goesOn_5 : decode cX11_goesOn 5 = .ok (.iaload, 1) := by decide +kernel
theorem dX11_goesOn_6 : decode cX11_goesOn 6 = .ok (.aload_n 0, 1) := by decide +kernel
theorem dX11_goesOn_7 : decode cX11_goesOn 7 = .ok (.getfield 236, 3) := by decide +kernel
theorem dX11_goesOn_10 : decode cX11_goesOn 10 = .ok (.if_icmp .le 15, 3) := by decide +kernel
theorem dX11_goesOn_13 : decode cX11_goesOn 13 = .ok (.aload_n 0, 1) := by decide +kernel
theorem dX11_goesOn_14 : decode cX11_goesOn 14 = .ok (.iload_n 1, 1) := by decide +kernel
theorem dX11_goesOn_15 : decode cX11_goesOn 15 = .ok (.invokevirtual 239, 3) := by decide +kernel
theorem dX11_goesOn_18 : decode cX11_goesOn 18 = .ok (.ifCond .eq 7, 3) := by decide +kernel
theorem dX11_goesOn_21 : decode cX11_goesOn 21 = .ok (.iconst 1, 1) := by decide +kernel
theorem dX11_goesOn_22 : decode cX11_goesOn 22 = .ok (.goto 4, 3) := by decide +kernel
theorem dX11_goesOn_25 : decode cX11_goesOn 25 = .ok (.iconst 0, 1) := by decide +kernel
theorem dX11_goesOn_26 : decode cX11_goesOn 26 = .ok (.ireturn, 1) := by decide +kernel
theorem dX11_answer_0 : decode cX11_answer 0 = .ok (.iconst 0, 1) := by decide +kernel
theorem dX11_answer_1 : decode cX11_answer 1 = .ok (.istore_n 2, 1) := by decide +kernel
theorem dX11_answer_2 : decode cX11_answer 2 = .ok (.iconst 0, 1) := by decide +kernel
theorem dX11_answer_3 : decode cX11_answer 3 = .ok (.istore_n 3, 1) := by decide +kernel
theorem dX11_answer_4 : decode cX11_answer 4 = .ok (.iconst 0, 1) := by decide +kernel
theorem dX11_answer_5 : decode cX11_answer 5 = .ok (.istore 4, 2) := by decide +kernel
theorem dX11_answer_7 : decode cX11_answer 7 = .ok (.iload 4, 2) := by decide +kernel
theorem dX11_answer_9 : decode cX11_answer 9 = .ok (.aload_n 0, 1) := by decide +kernel
theorem dX11_answer_10 : decode cX11_answer 10 = .ok (.getfield 130, 3) := by decide +kernel
theorem dX11_answer_13 : decode cX11_answer 13 = .ok (.if_icmp .ge 60, 3) := by decide +kernel
theorem dX11_answer_16 : decode cX11_answer 16 = .ok (.aload_n 0, 1) := by decide +kernel
theorem dX11_answer_17 : decode cX11_answer 17 = .ok (.iload 4, 2) := by decide +kernel
theorem dX11_answer_19 : decode cX11_answer 19 = .ok (.iload_n 1, 1) := by decide +kernel
theorem dX11_answer_20 : decode cX11_answer 20 = .ok (.invokevirtual 197, 3) := by decide +kernel
theorem dX11_answer_23 : decode cX11_answer 23 = .ok (.ifCond .ne 6, 3) := by decide +kernel
theorem dX11_answer_26 : decode cX11_answer 26 = .ok (.goto 41, 3) := by decide +kernel
theorem dX11_answer_29 : decode cX11_answer 29 = .ok (.iload_n 2, 1) := by decide +kernel
theorem dX11_answer_30 : decode cX11_answer 30 = .ok (.ifCond .ne 12, 3) := by decide +kernel
theorem dX11_answer_33 : decode cX11_answer 33 = .ok (.aload_n 0, 1) := by decide +kernel
theorem dX11_answer_34 : decode cX11_answer 34 = .ok (.iload 4, 2) := by decide +kernel
theorem dX11_answer_36 : decode cX11_answer 36 = .ok (.invokevirtual 242, 3) := by decide +kernel
theorem dX11_answer_39 : decode cX11_answer 39 = .ok (.ifCond .eq 7, 3) := by decide +kernel
theorem dX11_answer_42 : decode cX11_answer 42 = .ok (.iconst 1, 1) := by decide +kernel
theorem dX11_answer_43 : decode cX11_answer 43 = .ok (.goto 4, 3) := by decide +kernel
theorem dX11_answer_46 : decode cX11_answer 46 = .ok (.iconst 0, 1) := by decide +kernel
theorem dX11_answer_47 : decode cX11_answer 47 = .ok (.istore_n 2, 1) := by decide +kernel
theorem dX11_answer_48 : decode cX11_answer 48 = .ok (.iload_n 3, 1) := by decide +kernel
theorem dX11_answer_49 : decode cX11_answer 49 = .ok (.ifCond .ne 12, 3) := by decide +kernel
theorem dX11_answer_52 : decode cX11_answer 52 = .ok (.aload_n 0, 1) := by decide +kernel
theorem dX11_answer_53 : decode cX11_answer 53 = .ok (.iload 4, 2) := by decide +kernel
theorem dX11_answer_55 : decode cX11_answer 55 = .ok (.invokevirtual 245, 3) := by decide +kernel
theorem dX11_answer_58 : decode cX11_answer 58 = .ok (.ifCond .eq 7, 3) := by decide +kernel
theorem dX11_answer_61 : decode cX11_answer 61 = .ok (.iconst 1, 1) := by decide +kernel
theorem dX11_answer_62 : decode cX11_answer 62 = .ok (.goto 4, 3) := by decide +kernel
theorem dX11_answer_65 : decode cX11_answer 65 = .ok (.iconst 0, 1) := by decide +kernel
theorem dX11_answer_66 : decode cX11_answer 66 = .ok (.istore_n 3, 1) := by decide +kernel
theorem dX11_answer_67 : decode cX11_answer 67 = .ok (.iinc 4 1, 3) := by decide +kernel
theorem dX11_answer_70 : decode cX11_answer 70 = .ok (.goto (-63), 3) := by decide +kernel
theorem dX11_answer_73 : decode cX11_answer 73 = .ok (.iload_n 2, 1) := by decide +kernel
theorem dX11_answer_74 : decode cX11_answer 74 = .ok (.ifCond .eq 15, 3) := by decide +kernel
theorem dX11_answer_77 : decode cX11_answer 77 = .ok (.iload_n 3, 1) := by decide +kernel
theorem dX11_answer_78 : decode cX11_answer 78 = .ok (.ifCond .eq 7, 3) := by decide +kernel
theorem dX11_answer_81 : decode cX11_answer 81 = .ok (.iconst 2, 1) := by decide +kernel
theorem dX11_answer_82 : decode cX11_answer 82 = .ok (.goto 16, 3) := by decide +kernel
theorem dX11_answer_85 : decode cX11_answer 85 = .ok (.iconst 1, 1) := by decide +kernel
theorem dX11_answer_86 : decode cX11_answer 86 = .ok (.goto 12, 3) := by decide +kernel
theorem dX11_answer_89 : decode cX11_answer 89 = .ok (.iload_n 3, 1) := by decide +kernel
theorem dX11_answer_90 : decode cX11_answer 90 = .ok (.ifCond .eq 7, 3) := by decide +kernel
theorem dX11_answer_93 : decode cX11_answer 93 = .ok (.iconst 0, 1) := by decide +kernel
theorem dX11_answer_94 : decode cX11_answer 94 = .ok (.goto 4, 3) := by decide +kernel
theorem dX11_answer_97 : decode cX11_answer 97 = .ok (.iconst 3, 1) := by decide +kernel
theorem dX11_answer_98 : decode cX11_answer 98 = .ok (.ireturn, 1) := by decide +kernel
theorem dX11_figure_0 : decode cX11_figure 0 = .ok (.aload_n 0, 1) := by decide +kernel
theorem dX11_figure_1 : decode cX11_figure 1 = .ok (.iload_n 1, 1) := by decide +kernel
theorem dX11_figure_2 : decode cX11_figure 2 = .ok (.invokevirtual 233, 3) := by decide +kernel
theorem dX11_figure_5 : decode cX11_figure 5 = .ok (.ifCond .eq 15, 3) := by decide +kernel
theorem dX11_figure_8 : decode cX11_figure 8 = .ok (.iload_n 2, 1) := by decide +kernel
theorem dX11_figure_9 : decode cX11_figure 9 = .ok (.i2l, 1) := by decide +kernel
theorem dX11_figure_10 : decode cX11_figure 10 = .ok (.lconst 0, 1) := by decide +kernel
theorem dX11_figure_11 : decode cX11_figure 11 = .ok (.ldc2_w 118, 3) := by decide +kernel
theorem dX11_figure_14 : decode cX11_figure 14 = .ok (.invokestatic 110, 3) := by decide +kernel
theorem dX11_figure_17 : decode cX11_figure 17 = .ok (.ifCond .ne 6, 3) := by decide +kernel
theorem dX11_figure_20 : decode cX11_figure 20 = .ok (.bipush (-2), 2) := by decide +kernel
theorem dX11_figure_22 : decode cX11_figure 22 = .ok (.ireturn, 1) := by decide +kernel
theorem dX11_figure_23 : decode cX11_figure 23 = .ok (.aload_n 0, 1) := by decide +kernel
theorem dX11_figure_24 : decode cX11_figure 24 = .ok (.getfield 90, 3) := by decide +kernel
theorem dX11_figure_27 : decode cX11_figure 27 = .ok (.iload_n 1, 1) := by decide +kernel
theorem dX11_figure_28 : decode cX11_figure 28 = .ok (.baload, 1) := by decide +kernel
theorem dX11_figure_29 : decode cX11_figure 29 = .ok (.ifCond .eq 12, 3) := by decide +kernel
theorem dX11_figure_32 : decode cX11_figure 32 = .ok (.aload_n 0, 1) := by decide +kernel
theorem dX11_figure_33 : decode cX11_figure 33 = .ok (.getfield 86, 3) := by decide +kernel
theorem dX11_figure_36 : decode cX11_figure 36 = .ok (.iload_n 1, 1) := by decide +kernel
theorem dX11_figure_37 : decode cX11_figure 37 = .ok (.baload, 1) := by decide +kernel
theorem dX11_figure_38 : decode cX11_figure 38 = .ok (.ifCond .eq 5, 3) := by decide +kernel
theorem dX11_figure_41 : decode cX11_figure 41 = .ok (.iconst (-1), 1) := by decide +kernel
theorem dX11_figure_42 : decode cX11_figure 42 = .ok (.ireturn, 1) := by decide +kernel
theorem dX11_figure_43 : decode cX11_figure 43 = .ok (.aload_n 0, 1) := by decide +kernel
theorem dX11_figure_44 : decode cX11_figure 44 = .ok (.getfield 80, 3) := by decide +kernel
theorem dX11_figure_47 : decode cX11_figure 47 = .ok (.bipush 16, 2) := by decide +kernel
theorem dX11_figure_49 : decode cX11_figure 49 = .ok (.iload_n 1, 1) := by decide +kernel
theorem dX11_figure_50 : decode cX11_figure 50 = .ok (.imul, 1) := by decide +kernel
theorem dX11_figure_51 : decode cX11_figure 51 = .ok (.aload_n 0, 1) := by decide +kernel
theorem dX11_figure_52 : decode cX11_figure 52 = .ok (.getfield 77, 3) := by decide +kernel
theorem dX11_figure_55 : decode cX11_figure 55 = .ok (.iload_n 1, 1) := by decide +kernel
theorem dX11_figure_56 : decode cX11_figure 56 = .ok (.iaload, 1) := by decide +kernel
theorem dX11_figure_57 : decode cX11_figure 57 = .ok (.iadd, 1) := by decide +kernel
theorem dX11_figure_58 : decode cX11_figure 58 = .ok (.iload_n 2, 1) := by decide +kernel
theorem dX11_figure_59 : decode cX11_figure 59 = .ok (.iastore, 1) := by decide +kernel
theorem dX11_figure_60 : decode cX11_figure 60 = .ok (.aload_n 0, 1) := by decide +kernel
theorem dX11_figure_61 : decode cX11_figure 61 = .ok (.getfield 77, 3) := by decide +kernel
theorem dX11_figure_64 : decode cX11_figure 64 = .ok (.iload_n 1, 1) := by decide +kernel
theorem dX11_figure_65 : decode cX11_figure 65 = .ok (.dup2, 1) := by decide +kernel
theorem dX11_figure_66 : decode cX11_figure 66 = .ok (.iaload, 1) := by decide +kernel
theorem dX11_figure_67 : decode cX11_figure 67 = .ok (.iconst 1, 1) := by decide +kernel
theorem dX11_figure_68 : decode cX11_figure 68 = .ok (.iadd, 1) := by decide +kernel
theorem dX11_figure_69 : decode cX11_figure 69 = .ok (.iastore, 1) := by decide +kernel
theorem dX11_figure_70 : decode cX11_figure 70 = .ok (.aload_n 0, 1) := by decide +kernel
theorem dX11_figure_71 : decode cX11_figure 71 = .ok (.iload_n 1, 1) := by decide +kernel
theorem dX11_figure_72 : decode cX11_figure 72 = .ok (.invokevirtual 248, 3) := by decide +kernel
theorem dX11_figure_75 : decode cX11_figure 75 = .ok (.aload_n 0, 1) := by decide +kernel
theorem dX11_figure_76 : decode cX11_figure 76 = .ok (.getfield 83, 3) := by decide +kernel
theorem dX11_figure_79 : decode cX11_figure 79 = .ok (.iload_n 1, 1) := by decide +kernel
theorem dX11_figure_80 : decode cX11_figure 80 = .ok (.aload_n 0, 1) := by decide +kernel
theorem dX11_figure_81 : decode cX11_figure 81 = .ok (.aload_n 0, 1) := by decide +kernel
theorem dX11_figure_82 : decode cX11_figure 82 = .ok (.getfield 74, 3) := by decide +kernel
theorem dX11_figure_85 : decode cX11_figure 85 = .ok (.iload_n 1, 1) := by decide +kernel
theorem dX11_figure_86 : decode cX11_figure 86 = .ok (.iaload, 1) := by decide +kernel
theorem dX11_figure_87 : decode cX11_figure 87 = .ok (.invokevirtual 252, 3) := by decide +kernel
theorem dX11_figure_90 : decode cX11_figure 90 = .ok (.iastore, 1) := by decide +kernel
theorem dX11_figure_91 : decode cX11_figure 91 = .ok (.aload_n 0, 1) := by decide +kernel
theorem dX11_figure_92 : decode cX11_figure 92 = .ok (.getfield 86, 3) := by decide +kernel
theorem dX11_figure_95 : decode cX11_figure 95 = .ok (.iload_n 1, 1) := by decide +kernel
theorem dX11_figure_96 : decode cX11_figure 96 = .ok (.aload_n 0, 1) := by decide +kernel
theorem dX11_figure_97 : decode cX11_figure 97 = .ok (.getfield 83, 3) := by decide +kernel
theorem dX11_figure_100 : decode cX11_figure 100 = .ok (.iload_n 1, 1) := by decide +kernel
theorem dX11_figure_101 : decode cX11_figure 101 = .ok (.iaload, 1) := by decide +kernel
theorem dX11_figure_102 : decode cX11_figure 102 = .ok (.iconst 1, 1) := by decide +kernel
theorem dX11_figure_103 : decode cX11_figure 103 = .ok (.iand, 1) := by decide +kernel
theorem dX11_figure_104 : decode cX11_figure 104 = .ok (.iconst 1, 1) := by decide +kernel
theorem dX11_figure_105 : decode cX11_figure 105 = .ok (.if_icmp .ne 7, 3) := by decide +kernel
theorem dX11_figure_108 : decode cX11_figure 108 = .ok (.iconst 1, 1) := by decide +kernel
theorem dX11_figure_109 : decode cX11_figure 109 = .ok (.goto 4, 3) := by decide +kernel
theorem dX11_figure_112 : decode cX11_figure 112 = .ok (.iconst 0, 1) := by decide +kernel
theorem dX11_figure_113 : decode cX11_figure 113 = .ok (.bastore, 1) := by decide +kernel
theorem dX11_figure_114 : decode cX11_figure 114 = .ok (.aload_n 0, 1) := by decide +kernel
theorem dX11_figure_115 : decode cX11_figure 115 = .ok (.getfield 83, 3) := by decide +kernel
theorem dX11_figure_118 : decode cX11_figure 118 = .ok (.iload_n 1, 1) := by decide +kernel
theorem dX11_figure_119 : decode cX11_figure 119 = .ok (.iaload, 1) := by decide +kernel
theorem dX11_figure_120 : decode cX11_figure 120 = .ok (.ireturn, 1) := by decide +kernel
theorem dX11_waits_0 : decode cX11_waits 0 = .ok (.aload_n 0, 1) := by decide +kernel
theorem dX11_waits_1 : decode cX11_waits 1 = .ok (.iload_n 1, 1) := by decide +kernel
theorem dX11_waits_2 : decode cX11_waits 2 = .ok (.invokevirtual 233, 3) := by decide +kernel
theorem dX11_waits_5 : decode cX11_waits 5 = .ok (.ifCond .ne 6, 3) := by decide +kernel
theorem dX11_waits_8 : decode cX11_waits 8 = .ok (.bipush (-2), 2) := by decide +kernel
theorem dX11_waits_10 : decode cX11_waits 10 = .ok (.ireturn, 1) := by decide +kernel
theorem dX11_waits_11 : decode cX11_waits 11 = .ok (.aload_n 0, 1) := by decide +kernel
theorem dX11_waits_12 : decode cX11_waits 12 = .ok (.getfield 90, 3) := by decide +kernel
theorem dX11_waits_15 : decode cX11_waits 15 = .ok (.iload_n 1, 1) := by decide +kernel
theorem dX11_waits_16 : decode cX11_waits 16 = .ok (.baload, 1) := by decide +kernel
theorem dX11_waits_17 : decode cX11_waits 17 = .ok (.ifCond .eq 12, 3) := by decide +kernel
theorem dX11_waits_20 : decode cX11_waits 20 = .ok (.aload_n 0, 1) := by decide +kernel
theorem dX11_waits_21 : decode cX11_waits 21 = .ok (.getfield 86, 3) := by decide +kernel
theorem dX11_waits_24 : decode cX11_waits 24 = .ok (.iload_n 1, 1) := by decide +kernel
theorem dX11_waits_25 : decode cX11_waits 25 = .ok (.baload, 1) := by decide +kernel
theorem dX11_waits_26 : decode cX11_waits 26 = .ok (.ifCond .eq 5, 3) := by decide +kernel
theorem dX11_waits_29 : decode cX11_waits 29 = .ok (.iconst (-1), 1) := by decide +kernel
theorem dX11_waits_30 : decode cX11_waits 30 = .ok (.ireturn, 1) := by decide +kernel
theorem dX11_waits_31 : decode cX11_waits 31 = .ok (.aload_n 0, 1) := by decide +kernel
theorem dX11_waits_32 : decode cX11_waits 32 = .ok (.getfield 83, 3) := by decide +kernel
theorem dX11_waits_35 : decode cX11_waits 35 = .ok (.iload_n 1, 1) := by decide +kernel
theorem dX11_waits_36 : decode cX11_waits 36 = .ok (.iaload, 1) := by decide +kernel
theorem dX11_waits_37 : decode cX11_waits 37 = .ok (.iconst 2, 1) := by decide +kernel
theorem dX11_waits_38 : decode cX11_waits 38 = .ok (.if_icmp .eq 5, 3) := by decide +kernel
theorem dX11_waits_41 : decode cX11_waits 41 = .ok (.iconst 0, 1) := by decide +kernel
theorem dX11_waits_42 : decode cX11_waits 42 = .ok (.ireturn, 1) := by decide +kernel
theorem dX11_waits_43 : decode cX11_waits 43 = .ok (.aload_n 0, 1) := by decide +kernel
theorem dX11_waits_44 : decode cX11_waits 44 = .ok (.getfield 86, 3) := by decide +kernel
theorem dX11_waits_47 : decode cX11_waits 47 = .ok (.iload_n 1, 1) := by decide +kernel
theorem dX11_waits_48 : decode cX11_waits 48 = .ok (.iconst 1, 1) := by decide +kernel
theorem dX11_waits_49 : decode cX11_waits 49 = .ok (.bastore, 1) := by decide +kernel
theorem dX11_waits_50 : decode cX11_waits 50 = .ok (.iconst 1, 1) := by decide +kernel
theorem dX11_waits_51 : decode cX11_waits 51 = .ok (.ireturn, 1) := by decide +kernel
theorem dX11_leadsTo_0 : decode cX11_leadsTo 0 = .ok (.iconst (-1), 1) := by decide +kernel
theorem dX11_leadsTo_1 : decode cX11_leadsTo 1 = .ok (.istore_n 2, 1) := by decide +kernel
theorem dX11_leadsTo_2 : decode cX11_leadsTo 2 = .ok (.iconst 0, 1) := by decide +kernel
theorem dX11_leadsTo_3 : decode cX11_leadsTo 3 = .ok (.istore_n 3, 1) := by decide +kernel
theorem dX11_leadsTo_4 : decode cX11_leadsTo 4 = .ok (.iload_n 3, 1) := by decide +kernel
theorem dX11_leadsTo_5 : decode cX11_leadsTo 5 = .ok (.aload_n 0, 1) := by decide +kernel
theorem dX11_leadsTo_6 : decode cX11_leadsTo 6 = .ok (.getfield 130, 3) := by decide +kernel
theorem dX11_leadsTo_9 : decode cX11_leadsTo 9 = .ok (.if_icmp .ge 49, 3) := by decide +kernel
theorem dX11_leadsTo_12 : decode cX11_leadsTo 12 = .ok (.aload_n 0, 1) := by decide +kernel
theorem dX11_leadsTo_13 : decode cX11_leadsTo 13 = .ok (.iload_n 3, 1) := by decide +kernel
theorem dX11_leadsTo_14 : decode cX11_leadsTo 14 = .ok (.iload_n 1, 1) := by decide +kernel
theorem dX11_leadsTo_15 : decode cX11_leadsTo 15 = .ok (.invokevirtual 197, 3) := by decide +kernel
theorem dX11_leadsTo_18 : decode cX11_leadsTo 18 = .ok (.ifCond .eq 34, 3) := by decide +kernel
theorem dX11_leadsTo_21 : decode cX11_leadsTo 21 = .ok (.aload_n 0, 1) := by decide +kernel
theorem dX11_leadsTo_22 : decode cX11_leadsTo 22 = .ok (.iload_n 3, 1) := by decide +kernel
theorem dX11_leadsTo_23 : decode cX11_leadsTo 23 = .ok (.invokevirtual 242, 3) := by decide +kernel
theorem dX11_leadsTo_26 : decode cX11_leadsTo 26 = .ok (.ifCond .ne 6, 3) := by decide +kernel
theorem dX11_leadsTo_29 : decode cX11_leadsTo 29 = .ok (.goto 23, 3) := by decide +kernel
theorem dX11_leadsTo_32 : decode cX11_leadsTo 32 = .ok (.iload_n 2, 1) := by decide +kernel
theorem dX11_leadsTo_33 : decode cX11_leadsTo 33 = .ok (.iconst (-1), 1) := by decide +kernel
theorem dX11_leadsTo_34 : decode cX11_leadsTo 34 = .ok (.if_icmp .eq 16, 3) := by decide +kernel
theorem dX11_leadsTo_37 : decode cX11_leadsTo 37 = .ok (.aload_n 0, 1) := by decide +kernel
theorem dX11_leadsTo_38 : decode cX11_leadsTo 38 = .ok (.iload_n 3, 1) := by decide +kernel
theorem dX11_leadsTo_39 : decode cX11_leadsTo 39 = .ok (.invokevirtual 255, 3) := by decide +kernel
theorem dX11_leadsTo_42 : decode cX11_leadsTo 42 = .ok (.aload_n 0, 1) := by decide +kernel
theorem dX11_leadsTo_43 : decode cX11_leadsTo 43 = .ok (.iload_n 2, 1) := by decide +kernel
theorem dX11_leadsTo_44 : decode cX11_leadsTo 44 = .ok (.invokevirtual 255, 3) := by decide +kernel
theorem dX11_leadsTo_47 : decode cX11_leadsTo 47 = .ok (.if_icmp .ge 5, 3) := by decide +kernel
theorem dX11_leadsTo_50 : decode cX11_leadsTo 50 = .ok (.iload_n 3, 1) := by decide +kernel
theorem dX11_leadsTo_51 : decode cX11_leadsTo 51 = .ok (.istore_n 2, 1) := by decide +kernel
theorem dX11_leadsTo_52 : decode cX11_leadsTo 52 = .ok (.iinc 3 1, 3) := by decide +kernel
theorem dX11_leadsTo_55 : decode cX11_leadsTo 55 = .ok (.goto (-51), 3) := by decide +kernel
theorem dX11_leadsTo_58 : decode cX11_leadsTo 58 = .ok (.iload_n 2, 1) := by decide +kernel
theorem dX11_leadsTo_59 : decode cX11_leadsTo 59 = .ok (.ireturn, 1) := by decide +kernel
theorem dX11_rank_0 : decode cX11_rank 0 = .ok (.aload_n 0, 1) := by decide +kernel
theorem dX11_rank_1 : decode cX11_rank 1 = .ok (.getfield 7, 3) := by decide +kernel
theorem dX11_rank_4 : decode cX11_rank 4 = .ok (.iload_n 1, 1) := by decide +kernel
theorem dX11_rank_5 : decode cX11_rank 5 = .ok (.iaload, 1) := by decide +kernel
theorem dX11_rank_6 : decode cX11_rank 6 = .ok (.iconst 1, 1) := by decide +kernel
theorem dX11_rank_7 : decode cX11_rank 7 = .ok (.if_icmp .ne 7, 3) := by decide +kernel
theorem dX11_rank_10 : decode cX11_rank 10 = .ok (.iconst 0, 1) := by decide +kernel
theorem dX11_rank_11 : decode cX11_rank 11 = .ok (.goto 31, 3) := by decide +kernel
theorem dX11_rank_14 : decode cX11_rank 14 = .ok (.aload_n 0, 1) := by decide +kernel
theorem dX11_rank_15 : decode cX11_rank 15 = .ok (.getfield 7, 3) := by decide +kernel
theorem dX11_rank_18 : decode cX11_rank 18 = .ok (.iload_n 1, 1) := by decide +kernel
theorem dX11_rank_19 : decode cX11_rank 19 = .ok (.iaload, 1) := by decide +kernel
theorem dX11_rank_20 : decode cX11_rank 20 = .ok (.ifCond .ne 7, 3) := by decide +kernel
theorem dX11_rank_23 : decode cX11_rank 23 = .ok (.iconst 1, 1) := by decide +kernel
theorem dX11_rank_24 : decode cX11_rank 24 = .ok (.goto 18, 3) := by decide +kernel
theorem dX11_rank_27 : decode cX11_rank 27 = .ok (.aload_n 0, 1) := by decide +kernel
theorem dX11_rank_28 : decode cX11_rank 28 = .ok (.getfield 7, 3) := by decide +kernel
theorem dX11_rank_31 : decode cX11_rank 31 = .ok (.iload_n 1, 1) := by decide +kernel
theorem dX11_rank_32 : decode cX11_rank 32 = .ok (.iaload, 1) := by decide +kernel
theorem dX11_rank_33 : decode cX11_rank 33 = .ok (.iconst 3, 1) := by decide +kernel
theorem dX11_rank_34 : decode cX11_rank 34 = .ok (.if_icmp .ne 7, 3) := by decide +kernel
theorem dX11_rank_37 : decode cX11_rank 37 = .ok (.iconst 2, 1) := by decide +kernel
theorem dX11_rank_38 : decode cX11_rank 38 = .ok (.goto 4, 3) := by decide +kernel
theorem dX11_rank_41 : decode cX11_rank 41 = .ok (.iconst 3, 1) := by decide +kernel
theorem dX11_rank_42 : decode cX11_rank 42 = .ok (.ireturn, 1) := by decide +kernel
theorem dX11_lineOf_0 : decode cX11_lineOf 0 = .ok (.iload_n 1, 1) := by decide +kernel
theorem dX11_lineOf_1 : decode cX11_lineOf 1 = .ok (.iconst (-1), 1) := by decide +kernel
theorem dX11_lineOf_2 : decode cX11_lineOf 2 = .ok (.if_icmp .eq 23, 3) := by decide +kernel
theorem dX11_lineOf_5 : decode cX11_lineOf 5 = .ok (.aload_n 0, 1) := by decide +kernel
theorem dX11_lineOf_6 : decode cX11_lineOf 6 = .ok (.getfield 7, 3) := by decide +kernel
theorem dX11_lineOf_9 : decode cX11_lineOf 9 = .ok (.iload_n 1, 1) := by decide +kernel
theorem dX11_lineOf_10 : decode cX11_lineOf 10 = .ok (.iaload, 1) := by decide +kernel
theorem dX11_lineOf_11 : decode cX11_lineOf 11 = .ok (.iconst 1, 1) := by decide +kernel
theorem dX11_lineOf_12 : decode cX11_lineOf 12 = .ok (.if_icmp .eq 13, 3) := by decide +kernel
theorem dX11_lineOf_15 : decode cX11_lineOf 15 = .ok (.aload_n 0, 1) := by decide +kernel
theorem dX11_lineOf_16 : decode cX11_lineOf 16 = .ok (.getfield 7, 3) := by decide +kernel
theorem dX11_lineOf_19 : decode cX11_lineOf 19 = .ok (.iload_n 1, 1) := by decide +kernel
theorem dX11_lineOf_20 : decode cX11_lineOf 20 = .ok (.iaload, 1) := by decide +kernel
theorem dX11_lineOf_21 : decode cX11_lineOf 21 = .ok (.iconst 2, 1) := by decide +kernel
theorem dX11_lineOf_22 : decode cX11_lineOf 22 = .ok (.if_icmp .ne 5, 3) := by decide +kernel
theorem dX11_lineOf_25 : decode cX11_lineOf 25 = .ok (.iconst (-1), 1) := by decide +kernel
theorem dX11_lineOf_26 : decode cX11_lineOf 26 = .ok (.ireturn, 1) := by decide +kernel
theorem dX11_lineOf_27 : decode cX11_lineOf 27 = .ok (.lconst 1, 1) := by decide +kernel
theorem dX11_lineOf_28 : decode cX11_lineOf 28 = .ok (.lstore_n 3, 1) := by decide +kernel
theorem dX11_lineOf_29 : decode cX11_lineOf 29 = .ok (.aload_n 0, 1) := by decide +kernel
theorem dX11_lineOf_30 : decode cX11_lineOf 30 = .ok (.getfield 16, 3) := by decide +kernel
theorem dX11_lineOf_33 : decode cX11_lineOf 33 = .ok (.iload_n 1, 1) := by decide +kernel
theorem dX11_lineOf_34 : decode cX11_lineOf 34 = .ok (.iaload, 1) := by decide +kernel
theorem dX11_lineOf_35 : decode cX11_lineOf 35 = .ok (.invokestatic 139, 3) := by decide +kernel
theorem dX11_lineOf_38 : decode cX11_lineOf 38 = .ok (.istore 5, 2) := by decide +kernel
theorem dX11_lineOf_40 : decode cX11_lineOf 40 = .ok (.iload 5, 2) := by decide +kernel
theorem dX11_lineOf_42 : decode cX11_lineOf 42 = .ok (.aload_n 0, 1) := by decide +kernel
theorem dX11_lineOf_43 : decode cX11_lineOf 43 = .ok (.getfield 236, 3) := by decide +kernel
theorem dX11_lineOf_46 : decode cX11_lineOf 46 = .ok (.if_icmp .ge 24, 3) := by decide +kernel
theorem dX11_lineOf_49 : decode cX11_lineOf 49 = .ok (.ldc2_w 120, 3) := by decide +kernel
theorem dX11_lineOf_52 : decode cX11_lineOf 52 = .ok (.lload_n 3, 1) := by decide +kernel
theorem dX11_lineOf_53 : decode cX11_lineOf 53 = .ok (.lmul, 1) := by decide +kernel
theorem dX11_lineOf_54 : decode cX11_lineOf 54 = .ok (.aload_n 0, 1) := by decide +kernel
theorem dX11_lineOf_55 : decode cX11_lineOf 55 = .ok (.getfield 93, 3) := by decide +kernel
theorem dX11_lineOf_58 : decode cX11_lineOf 58 = .ok (.iload 5, 2) := by decide +kernel
theorem dX11_lineOf_60 : decode cX11_lineOf 60 = .ok (.iaload, 1) := by decide +kernel
theorem dX11_lineOf_61 : decode cX11_lineOf 61 = .ok (.i2l, 1) := by decide +kernel
theorem dX11_lineOf_62 : decode cX11_lineOf 62 = .ok (.ladd, 1) := by decide +kernel
theorem dX11_lineOf_63 : decode cX11_lineOf 63 = .ok (.lstore_n 3, 1) := by decide +kernel
theorem dX11_lineOf_64 : decode cX11_lineOf 64 = .ok (.iinc 5 1, 3) := by decide +kernel
theorem dX11_lineOf_67 : decode cX11_lineOf 67 = .ok (.goto (-27), 3) := by decide +kernel
theorem dX11_lineOf_70 : decode cX11_lineOf 70 = .ok (.aload_n 0, 1) := by decide +kernel
theorem dX11_lineOf_71 : decode cX11_lineOf 71 = .ok (.getfield 7, 3) := by decide +kernel
theorem dX11_lineOf_74 : decode cX11_lineOf 74 = .ok (.iload_n 1, 1) := by decide +kernel
theorem dX11_lineOf_75 : decode cX11_lineOf 75 = .ok (.iaload, 1) := by decide +kernel
theorem dX11_lineOf_76 : decode cX11_lineOf 76 = .ok (.ifCond .ne 7, 3) := by decide +kernel
theorem dX11_lineOf_79 : decode cX11_lineOf 79 = .ok (.iload_n 1, 1) := by decide +kernel
theorem dX11_lineOf_80 : decode cX11_lineOf 80 = .ok (.goto 15, 3) := by decide +kernel
theorem dX11_lineOf_83 : decode cX11_lineOf 83 = .ok (.aload_n 0, 1) := by decide +kernel
theorem dX11_lineOf_84 : decode cX11_lineOf 84 = .ok (.aload_n 0, 1) := by decide +kernel
theorem dX11_lineOf_85 : decode cX11_lineOf 85 = .ok (.getfield 13, 3) := by decide +kernel
theorem dX11_lineOf_88 : decode cX11_lineOf 88 = .ok (.iload_n 1, 1) := by decide +kernel
theorem dX11_lineOf_89 : decode cX11_lineOf 89 = .ok (.iaload, 1) := by decide +kernel
theorem dX11_lineOf_90 : decode cX11_lineOf 90 = .ok (.lload_n 3, 1) := by decide +kernel
theorem dX11_lineOf_91 : decode cX11_lineOf 91 = .ok (.iload_n 2, 1) := by decide +kernel
theorem dX11_lineOf_92 : decode cX11_lineOf 92 = .ok (.invokevirtual 203, 3) := by decide +kernel
theorem dX11_lineOf_95 : decode cX11_lineOf 95 = .ok (.istore 5, 2) := by decide +kernel
theorem dX11_lineOf_97 : decode cX11_lineOf 97 = .ok (.iload 5, 2) := by decide +kernel
theorem dX11_lineOf_99 : decode cX11_lineOf 99 = .ok (.iconst (-1), 1) := by decide +kernel
theorem dX11_lineOf_100 : decode cX11_lineOf 100 = .ok (.if_icmp .ne 7, 3) := by decide +kernel
theorem dX11_lineOf_103 : decode cX11_lineOf 103 = .ok (.iconst (-1), 1) := by decide +kernel
theorem dX11_lineOf_104 : decode cX11_lineOf 104 = .ok (.goto 11, 3) := by decide +kernel
theorem dX11_lineOf_107 : decode cX11_lineOf 107 = .ok (.aload_n 0, 1) := by decide +kernel
theorem dX11_lineOf_108 : decode cX11_lineOf 108 = .ok (.iload 5, 2) := by decide +kernel
theorem dX11_lineOf_110 : decode cX11_lineOf 110 = .ok (.lload_n 3, 1) := by decide +kernel
theorem dX11_lineOf_111 : decode cX11_lineOf 111 = .ok (.iload_n 2, 1) := by decide +kernel
theorem dX11_lineOf_112 : decode cX11_lineOf 112 = .ok (.invokevirtual 213, 3) := by decide +kernel
theorem dX11_lineOf_115 : decode cX11_lineOf 115 = .ok (.ireturn, 1) := by decide +kernel
theorem dX11_told_0 : decode cX11_told 0 = .ok (.aload_n 0, 1) := by decide +kernel
theorem dX11_told_1 : decode cX11_told 1 = .ok (.iload_n 1, 1) := by decide +kernel
theorem dX11_told_2 : decode cX11_told 2 = .ok (.invokevirtual 233, 3) := by decide +kernel
theorem dX11_told_5 : decode cX11_told 5 = .ok (.ifCond .eq 12, 3) := by decide +kernel
theorem dX11_told_8 : decode cX11_told 8 = .ok (.aload_n 0, 1) := by decide +kernel
theorem dX11_told_9 : decode cX11_told 9 = .ok (.getfield 90, 3) := by decide +kernel
theorem dX11_told_12 : decode cX11_told 12 = .ok (.iload_n 1, 1) := by decide +kernel
theorem dX11_told_13 : decode cX11_told 13 = .ok (.baload, 1) := by decide +kernel
theorem dX11_told_14 : decode cX11_told 14 = .ok (.ifCond .ne 5, 3) := by decide +kernel
theorem dX11_told_17 : decode cX11_told 17 = .ok (.iconst (-1), 1) := by decide +kernel
theorem dX11_told_18 : decode cX11_told 18 = .ok (.ireturn, 1) := by decide +kernel
theorem dX11_told_19 : decode cX11_told 19 = .ok (.aload_n 0, 1) := by decide +kernel
theorem dX11_told_20 : decode cX11_told 20 = .ok (.iload_n 1, 1) := by decide +kernel
theorem dX11_told_21 : decode cX11_told 21 = .ok (.invokevirtual 248, 3) := by decide +kernel
theorem dX11_told_24 : decode cX11_told 24 = .ok (.aload_n 0, 1) := by decide +kernel
theorem dX11_told_25 : decode cX11_told 25 = .ok (.getfield 74, 3) := by decide +kernel
theorem dX11_told_28 : decode cX11_told 28 = .ok (.iload_n 1, 1) := by decide +kernel
theorem dX11_told_29 : decode cX11_told 29 = .ok (.iaload, 1) := by decide +kernel
theorem dX11_told_30 : decode cX11_told 30 = .ok (.istore_n 3, 1) := by decide +kernel
theorem dX11_told_31 : decode cX11_told 31 = .ok (.iload_n 2, 1) := by decide +kernel
theorem dX11_told_32 : decode cX11_told 32 = .ok (.tableswitch 221 0 10 #[60, 65, 72, 87, 89, 95, 106, 136, 172, 191, 191], 60) := by decide +kernel
theorem dX11_told_92 : decode cX11_told 92 = .ok (.aload_n 0, 1) := by decide +kernel
theorem dX11_told_93 : decode cX11_told 93 = .ok (.getfield 236, 3) := by decide +kernel
theorem dX11_told_96 : decode cX11_told 96 = .ok (.ireturn, 1) := by decide +kernel
theorem dX11_told_97 : decode cX11_told 97 = .ok (.aload_n 0, 1) := by decide +kernel
theorem dX11_told_98 : decode cX11_told 98 = .ok (.getfield 83, 3) := by decide +kernel
theorem dX11_told_101 : decode cX11_told 101 = .ok (.iload_n 1, 1) := by decide +kernel
theorem dX11_told_102 : decode cX11_told 102 = .ok (.iaload, 1) := by decide +kernel
theorem dX11_told_103 : decode cX11_told 103 = .ok (.ireturn, 1) := by decide +kernel
theorem dX11_told_104 : decode cX11_told 104 = .ok (.aload_n 0, 1) := by decide +kernel
theorem dX11_told_105 : decode cX11_told 105 = .ok (.getfield 86, 3) := by decide +kernel
theorem dX11_told_108 : decode cX11_told 108 = .ok (.iload_n 1, 1) := by decide +kernel
theorem dX11_told_109 : decode cX11_told 109 = .ok (.baload, 1) := by decide +kernel
theorem dX11_told_110 : decode cX11_told 110 = .ok (.ifCond .eq 7, 3) := by decide +kernel
theorem dX11_told_113 : decode cX11_told 113 = .ok (.iconst 1, 1) := by decide +kernel
theorem dX11_told_114 : decode cX11_told 114 = .ok (.goto 4, 3) := by decide +kernel
theorem dX11_told_117 : decode cX11_told 117 = .ok (.iconst 0, 1) := by decide +kernel
theorem dX11_told_118 : decode cX11_told 118 = .ok (.ireturn, 1) := by decide +kernel
theorem dX11_told_119 : decode cX11_told 119 = .ok (.iload_n 3, 1) := by decide +kernel
theorem dX11_told_120 : decode cX11_told 120 = .ok (.ireturn, 1) := by decide +kernel
theorem dX11_told_121 : decode cX11_told 121 = .ok (.aload_n 0, 1) := by decide +kernel
theorem dX11_told_122 : decode cX11_told 122 = .ok (.iload_n 3, 1) := by decide +kernel
theorem dX11_told_123 : decode cX11_told 123 = .ok (.invokevirtual 258, 3) := by decide +kernel
theorem dX11_told_126 : decode cX11_told 126 = .ok (.ireturn, 1) := by decide +kernel
theorem dX11_told_127 : decode cX11_told 127 = .ok (.aload_n 0, 1) := by decide +kernel
theorem dX11_told_128 : decode cX11_told 128 = .ok (.aload_n 0, 1) := by decide +kernel
theorem dX11_told_129 : decode cX11_told 129 = .ok (.iload_n 3, 1) := by decide +kernel
theorem dX11_told_130 : decode cX11_told 130 = .ok (.invokevirtual 258, 3) := by decide +kernel
theorem dX11_told_133 : decode cX11_told 133 = .ok (.iload_n 3, 1) := by decide +kernel
theorem dX11_told_134 : decode cX11_told 134 = .ok (.invokevirtual 261, 3) := by decide +kernel
theorem dX11_told_137 : decode cX11_told 137 = .ok (.ireturn, 1) := by decide +kernel
theorem dX11_told_138 : decode cX11_told 138 = .ok (.aload_n 0, 1) := by decide +kernel
theorem dX11_told_139 : decode cX11_told 139 = .ok (.aload_n 0, 1) := by decide +kernel
theorem dX11_told_140 : decode cX11_told 140 = .ok (.iload_n 3, 1) := by decide +kernel
theorem dX11_told_141 : decode cX11_told 141 = .ok (.invokevirtual 258, 3) := by decide +kernel
theorem dX11_told_144 : decode cX11_told 144 = .ok (.iload_n 3, 1) := by decide +kernel
theorem dX11_told_145 : decode cX11_told 145 = .ok (.invokevirtual 261, 3) := by decide +kernel
theorem dX11_told_148 : decode cX11_told 148 = .ok (.istore 4, 2) := by decide +kernel
theorem dX11_told_150 : decode cX11_told 150 = .ok (.iload 4, 2) := by decide +kernel
theorem dX11_told_152 : decode cX11_told 152 = .ok (.iconst (-1), 1) := by decide +kernel
theorem dX11_told_153 : decode cX11_told 153 = .ok (.if_icmp .ne 7, 3) := by decide +kernel
theorem dX11_told_156 : decode cX11_told 156 = .ok (.iconst (-1), 1) := by decide +kernel
theorem dX11_told_157 : decode cX11_told 157 = .ok (.goto 10, 3) := by decide +kernel
theorem dX11_told_160 : decode cX11_told 160 = .ok (.aload_n 0, 1) := by decide +kernel
theorem dX11_told_161 : decode cX11_told 161 = .ok (.iload 4, 2) := by decide +kernel
theorem dX11_told_163 : decode cX11_told 163 = .ok (.iload_n 3, 1) := by decide +kernel
theorem dX11_told_164 : decode cX11_told 164 = .ok (.invokevirtual 222, 3) := by decide +kernel
theorem dX11_told_167 : decode cX11_told 167 = .ok (.ireturn, 1) := by decide +kernel
theorem dX11_told_168 : decode cX11_told 168 = .ok (.aload_n 0, 1) := by decide +kernel
theorem dX11_told_169 : decode cX11_told 169 = .ok (.iload_n 3, 1) := by decide +kernel
theorem dX11_told_170 : decode cX11_told 170 = .ok (.invokevirtual 258, 3) := by decide +kernel
theorem dX11_told_173 : decode cX11_told 173 = .ok (.istore 4, 2) := by decide +kernel
theorem dX11_told_175 : decode cX11_told 175 = .ok (.iload 4, 2) := by decide +kernel
theorem dX11_told_177 : decode cX11_told 177 = .ok (.iconst (-1), 1) := by decide +kernel
theorem dX11_told_178 : decode cX11_told 178 = .ok (.if_icmp .eq 24, 3) := by decide +kernel
theorem dX11_told_181 : decode cX11_told 181 = .ok (.aload_n 0, 1) := by decide +kernel
theorem dX11_told_182 : decode cX11_told 182 = .ok (.getfield 7, 3) := by decide +kernel
theorem dX11_told_185 : decode cX11_told 185 = .ok (.iload 4, 2) := by decide +kernel
theorem dX11_told_187 : decode cX11_told 187 = .ok (.iaload, 1) := by decide +kernel
theorem dX11_told_188 : decode cX11_told 188 = .ok (.iconst 1, 1) := by decide +kernel
theorem dX11_told_189 : decode cX11_told 189 = .ok (.if_icmp .ne 13, 3) := by decide +kernel
theorem dX11_told_192 : decode cX11_told 192 = .ok (.aload_n 0, 1) := by decide +kernel
theorem dX11_told_193 : decode cX11_told 193 = .ok (.getfield 13, 3) := by decide +kernel
theorem dX11_told_196 : decode cX11_told 196 = .ok (.iload 4, 2) := by decide +kernel
theorem dX11_told_198 : decode cX11_told 198 = .ok (.iaload, 1) := by decide +kernel
theorem dX11_told_199 : decode cX11_told 199 = .ok (.goto 4, 3) := by decide +kernel
theorem dX11_told_202 : decode cX11_told 202 = .ok (.iconst (-1), 1) := by decide +kernel
theorem dX11_told_203 : decode cX11_told 203 = .ok (.ireturn, 1) := by decide +kernel
theorem dX11_told_204 : decode cX11_told 204 = .ok (.aload_n 0, 1) := by decide +kernel
theorem dX11_told_205 : decode cX11_told 205 = .ok (.getfield 86, 3) := by decide +kernel
theorem dX11_told_208 : decode cX11_told 208 = .ok (.iload_n 1, 1) := by decide +kernel
theorem dX11_told_209 : decode cX11_told 209 = .ok (.baload, 1) := by decide +kernel
theorem dX11_told_210 : decode cX11_told 210 = .ok (.ifCond .eq 7, 3) := by decide +kernel
theorem dX11_told_213 : decode cX11_told 213 = .ok (.iconst 0, 1) := by decide +kernel
theorem dX11_told_214 : decode cX11_told 214 = .ok (.goto 8, 3) := by decide +kernel
theorem dX11_told_217 : decode cX11_told 217 = .ok (.aload_n 0, 1) := by decide +kernel
theorem dX11_told_218 : decode cX11_told 218 = .ok (.iload_n 3, 1) := by decide +kernel
theorem dX11_told_219 : decode cX11_told 219 = .ok (.invokevirtual 264, 3) := by decide +kernel
theorem dX11_told_222 : decode cX11_told 222 = .ok (.ireturn, 1) := by decide +kernel
theorem dX11_told_223 : decode cX11_told 223 = .ok (.aload_n 0, 1) := by decide +kernel
theorem dX11_told_224 : decode cX11_told 224 = .ok (.getfield 86, 3) := by decide +kernel
theorem dX11_told_227 : decode cX11_told 227 = .ok (.iload_n 1, 1) := by decide +kernel
theorem dX11_told_228 : decode cX11_told 228 = .ok (.baload, 1) := by decide +kernel
theorem dX11_told_229 : decode cX11_told 229 = .ok (.ifCond .eq 7, 3) := by decide +kernel
theorem dX11_told_232 : decode cX11_told 232 = .ok (.iconst (-1), 1) := by decide +kernel
theorem dX11_told_233 : decode cX11_told 233 = .ok (.goto 19, 3) := by decide +kernel
theorem dX11_told_236 : decode cX11_told 236 = .ok (.aload_n 0, 1) := by decide +kernel
theorem dX11_told_237 : decode cX11_told 237 = .ok (.iload_n 3, 1) := by decide +kernel
theorem dX11_told_238 : decode cX11_told 238 = .ok (.iload_n 2, 1) := by decide +kernel
theorem dX11_told_239 : decode cX11_told 239 = .ok (.bipush 9, 2) := by decide +kernel
theorem dX11_told_241 : decode cX11_told 241 = .ok (.if_icmp .ne 7, 3) := by decide +kernel
theorem dX11_told_244 : decode cX11_told 244 = .ok (.iconst 1, 1) := by decide +kernel
theorem dX11_told_245 : decode cX11_told 245 = .ok (.goto 4, 3) := by decide +kernel
theorem dX11_told_248 : decode cX11_told 248 = .ok (.iconst 0, 1) := by decide +kernel
theorem dX11_told_249 : decode cX11_told 249 = .ok (.invokevirtual 267, 3) := by decide +kernel
theorem dX11_told_252 : decode cX11_told 252 = .ok (.ireturn, 1) := by decide +kernel
theorem dX11_told_253 : decode cX11_told 253 = .ok (.iconst (-1), 1) := by decide +kernel
theorem dX11_told_254 : decode cX11_told 254 = .ok (.ireturn, 1) := by decide +kernel
theorem dX11_behind_0 : decode cX11_behind 0 = .ok (.iconst 0, 1) := by decide +kernel
theorem dX11_behind_1 : decode cX11_behind 1 = .ok (.istore_n 2, 1) := by decide +kernel
theorem dX11_behind_2 : decode cX11_behind 2 = .ok (.iconst 0, 1) := by decide +kernel
theorem dX11_behind_3 : decode cX11_behind 3 = .ok (.istore_n 3, 1) := by decide +kernel
theorem dX11_behind_4 : decode cX11_behind 4 = .ok (.iload_n 3, 1) := by decide +kernel
theorem dX11_behind_5 : decode cX11_behind 5 = .ok (.aload_n 0, 1) := by decide +kernel
theorem dX11_behind_6 : decode cX11_behind 6 = .ok (.getfield 130, 3) := by decide +kernel
theorem dX11_behind_9 : decode cX11_behind 9 = .ok (.if_icmp .ge 38, 3) := by decide +kernel
theorem dX11_behind_12 : decode cX11_behind 12 = .ok (.aload_n 0, 1) := by decide +kernel
theorem dX11_behind_13 : decode cX11_behind 13 = .ok (.iload_n 3, 1) := by decide +kernel
theorem dX11_behind_14 : decode cX11_behind 14 = .ok (.iload_n 1, 1) := by decide +kernel
theorem dX11_behind_15 : decode cX11_behind 15 = .ok (.invokevirtual 197, 3) := by decide +kernel
theorem dX11_behind_18 : decode cX11_behind 18 = .ok (.ifCond .eq 23, 3) := by decide +kernel
theorem dX11_behind_21 : decode cX11_behind 21 = .ok (.aload_n 0, 1) := by decide +kernel
theorem dX11_behind_22 : decode cX11_behind 22 = .ok (.iload_n 3, 1) := by decide +kernel
theorem dX11_behind_23 : decode cX11_behind 23 = .ok (.invokevirtual 245, 3) := by decide +kernel
theorem dX11_behind_26 : decode cX11_behind 26 = .ok (.ifCond .eq 15, 3) := by decide +kernel
theorem dX11_behind_29 : decode cX11_behind 29 = .ok (.iload_n 2, 1) := by decide +kernel
theorem dX11_behind_30 : decode cX11_behind 30 = .ok (.aload_n 0, 1) := by decide +kernel
theorem dX11_behind_31 : decode cX11_behind 31 = .ok (.iload_n 3, 1) := by decide +kernel
theorem dX11_behind_32 : decode cX11_behind 32 = .ok (.aload_n 0, 1) := by decide +kernel
theorem dX11_behind_33 : decode cX11_behind 33 = .ok (.getfield 236, 3) := by decide +kernel
theorem dX11_behind_36 : decode cX11_behind 36 = .ok (.invokevirtual 187, 3) := by decide +kernel
theorem dX11_behind_39 : decode cX11_behind 39 = .ok (.ior, 1) := by decide +kernel
theorem dX11_behind_40 : decode cX11_behind 40 = .ok (.istore_n 2, 1) := by decide +kernel
theorem dX11_behind_41 : decode cX11_behind 41 = .ok (.iinc 3 1, 3) := by decide +kernel
theorem dX11_behind_44 : decode cX11_behind 44 = .ok (.goto (-40), 3) := by decide +kernel
theorem dX11_behind_47 : decode cX11_behind 47 = .ok (.iload_n 2, 1) := by decide +kernel
theorem dX11_behind_48 : decode cX11_behind 48 = .ok (.ireturn, 1) := by decide +kernel
theorem dX11_toCome_0 : decode cX11_toCome 0 = .ok (.iconst (-1), 1) := by decide +kernel
theorem dX11_toCome_1 : decode cX11_toCome 1 = .ok (.istore_n 3, 1) := by decide +kernel
theorem dX11_toCome_2 : decode cX11_toCome 2 = .ok (.iconst 0, 1) := by decide +kernel
theorem dX11_toCome_3 : decode cX11_toCome 3 = .ok (.istore 4, 2) := by decide +kernel
theorem dX11_toCome_5 : decode cX11_toCome 5 = .ok (.iload 4, 2) := by decide +kernel
theorem dX11_toCome_7 : decode cX11_toCome 7 = .ok (.aload_n 0, 1) := by decide +kernel
theorem dX11_toCome_8 : decode cX11_toCome 8 = .ok (.getfield 130, 3) := by decide +kernel
theorem dX11_toCome_11 : decode cX11_toCome 11 = .ok (.if_icmp .ge 115, 3) := by decide +kernel
theorem dX11_toCome_14 : decode cX11_toCome 14 = .ok (.aload_n 0, 1) := by decide +kernel
theorem dX11_toCome_15 : decode cX11_toCome 15 = .ok (.iload 4, 2) := by decide +kernel
theorem dX11_toCome_17 : decode cX11_toCome 17 = .ok (.iload_n 1, 1) := by decide +kernel
theorem dX11_toCome_18 : decode cX11_toCome 18 = .ok (.invokevirtual 197, 3) := by decide +kernel
theorem dX11_toCome_21 : decode cX11_toCome 21 = .ok (.ifCond .eq 99, 3) := by decide +kernel
theorem dX11_toCome_24 : decode cX11_toCome 24 = .ok (.aload_n 0, 1) := by decide +kernel
theorem dX11_toCome_25 : decode cX11_toCome 25 = .ok (.iload 4, 2) := by decide +kernel
theorem dX11_toCome_27 : decode cX11_toCome 27 = .ok (.invokevirtual 245, 3) := by decide +kernel
theorem dX11_toCome_30 : decode cX11_toCome 30 = .ok (.ifCond .ne 6, 3) := by decide +kernel
theorem dX11_toCome_33 : decode cX11_toCome 33 = .ok (.goto 87, 3) := by decide +kernel
theorem dX11_toCome_36 : decode cX11_toCome 36 = .ok (.aload_n 0, 1) := by decide +kernel
theorem dX11_toCome_37 : decode cX11_toCome 37 = .ok (.getfield 22, 3) := by decide +kernel
theorem dX11_toCome_40 : decode cX11_toCome 40 = .ok (.iload 4, 2) := by decide +kernel
theorem dX11_toCome_42 : decode cX11_toCome 42 = .ok (.iaload, 1) := by decide +kernel
theorem dX11_toCome_43 : decode cX11_toCome 43 = .ok (.aload_n 0, 1) := by decide +kernel
theorem dX11_toCome_44 : decode cX11_toCome 44 = .ok (.getfield 236, 3) := by decide +kernel
theorem dX11_toCome_47 : decode cX11_toCome 47 = .ok (.if_icmp .le 18, 3) := by decide +kernel
theorem dX11_toCome_50 : decode cX11_toCome 50 = .ok (.aload_n 0, 1) := by decide +kernel
theorem dX11_toCome_51 : decode cX11_toCome 51 = .ok (.getfield 22, 3) := by decide +kernel
theorem dX11_toCome_54 : decode cX11_toCome 54 = .ok (.iload 4, 2) := by decide +kernel
theorem dX11_toCome_56 : decode cX11_toCome 56 = .ok (.iaload, 1) := by decide +kernel
theorem dX11_toCome_57 : decode cX11_toCome 57 = .ok (.aload_n 0, 1) := by decide +kernel
theorem dX11_toCome_58 : decode cX11_toCome 58 = .ok (.getfield 236, 3) := by decide +kernel
theorem dX11_toCome_61 : decode cX11_toCome 61 = .ok (.isub, 1) := by decide +kernel
theorem dX11_toCome_62 : decode cX11_toCome 62 = .ok (.goto 4, 3) := by decide +kernel
theorem dX11_toCome_65 : decode cX11_toCome 65 = .ok (.iconst 1, 1) := by decide +kernel
theorem dX11_toCome_66 : decode cX11_toCome 66 = .ok (.istore 5, 2) := by decide +kernel
theorem dX11_toCome_68 : decode cX11_toCome 68 = .ok (.aload_n 0, 1) := by decide +kernel
theorem dX11_toCome_69 : decode cX11_toCome 69 = .ok (.getfield 25, 3) := by decide +kernel
theorem dX11_toCome_72 : decode cX11_toCome 72 = .ok (.iload 4, 2) := by decide +kernel
theorem dX11_toCome_74 : decode cX11_toCome 74 = .ok (.iaload, 1) := by decide +kernel
theorem dX11_toCome_75 : decode cX11_toCome 75 = .ok (.aload_n 0, 1) := by decide +kernel
theorem dX11_toCome_76 : decode cX11_toCome 76 = .ok (.getfield 236, 3) := by decide +kernel
theorem dX11_toCome_79 : decode cX11_toCome 79 = .ok (.isub, 1) := by decide +kernel
theorem dX11_toCome_80 : decode cX11_toCome 80 = .ok (.istore 6, 2) := by decide +kernel
theorem dX11_toCome_82 : decode cX11_toCome 82 = .ok (.iload_n 2, 1) := by decide +kernel
theorem dX11_toCome_83 : decode cX11_toCome 83 = .ok (.ifCond .eq 24, 3) := by decide +kernel
theorem dX11_toCome_86 : decode cX11_toCome 86 = .ok (.iload_n 3, 1) := by decide +kernel
theorem dX11_toCome_87 : decode cX11_toCome 87 = .ok (.iconst (-1), 1) := by decide +kernel
theorem dX11_toCome_88 : decode cX11_toCome 88 = .ok (.if_icmp .eq 9, 3) := by decide +kernel
theorem dX11_toCome_91 : decode cX11_toCome 91 = .ok (.iload 5, 2) := by decide +kernel
theorem dX11_toCome_93 : decode cX11_toCome 93 = .ok (.iload_n 3, 1) := by decide +kernel
theorem dX11_toCome_94 : decode cX11_toCome 94 = .ok (.if_icmp .ge 8, 3) := by decide +kernel
theorem dX11_toCome_97 : decode cX11_toCome 97 = .ok (.iload 5, 2) := by decide +kernel
theorem dX11_toCome_99 : decode cX11_toCome 99 = .ok (.goto 4, 3) := by decide +kernel
theorem dX11_toCome_102 : decode cX11_toCome 102 = .ok (.iload_n 3, 1) := by decide +kernel
theorem dX11_toCome_103 : decode cX11_toCome 103 = .ok (.istore_n 3, 1) := by decide +kernel
theorem dX11_toCome_104 : decode cX11_toCome 104 = .ok (.goto 16, 3) := by decide +kernel
theorem dX11_toCome_107 : decode cX11_toCome 107 = .ok (.iload 6, 2) := by decide +kernel
theorem dX11_toCome_109 : decode cX11_toCome 109 = .ok (.iload_n 3, 1) := by decide +kernel
theorem dX11_toCome_110 : decode cX11_toCome 110 = .ok (.if_icmp .le 8, 3) := by decide +kernel
theorem dX11_toCome_113 : decode cX11_toCome 113 = .ok (.iload 6, 2) := by decide +kernel
theorem dX11_toCome_115 : decode cX11_toCome 115 = .ok (.goto 4, 3) := by decide +kernel
theorem dX11_toCome_118 : decode cX11_toCome 118 = .ok (.iload_n 3, 1) := by decide +kernel
theorem dX11_toCome_119 : decode cX11_toCome 119 = .ok (.istore_n 3, 1) := by decide +kernel
theorem dX11_toCome_120 : decode cX11_toCome 120 = .ok (.iinc 4 1, 3) := by decide +kernel
theorem dX11_toCome_123 : decode cX11_toCome 123 = .ok (.goto (-118), 3) := by decide +kernel
theorem dX11_toCome_126 : decode cX11_toCome 126 = .ok (.iload_n 3, 1) := by decide +kernel
theorem dX11_toCome_127 : decode cX11_toCome 127 = .ok (.ireturn, 1) := by decide +kernel
theorem dX11_leads_0 : decode cX11_leads 0 = .ok (.lload_n 1, 1) := by decide +kernel
theorem dX11_leads_1 : decode cX11_leads 1 = .ok (.invokestatic 122, 3) := by decide +kernel
theorem dX11_leads_4 : decode cX11_leads 4 = .ok (.i2l, 1) := by decide +kernel
theorem dX11_leads_5 : decode cX11_leads 5 = .ok (.lconst 1, 1) := by decide +kernel
theorem dX11_leads_6 : decode cX11_leads 6 = .ok (.ldc2_w 137, 3) := by decide +kernel
theorem dX11_leads_9 : decode cX11_leads 9 = .ok (.invokestatic 110, 3) := by decide +kernel
theorem dX11_leads_12 : decode cX11_leads 12 = .ok (.ifCond .eq 10, 3) := by decide +kernel
theorem dX11_leads_15 : decode cX11_leads 15 = .ok (.iload_n 3, 1) := by decide +kernel
theorem dX11_leads_16 : decode cX11_leads 16 = .ok (.invokestatic 194, 3) := by decide +kernel
theorem dX11_leads_19 : decode cX11_leads 19 = .ok (.ifCond .ne 6, 3) := by decide +kernel
theorem dX11_leads_22 : decode cX11_leads 22 = .ok (.bipush (-2), 2) := by decide +kernel
theorem dX11_leads_24 : decode cX11_leads 24 = .ok (.ireturn, 1) := by decide +kernel
theorem dX11_leads_25 : decode cX11_leads 25 = .ok (.aload_n 0, 1) := by decide +kernel
theorem dX11_leads_26 : decode cX11_leads 26 = .ok (.lload_n 1, 1) := by decide +kernel
theorem dX11_leads_27 : decode cX11_leads 27 = .ok (.invokevirtual 271, 3) := by decide +kernel
theorem dX11_leads_30 : decode cX11_leads 30 = .ok (.aload_n 0, 1) := by decide +kernel
theorem dX11_leads_31 : decode cX11_leads 31 = .ok (.aload_n 0, 1) := by decide +kernel
theorem dX11_leads_32 : decode cX11_leads 32 = .ok (.iload_n 3, 1) := by decide +kernel
theorem dX11_leads_33 : decode cX11_leads 33 = .ok (.invokevirtual 258, 3) := by decide +kernel
theorem dX11_leads_36 : decode cX11_leads 36 = .ok (.iload_n 3, 1) := by decide +kernel
theorem dX11_leads_37 : decode cX11_leads 37 = .ok (.invokevirtual 261, 3) := by decide +kernel
theorem dX11_leads_40 : decode cX11_leads 40 = .ok (.ireturn, 1) := by decide +kernel
theorem dX11_demand_0 : decode cX11_demand 0 = .ok (.iload_n 1, 1) := by decide +kernel
theorem dX11_demand_1 : decode cX11_demand 1 = .ok (.i2l, 1) := by decide +kernel
theorem dX11_demand_2 : decode cX11_demand 2 = .ok (.lconst 0, 1) := by decide +kernel
theorem dX11_demand_3 : decode cX11_demand 3 = .ok (.ldc2_w 137, 3) := by decide +kernel
theorem dX11_demand_6 : decode cX11_demand 6 = .ok (.invokestatic 110, 3) := by decide +kernel
theorem dX11_demand_9 : decode cX11_demand 9 = .ok (.ifCond .eq 27, 3) := by decide +kernel
theorem dX11_demand_12 : decode cX11_demand 12 = .ok (.iload_n 2, 1) := by decide +kernel
theorem dX11_demand_13 : decode cX11_demand 13 = .ok (.i2l, 1) := by decide +kernel
theorem dX11_demand_14 : decode cX11_demand 14 = .ok (.lconst 0, 1) := by decide +kernel
theorem dX11_demand_15 : decode cX11_demand 15 = .ok (.ldc2_w 275, 3) := by decide +kernel
theorem dX11_demand_18 : decode cX11_demand 18 = .ok (.invokestatic 110, 3) := by decide +kernel
theorem dX11_demand_21 : decode cX11_demand 21 = .ok (.ifCond .eq 15, 3) := by decide +kernel
theorem dX11_demand_24 : decode cX11_demand 24 = .ok (.iload_n 3, 1) := by decide +kernel
theorem dX11_demand_25 : decode cX11_demand 25 = .ok (.i2l, 1) := by decide +kernel
theorem dX11_demand_26 : decode cX11_demand 26 = .ok (.lconst 0, 1) := by decide +kernel
theorem dX11_demand_27 : decode cX11_demand 27 = .ok (.ldc2_w 277, 3) := by decide +kernel
theorem dX11_demand_30 : decode cX11_demand 30 = .ok (.invokestatic 110, 3) := by decide +kernel
theorem dX11_demand_33 : decode cX11_demand 33 = .ok (.ifCond .ne 6, 3) := by decide +kernel
theorem dX11_demand_36 : decode cX11_demand 36 = .ok (.bipush (-2), 2) := by decide +kernel
theorem dX11_demand_38 : decode cX11_demand 38 = .ok (.ireturn, 1) := by decide +kernel
theorem dX11_demand_39 : decode cX11_demand 39 = .ok (.aload_n 0, 1) := by decide +kernel
theorem dX11_demand_40 : decode cX11_demand 40 = .ok (.getfield 96, 3) := by decide +kernel
theorem dX11_demand_43 : decode cX11_demand 43 = .ok (.iload_n 1, 1) := by decide +kernel
theorem dX11_demand_44 : decode cX11_demand 44 = .ok (.iaload, 1) := by decide +kernel
theorem dX11_demand_45 : decode cX11_demand 45 = .ok (.istore 4, 2) := by decide +kernel
theorem dX11_demand_47 : decode cX11_demand 47 = .ok (.aload_n 0, 1) := by decide +kernel
theorem dX11_demand_48 : decode cX11_demand 48 = .ok (.getfield 96, 3) := by decide +kernel
theorem dX11_demand_51 : decode cX11_demand 51 = .ok (.iload_n 1, 1) := by decide +kernel
theorem dX11_demand_52 : decode cX11_demand 52 = .ok (.iload_n 2, 1) := by decide +kernel
theorem dX11_demand_53 : decode cX11_demand 53 = .ok (.iastore, 1) := by decide +kernel
theorem dX11_demand_54 : decode cX11_demand 54 = .ok (.aload_n 0, 1) := by decide +kernel
theorem dX11_demand_55 : decode cX11_demand 55 = .ok (.getfield 99, 3) := by decide +kernel
theorem dX11_demand_58 : decode cX11_demand 58 = .ok (.iload_n 1, 1) := by decide +kernel
theorem dX11_demand_59 : decode cX11_demand 59 = .ok (.iload_n 3, 1) := by decide +kernel
theorem dX11_demand_60 : decode cX11_demand 60 = .ok (.iastore, 1) := by decide +kernel
theorem dX11_demand_61 : decode cX11_demand 61 = .ok (.iload 4, 2) := by decide +kernel
theorem dX11_demand_63 : decode cX11_demand 63 = .ok (.ireturn, 1) := by decide +kernel
theorem dX11_numbersOf_0 : decode cX11_numbersOf 0 = .ok (.lconst 0, 1) := by decide +kernel
theorem dX11_numbersOf_1 : decode cX11_numbersOf 1 = .ok (.lstore_n 2, 1) := by decide +kernel
theorem dX11_numbersOf_2 : decode cX11_numbersOf 2 = .ok (.iconst 0, 1) := by decide +kernel
theorem dX11_numbersOf_3 : decode cX11_numbersOf 3 = .ok (.istore 4, 2) := by decide +kernel
theorem dX11_numbersOf_5 : decode cX11_numbersOf 5 = .ok (.iload 4, 2) := by decide +kernel
theorem dX11_numbersOf_7 : decode cX11_numbersOf 7 = .ok (.bipush 10, 2) := by decide +kernel
theorem dX11_numbersOf_9 : decode cX11_numbersOf 9 = .ok (.if_icmp .ge 24, 3) := by decide +kernel
theorem dX11_numbersOf_12 : decode cX11_numbersOf 12 = .ok (.lload_n 2, 1) := by decide +kernel
theorem dX11_numbersOf_13 : decode cX11_numbersOf 13 = .ok (.aload_n 0, 1) := by decide +kernel
theorem dX11_numbersOf_14 : decode cX11_numbersOf 14 = .ok (.getfield 19, 3) := by decide +kernel
theorem dX11_numbersOf_17 : decode cX11_numbersOf 17 = .ok (.iload_n 1, 1) := by decide +kernel
theorem dX11_numbersOf_18 : decode cX11_numbersOf 18 = .ok (.iaload, 1) := by decide +kernel
theorem dX11_numbersOf_19 : decode cX11_numbersOf 19 = .ok (.iload 4, 2) := by decide +kernel
theorem dX11_numbersOf_21 : decode cX11_numbersOf 21 = .ok (.ishr, 1) := by decide +kernel
theorem dX11_numbersOf_22 : decode cX11_numbersOf 22 = .ok (.iconst 1, 1) := by decide +kernel
theorem dX11_numbersOf_23 : decode cX11_numbersOf 23 = .ok (.iand, 1) := by decide +kernel
theorem dX11_numbersOf_24 : decode cX11_numbersOf 24 = .ok (.i2l, 1) := by decide +kernel
theorem dX11_numbersOf_25 : decode cX11_numbersOf 25 = .ok (.ladd, 1) := by decide +kernel
theorem dX11_numbersOf_26 : decode cX11_numbersOf 26 = .ok (.lstore_n 2, 1) := by decide +kernel
theorem dX11_numbersOf_27 : decode cX11_numbersOf 27 = .ok (.iinc 4 1, 3) := by decide +kernel
theorem dX11_numbersOf_30 : decode cX11_numbersOf 30 = .ok (.goto (-25), 3) := by decide +kernel
theorem dX11_numbersOf_33 : decode cX11_numbersOf 33 = .ok (.aload_n 0, 1) := by decide +kernel
theorem dX11_numbersOf_34 : decode cX11_numbersOf 34 = .ok (.getfield 16, 3) := by decide +kernel
theorem dX11_numbersOf_37 : decode cX11_numbersOf 37 = .ok (.iload_n 1, 1) := by decide +kernel
theorem dX11_numbersOf_38 : decode cX11_numbersOf 38 = .ok (.iaload, 1) := by decide +kernel
theorem dX11_numbersOf_39 : decode cX11_numbersOf 39 = .ok (.invokestatic 139, 3) := by decide +kernel
theorem dX11_numbersOf_42 : decode cX11_numbersOf 42 = .ok (.iconst 1, 1) := by decide +kernel
theorem dX11_numbersOf_43 : decode cX11_numbersOf 43 = .ok (.iadd, 1) := by decide +kernel
theorem dX11_numbersOf_44 : decode cX11_numbersOf 44 = .ok (.istore 4, 2) := by decide +kernel
theorem dX11_numbersOf_46 : decode cX11_numbersOf 46 = .ok (.iload 4, 2) := by decide +kernel
theorem dX11_numbersOf_48 : decode cX11_numbersOf 48 = .ok (.aload_n 0, 1) := by decide +kernel
theorem dX11_numbersOf_49 : decode cX11_numbersOf 49 = .ok (.getfield 22, 3) := by decide +kernel
theorem dX11_numbersOf_52 : decode cX11_numbersOf 52 = .ok (.iload_n 1, 1) := by decide +kernel
theorem dX11_numbersOf_53 : decode cX11_numbersOf 53 = .ok (.iaload, 1) := by decide +kernel
theorem dX11_numbersOf_54 : decode cX11_numbersOf 54 = .ok (.if_icmp .ge 15, 3) := by decide +kernel
theorem dX11_numbersOf_57 : decode cX11_numbersOf 57 = .ok (.ldc2_w 120, 3) := by decide +kernel
theorem dX11_numbersOf_60 : decode cX11_numbersOf 60 = .ok (.lload_n 2, 1) := by decide +kernel
theorem dX11_numbersOf_61 : decode cX11_numbersOf 61 = .ok (.lmul, 1) := by decide +kernel
theorem dX11_numbersOf_62 : decode cX11_numbersOf 62 = .ok (.lstore_n 2, 1) := by decide +kernel
theorem dX11_numbersOf_63 : decode cX11_numbersOf 63 = .ok (.iinc 4 1, 3) := by decide +kernel
theorem dX11_numbersOf_66 : decode cX11_numbersOf 66 = .ok (.goto (-20), 3) := by decide +kernel
theorem dX11_numbersOf_69 : decode cX11_numbersOf 69 = .ok (.lload_n 2, 1) := by decide +kernel
theorem dX11_numbersOf_70 : decode cX11_numbersOf 70 = .ok (.lreturn, 1) := by decide +kernel
theorem dX11_roomAt_0 : decode cX11_roomAt 0 = .ok (.lconst 0, 1) := by decide +kernel
theorem dX11_roomAt_1 : decode cX11_roomAt 1 = .ok (.lstore_n 3, 1) := by decide +kernel
theorem dX11_roomAt_2 : decode cX11_roomAt 2 = .ok (.iconst 0, 1) := by decide +kernel
theorem dX11_roomAt_3 : decode cX11_roomAt 3 = .ok (.istore 5, 2) := by decide +kernel
theorem dX11_roomAt_5 : decode cX11_roomAt 5 = .ok (.iload 5, 2) := by decide +kernel
theorem dX11_roomAt_7 : decode cX11_roomAt 7 = .ok (.aload_n 0, 1) := by decide +kernel
theorem dX11_roomAt_8 : decode cX11_roomAt 8 = .ok (.getfield 130, 3) := by decide +kernel
theorem dX11_roomAt_11 : decode cX11_roomAt 11 = .ok (.if_icmp .ge 50, 3) := by decide +kernel
theorem dX11_roomAt_14 : decode cX11_roomAt 14 = .ok (.aload_n 0, 1) := by decide +kernel
theorem dX11_roomAt_15 : decode cX11_roomAt 15 = .ok (.getfield 7, 3) := by decide +kernel
theorem dX11_roomAt_18 : decode cX11_roomAt 18 = .ok (.iload 5, 2) := by decide +kernel
theorem dX11_roomAt_20 : decode cX11_roomAt 20 = .ok (.iaload, 1) := by decide +kernel
theorem dX11_roomAt_21 : decode cX11_roomAt 21 = .ok (.ifCond .ne 34, 3) := by decide +kernel
theorem dX11_roomAt_24 : decode cX11_roomAt 24 = .ok (.aload_n 0, 1) := by decide +kernel
theorem dX11_roomAt_25 : decode cX11_roomAt 25 = .ok (.getfield 13, 3) := by decide +kernel
theorem dX11_roomAt_28 : decode cX11_roomAt 28 = .ok (.iload 5, 2) := by decide +kernel
theorem dX11_roomAt_30 : decode cX11_roomAt 30 = .ok (.iaload, 1) := by decide +kernel
theorem dX11_roomAt_31 : decode cX11_roomAt 31 = .ok (.iload_n 1, 1) := by decide +kernel
theorem dX11_roomAt_32 : decode cX11_roomAt 32 = .ok (.if_icmp .ne 23, 3) := by decide +kernel
theorem dX11_roomAt_35 : decode cX11_roomAt 35 = .ok (.aload_n 0, 1) := by decide +kernel
theorem dX11_roomAt_36 : decode cX11_roomAt 36 = .ok (.iload 5, 2) := by decide +kernel
theorem dX11_roomAt_38 : decode cX11_roomAt 38 = .ok (.iload_n 2, 1) := by decide +kernel
theorem dX11_roomAt_39 : decode cX11_roomAt 39 = .ok (.invokevirtual 197, 3) := by decide +kernel
theorem dX11_roomAt_42 : decode cX11_roomAt 42 = .ok (.ifCond .eq 13, 3) := by decide +kernel
theorem dX11_roomAt_45 : decode cX11_roomAt 45 = .ok (.lload_n 3, 1) := by decide +kernel
theorem dX11_roomAt_46 : decode cX11_roomAt 46 = .ok (.aload_n 0, 1) := by decide +kernel
theorem dX11_roomAt_47 : decode cX11_roomAt 47 = .ok (.getfield 49, 3) := by decide +kernel
theorem dX11_roomAt_50 : decode cX11_roomAt 50 = .ok (.iload 5, 2) := by decide +kernel
theorem dX11_roomAt_52 : decode cX11_roomAt 52 = .ok (.laload, 1) := by decide +kernel
theorem dX11_roomAt_53 : decode cX11_roomAt 53 = .ok (.ladd, 1) := by decide +kernel
theorem dX11_roomAt_54 : decode cX11_roomAt 54 = .ok (.lstore_n 3, 1) := by decide +kernel
theorem dX11_roomAt_55 : decode cX11_roomAt 55 = .ok (.iinc 5 1, 3) := by decide +kernel
theorem dX11_roomAt_58 : decode cX11_roomAt 58 = .ok (.goto (-53), 3) := by decide +kernel
theorem dX11_roomAt_61 : decode cX11_roomAt 61 = .ok (.lload_n 3, 1) := by decide +kernel
theorem dX11_roomAt_62 : decode cX11_roomAt 62 = .ok (.lreturn, 1) := by decide +kernel
theorem dX11_room_0 : decode cX11_room 0 = .ok (.iload_n 1, 1) := by decide +kernel
theorem dX11_room_1 : decode cX11_room 1 = .ok (.i2l, 1) := by decide +kernel
theorem dX11_room_2 : decode cX11_room 2 = .ok (.lconst 0, 1) := by decide +kernel
theorem dX11_room_3 : decode cX11_room 3 = .ok (.ldc2_w 137, 3) := by decide +kernel
theorem dX11_room_6 : decode cX11_room 6 = .ok (.invokestatic 110, 3) := by decide +kernel
theorem dX11_room_9 : decode cX11_room 9 = .ok (.ifCond .eq 19, 3) := by decide +kernel
theorem dX11_room_12 : decode cX11_room 12 = .ok (.iload_n 2, 1) := by decide +kernel
theorem dX11_room_13 : decode cX11_room 13 = .ok (.invokestatic 194, 3) := by decide +kernel
theorem dX11_room_16 : decode cX11_room 16 = .ok (.ifCond .eq 12, 3) := by decide +kernel
theorem dX11_room_19 : decode cX11_room 19 = .ok (.aload_n 0, 1) := by decide +kernel
theorem dX11_room_20 : decode cX11_room 20 = .ok (.iload_n 1, 1) := by decide +kernel
theorem dX11_room_21 : decode cX11_room 21 = .ok (.iload_n 2, 1) := by decide +kernel
theorem dX11_room_22 : decode cX11_room 22 = .ok (.invokevirtual 279, 3) := by decide +kernel
theorem dX11_room_25 : decode cX11_room 25 = .ok (.goto 6, 3) := by decide +kernel
theorem dX11_room_28 : decode cX11_room 28 = .ok (.ldc2_w 283, 3) := by decide +kernel
theorem dX11_room_31 : decode cX11_room 31 = .ok (.lreturn, 1) := by decide +kernel
theorem dX11_makeBase_0 : decode cX11_makeBase 0 = .ok (.aload_n 0, 1) := by decide +kernel
theorem dX11_makeBase_1 : decode cX11_makeBase 1 = .ok (.getfield 114, 3) := by decide +kernel
theorem dX11_makeBase_4 : decode cX11_makeBase 4 = .ok (.bipush 7, 2) := by decide +kernel
theorem dX11_makeBase_6 : decode cX11_makeBase 6 = .ok (.idiv, 1) := by decide +kernel
theorem dX11_makeBase_7 : decode cX11_makeBase 7 = .ok (.istore_n 2, 1) := by decide +kernel
theorem dX11_makeBase_8 : decode cX11_makeBase 8 = .ok (.iload_n 2, 1) := by decide +kernel
theorem dX11_makeBase_9 : decode cX11_makeBase 9 = .ok (.sipush 2000, 3) := by decide +kernel
theorem dX11_makeBase_12 : decode cX11_makeBase 12 = .ok (.if_icmp .gt 24, 3) := by decide +kernel
theorem dX11_makeBase_15 : decode cX11_makeBase 15 = .ok (.aload_n 0, 1) := by decide +kernel
theorem dX11_makeBase_16 : decode cX11_makeBase 16 = .ok (.getfield 105, 3) := by decide +kernel
theorem dX11_makeBase_19 : decode cX11_makeBase 19 = .ok (.iload_n 2, 1) := by decide +kernel
theorem dX11_makeBase_20 : decode cX11_makeBase 20 = .ok (.aload_n 0, 1) := by decide +kernel
theorem dX11_makeBase_21 : decode cX11_makeBase 21 = .ok (.iload_n 1, 1) := by decide +kernel
theorem dX11_makeBase_22 : decode cX11_makeBase 22 = .ok (.bipush 7, 2) := by decide +kernel
theorem dX11_makeBase_24 : decode cX11_makeBase 24 = .ok (.iload_n 2, 1) := by decide +kernel
theorem dX11_makeBase_25 : decode cX11_makeBase 25 = .ok (.imul, 1) := by decide +kernel
theorem dX11_makeBase_26 : decode cX11_makeBase 26 = .ok (.invokevirtual 279, 3) := by decide +kernel
theorem dX11_makeBase_29 : decode cX11_makeBase 29 = .ok (.lastore, 1) := by decide +kernel
theorem dX11_makeBase_30 : decode cX11_makeBase 30 = .ok (.iinc 2 1, 3) := by decide +kernel
theorem dX11_makeBase_33 : decode cX11_makeBase 33 = .ok (.goto (-25), 3) := by decide +kernel
theorem dX11_makeBase_36 : decode cX11_makeBase 36 = .ok (.return_, 1) := by decide +kernel
theorem dX11_shortageWith_0 : decode cX11_shortageWith 0 = .ok (.aload_n 0, 1) := by decide +kernel
theorem dX11_shortageWith_1 : decode cX11_shortageWith 1 = .ok (.getfield 114, 3) := by decide +kernel
theorem dX11_shortageWith_4 : decode cX11_shortageWith 4 = .ok (.bipush 7, 2) := by decide +kernel
theorem dX11_shortageWith_6 : decode cX11_shortageWith 6 = .ok (.idiv, 1) := by decide +kernel
theorem dX11_shortageWith_7 : decode cX11_shortageWith 7 = .ok (.istore_n 3, 1) := by decide +kernel
theorem dX11_shortageWith_8 : decode cX11_shortageWith 8 = .ok (.iload_n 3, 1) := by decide +kernel
theorem dX11_shortageWith_9 : decode cX11_shortageWith 9 = .ok (.sipush 2000, 3) := by decide +kernel
theorem dX11_shortageWith_12 : decode cX11_shortageWith 12 = .ok (.if_icmp .gt 117, 3) := by decide +kernel
theorem dX11_shortageWith_15 : decode cX11_shortageWith 15 = .ok (.aload_n 0, 1) := by decide +kernel
theorem dX11_shortageWith_16 : decode cX11_shortageWith 16 = .ok (.getfield 105, 3) := by decide +kernel
theorem dX11_shortageWith_19 : decode cX11_shortageWith 19 = .ok (.iload_n 3, 1) := by decide +kernel
theorem dX11_shortageWith_20 : decode cX11_shortageWith 20 = .ok (.laload, 1) := by decide +kernel
theorem dX11_shortageWith_21 : decode cX11_shortageWith 21 = .ok (.lstore 4, 2) := by decide +kernel
theorem dX11_shortageWith_23 : decode cX11_shortageWith 23 = .ok (.iconst 0, 1) := by decide +kernel
theorem dX11_shortageWith_24 : decode cX11_shortageWith 24 = .ok (.istore 6, 2) := by decide +kernel
theorem dX11_shortageWith_26 : decode cX11_shortageWith 26 = .ok (.iload 6, 2) := by decide +kernel
theorem dX11_shortageWith_28 : decode cX11_shortageWith 28 = .ok (.aload_n 0, 1) := by decide +kernel
theorem dX11_shortageWith_29 : decode cX11_shortageWith 29 = .ok (.getfield 285, 3) := by decide +kernel
theorem dX11_shortageWith_32 : decode cX11_shortageWith 32 = .ok (.if_icmp .ge 65, 3) := by decide +kernel
theorem dX11_shortageWith_35 : decode cX11_shortageWith 35 = .ok (.iload_n 2, 1) := by decide +kernel
theorem dX11_shortageWith_36 : decode cX11_shortageWith 36 = .ok (.iload 6, 2) := by decide +kernel
theorem dX11_shortageWith_38 : decode cX11_shortageWith 38 = .ok (.ishr, 1) := by decide +kernel
theorem dX11_shortageWith_39 : decode cX11_shortageWith 39 = .ok (.iconst 1, 1) := by decide +kernel
theorem dX11_shortageWith_40 : decode cX11_shortageWith 40 = .ok (.iand, 1) := by decide +kernel
theorem dX11_shortageWith_41 : decode cX11_shortageWith 41 = .ok (.iconst 1, 1) := by decide +kernel
theorem dX11_shortageWith_42 : decode cX11_shortageWith 42 = .ok (.if_icmp .ne 49, 3) := by decide +kernel
theorem dX11_shortageWith_45 : decode cX11_shortageWith 45 = .ok (.aload_n 0, 1) := by decide +kernel
theorem dX11_shortageWith_46 : decode cX11_shortageWith 46 = .ok (.getfield 13, 3) := by decide +kernel
theorem dX11_shortageWith_49 : decode cX11_shortageWith 49 = .ok (.bipush 121, 2) := by decide +kernel
theorem dX11_shortageWith_51 : decode cX11_shortageWith 51 = .ok (.iload 6, 2) := by decide +kernel
theorem dX11_shortageWith_53 : decode cX11_shortageWith 53 = .ok (.iadd, 1) := by decide +kernel
theorem dX11_shortageWith_54 : decode cX11_shortageWith 54 = .ok (.iaload, 1) := by decide +kernel
theorem dX11_shortageWith_55 : decode cX11_shortageWith 55 = .ok (.iload_n 1, 1) := by decide +kernel
theorem dX11_shortageWith_56 : decode cX11_shortageWith 56 = .ok (.if_icmp .ne 35, 3) := by decide +kernel
theorem dX11_shortageWith_59 : decode cX11_shortageWith 59 = .ok (.bipush 7, 2) := by decide +kernel
theorem dX11_shortageWith_61 : decode cX11_shortageWith 61 = .ok (.iload_n 3, 1) := by decide +kernel
theorem dX11_shortageWith_62 : decode cX11_shortageWith 62 = .ok (.imul, 1) := by decide +kernel
theorem dX11_shortageWith_63 : decode cX11_shortageWith 63 = .ok (.aload_n 0, 1) := by decide +kernel
theorem dX11_shortageWith_64 : decode cX11_shortageWith 64 = .ok (.getfield 28, 3) := by decide +kernel
theorem dX11_shortageWith_67 : decode cX11_shortageWith 67 = .ok (.bipush 121, 2) := by decide +kernel
theorem dX11_shortageWith_69 : decode cX11_shortageWith 69 = .ok (.iload 6, 2) := by decide +kernel
theorem dX11_shortageWith_71 : decode cX11_shortageWith 71 = .ok (.iadd, 1) := by decide +kernel
theorem dX11_shortageWith_72 : decode cX11_shortageWith 72 = .ok (.iaload, 1) := by decide +kernel
theorem dX11_shortageWith_73 : decode cX11_shortageWith 73 = .ok (.if_icmp .lt 18, 3) := by decide +kernel
theorem dX11_shortageWith_76 : decode cX11_shortageWith 76 = .ok (.lload 4, 2) := by decide +kernel
theorem dX11_shortageWith_78 : decode cX11_shortageWith 78 = .ok (.aload_n 0, 1) := by decide +kernel
theorem dX11_shortageWith_79 : decode cX11_shortageWith 79 = .ok (.getfield 49, 3) := by decide +kernel
theorem dX11_shortageWith_82 : decode cX11_shortageWith 82 = .ok (.bipush 121, 2) := by decide +kernel
theorem dX11_shortageWith_84 : decode cX11_shortageWith 84 = .ok (.iload 6, 2) := by decide +kernel
theorem dX11_shortageWith_86 : decode cX11_shortageWith 86 = .ok (.iadd, 1) := by decide +kernel
theorem dX11_shortageWith_87 : decode cX11_shortageWith 87 = .ok (.laload, 1) := by decide +kernel
theorem dX11_shortageWith_88 : decode cX11_shortageWith 88 = .ok (.ladd, 1) := by decide +kernel
theorem dX11_shortageWith_89 : decode cX11_shortageWith 89 = .ok (.lstore 4, 2) := by decide +kernel
theorem dX11_shortageWith_91 : decode cX11_shortageWith 91 = .ok (.iinc 6 1, 3) := by decide +kernel
theorem dX11_shortageWith_94 : decode cX11_shortageWith 94 = .ok (.goto (-68), 3) := by decide +kernel
theorem dX11_shortageWith_97 : decode cX11_shortageWith 97 = .ok (.aload_n 0, 1) := by decide +kernel
theorem dX11_shortageWith_98 : decode cX11_shortageWith 98 = .ok (.getfield 96, 3) := by decide +kernel
theorem dX11_shortageWith_101 : decode cX11_shortageWith 101 = .ok (.iload_n 1, 1) := by decide +kernel
theorem dX11_shortageWith_102 : decode cX11_shortageWith 102 = .ok (.iaload, 1) := by decide +kernel
theorem dX11_shortageWith_103 : decode cX11_shortageWith 103 = .ok (.i2l, 1) := by decide +kernel
theorem dX11_shortageWith_104 : decode cX11_shortageWith 104 = .ok (.iload_n 3, 1) := by decide +kernel
theorem dX11_shortageWith_105 : decode cX11_shortageWith 105 = .ok (.i2l, 1) := by decide +kernel
theorem dX11_shortageWith_106 : decode cX11_shortageWith 106 = .ok (.aload_n 0, 1) := by decide +kernel
theorem dX11_shortageWith_107 : decode cX11_shortageWith 107 = .ok (.getfield 99, 3) := by decide +kernel
theorem dX11_shortageWith_110 : decode cX11_shortageWith 110 = .ok (.iload_n 1, 1) := by decide +kernel
theorem dX11_shortageWith_111 : decode cX11_shortageWith 111 = .ok (.iaload, 1) := by decide +kernel
theorem dX11_shortageWith_112 : decode cX11_shortageWith 112 = .ok (.i2l, 1) := by decide +kernel
theorem dX11_shortageWith_113 : decode cX11_shortageWith 113 = .ok (.lmul, 1) := by decide +kernel
theorem dX11_shortageWith_114 : decode cX11_shortageWith 114 = .ok (.ladd, 1) := by decide +kernel
theorem dX11_shortageWith_115 : decode cX11_shortageWith 115 = .ok (.lload 4, 2) := by decide +kernel
theorem dX11_shortageWith_117 : decode cX11_shortageWith 117 = .ok (.lcmp, 1) := by decide +kernel
theorem dX11_shortageWith_118 : decode cX11_shortageWith 118 = .ok (.ifCond .le 5, 3) := by decide +kernel
theorem dX11_shortageWith_121 : decode cX11_shortageWith 121 = .ok (.iload_n 3, 1) := by decide +kernel
theorem dX11_shortageWith_122 : decode cX11_shortageWith 122 = .ok (.ireturn, 1) := by decide +kernel
theorem dX11_shortageWith_123 : decode cX11_shortageWith 123 = .ok (.iinc 3 1, 3) := by decide +kernel
theorem dX11_shortageWith_126 : decode cX11_shortageWith 126 = .ok (.goto (-118), 3) := by decide +kernel
theorem dX11_shortageWith_129 : decode cX11_shortageWith 129 = .ok (.iconst (-1), 1) := by decide +kernel
theorem dX11_shortageWith_130 : decode cX11_shortageWith 130 = .ok (.ireturn, 1) := by decide +kernel
theorem dX11_shortage_0 : decode cX11_shortage 0 = .ok (.iload_n 1, 1) := by decide +kernel
theorem dX11_shortage_1 : decode cX11_shortage 1 = .ok (.i2l, 1) := by decide +kernel
theorem dX11_shortage_2 : decode cX11_shortage 2 = .ok (.lconst 0, 1) := by decide +kernel
theorem dX11_shortage_3 : decode cX11_shortage 3 = .ok (.ldc2_w 137, 3) := by decide +kernel
theorem dX11_shortage_6 : decode cX11_shortage 6 = .ok (.invokestatic 110, 3) := by decide +kernel
theorem dX11_shortage_9 : decode cX11_shortage 9 = .ok (.ifCond .ne 6, 3) := by decide +kernel
theorem dX11_shortage_12 : decode cX11_shortage 12 = .ok (.bipush (-2), 2) := by decide +kernel
theorem dX11_shortage_14 : decode cX11_shortage 14 = .ok (.ireturn, 1) := by decide +kernel
theorem dX11_shortage_15 : decode cX11_shortage 15 = .ok (.aload_n 0, 1) := by decide +kernel
theorem dX11_shortage_16 : decode cX11_shortage 16 = .ok (.iload_n 1, 1) := by decide +kernel
theorem dX11_shortage_17 : decode cX11_shortage 17 = .ok (.invokevirtual 288, 3) := by decide +kernel
theorem dX11_shortage_20 : decode cX11_shortage 20 = .ok (.aload_n 0, 1) := by decide +kernel
theorem dX11_shortage_21 : decode cX11_shortage 21 = .ok (.iload_n 1, 1) := by decide +kernel
theorem dX11_shortage_22 : decode cX11_shortage 22 = .ok (.iconst 0, 1) := by decide +kernel
theorem dX11_shortage_23 : decode cX11_shortage 23 = .ok (.invokevirtual 291, 3) := by decide +kernel
theorem dX11_shortage_26 : decode cX11_shortage 26 = .ok (.ireturn, 1) := by decide +kernel
theorem dX11_mightCome_0 : decode cX11_mightCome 0 = .ok (.aload_n 0, 1) := by decide +kernel
theorem dX11_mightCome_1 : decode cX11_mightCome 1 = .ok (.iload_n 1, 1) := by decide +kernel
theorem dX11_mightCome_2 : decode cX11_mightCome 2 = .ok (.iload_n 2, 1) := by decide +kernel
theorem dX11_mightCome_3 : decode cX11_mightCome 3 = .ok (.iload_n 3, 1) := by decide +kernel
theorem dX11_mightCome_4 : decode cX11_mightCome 4 = .ok (.iload 4, 2) := by decide +kernel
theorem dX11_mightCome_6 : decode cX11_mightCome 6 = .ok (.iload 5, 2) := by decide +kernel
theorem dX11_mightCome_8 : decode cX11_mightCome 8 = .ok (.invokevirtual 153, 3) := by decide +kernel
theorem dX11_mightCome_11 : decode cX11_mightCome 11 = .ok (.ifCond .eq 16, 3) := by decide +kernel
theorem dX11_mightCome_14 : decode cX11_mightCome 14 = .ok (.iload 6, 2) := by decide +kernel
theorem dX11_mightCome_16 : decode cX11_mightCome 16 = .ok (.i2l, 1) := by decide +kernel
theorem dX11_mightCome_17 : decode cX11_mightCome 17 = .ok (.lconst 0, 1) := by decide +kernel
theorem dX11_mightCome_18 : decode cX11_mightCome 18 = .ok (.ldc2_w 277, 3) := by decide +kernel
theorem dX11_mightCome_21 : decode cX11_mightCome 21 = .ok (.invokestatic 110, 3) := by decide +kernel
theorem dX11_mightCome_24 : decode cX11_mightCome 24 = .ok (.ifCond .ne 6, 3) := by decide +kernel
theorem dX11_mightCome_27 : decode cX11_mightCome 27 = .ok (.bipush (-2), 2) := by decide +kernel
theorem dX11_mightCome_29 : decode cX11_mightCome 29 = .ok (.ireturn, 1) := by decide +kernel
theorem dX11_mightCome_30 : decode cX11_mightCome 30 = .ok (.aload_n 0, 1) := by decide +kernel
theorem dX11_mightCome_31 : decode cX11_mightCome 31 = .ok (.getfield 285, 3) := by decide +kernel
theorem dX11_mightCome_34 : decode cX11_mightCome 34 = .ok (.bipush 8, 2) := by decide +kernel
theorem dX11_mightCome_36 : decode cX11_mightCome 36 = .ok (.if_icmp .ne 6, 3) := by decide +kernel
theorem dX11_mightCome_39 : decode cX11_mightCome 39 = .ok (.bipush (-3), 2) := by decide +kernel
theorem dX11_mightCome_41 : decode cX11_mightCome 41 = .ok (.ireturn, 1) := by decide +kernel
theorem dX11_mightCome_42 : decode cX11_mightCome 42 = .ok (.aload_n 0, 1) := by decide +kernel
theorem dX11_mightCome_43 : decode cX11_mightCome 43 = .ok (.bipush 121, 2) := by decide +kernel
theorem dX11_mightCome_45 : decode cX11_mightCome 45 = .ok (.aload_n 0, 1) := by decide +kernel
theorem dX11_mightCome_46 : decode cX11_mightCome 46 = .ok (.getfield 285, 3) := by decide +kernel
theorem dX11_mightCome_49 : decode cX11_mightCome 49 = .ok (.iadd, 1) := by decide +kernel
theorem dX11_mightCome_50 : decode cX11_mightCome 50 = .ok (.iconst 0, 1) := by decide +kernel
theorem dX11_mightCome_51 : decode cX11_mightCome 51 = .ok (.iload_n 1, 1) := by decide +kernel
theorem dX11_mightCome_52 : decode cX11_mightCome 52 = .ok (.iload_n 2, 1) := by decide +kernel
theorem dX11_mightCome_53 : decode cX11_mightCome 53 = .ok (.iload_n 3, 1) := by decide +kernel
theorem dX11_mightCome_54 : decode cX11_mightCome 54 = .ok (.iload 4, 2) := by decide +kernel
theorem dX11_mightCome_56 : decode cX11_mightCome 56 = .ok (.iload 4, 2) := by decide +kernel
theorem dX11_mightCome_58 : decode cX11_mightCome 58 = .ok (.iload 5, 2) := by decide +kernel
theorem dX11_mightCome_60 : decode cX11_mightCome 60 = .ok (.iconst (-1), 1) := by decide +kernel
theorem dX11_mightCome_61 : decode cX11_mightCome 61 = .ok (.invokevirtual 133, 3) := by decide +kernel
theorem dX11_mightCome_64 : decode cX11_mightCome 64 = .ok (.istore 7, 2) := by decide +kernel
theorem dX11_mightCome_66 : decode cX11_mightCome 66 = .ok (.aload_n 0, 1) := by decide +kernel
theorem dX11_mightCome_67 : decode cX11_mightCome 67 = .ok (.getfield 102, 3) := by decide +kernel
theorem dX11_mightCome_70 : decode cX11_mightCome 70 = .ok (.aload_n 0, 1) := by decide +kernel
theorem dX11_mightCome_71 : decode cX11_mightCome 71 = .ok (.getfield 285, 3) := by decide +kernel
theorem dX11_mightCome_74 : decode cX11_mightCome 74 = .ok (.iload 6, 2) := by decide +kernel
theorem dX11_mightCome_76 : decode cX11_mightCome 76 = .ok (.iastore, 1) := by decide +kernel
theorem dX11_mightCome_77 : decode cX11_mightCome 77 = .ok (.aload_n 0, 1) := by decide +kernel
theorem dX11_mightCome_78 : decode cX11_mightCome 78 = .ok (.dup, 1) := by decide +kernel
theorem dX11_mightCome_79 : decode cX11_mightCome 79 = .ok (.getfield 285, 3) := by decide +kernel
theorem dX11_mightCome_82 : decode cX11_mightCome 82 = .ok (.iconst 1, 1) := by decide +kernel
theorem dX11_mightCome_83 : decode cX11_mightCome 83 = .ok (.iadd, 1) := by decide +kernel
theorem dX11_mightCome_84 : decode cX11_mightCome 84 = .ok (.putfield 285, 3) := by decide +kernel
theorem dX11_mightCome_87 : decode cX11_mightCome 87 = .ok (.aload_n 0, 1) := by decide +kernel
theorem dX11_mightCome_88 : decode cX11_mightCome 88 = .ok (.getfield 285, 3) := by decide +kernel
theorem dX11_mightCome_91 : decode cX11_mightCome 91 = .ok (.iconst 1, 1) := by decide +kernel
theorem dX11_mightCome_92 : decode cX11_mightCome 92 = .ok (.isub, 1) := by decide +kernel
theorem dX11_mightCome_93 : decode cX11_mightCome 93 = .ok (.ireturn, 1) := by decide +kernel
theorem dX11_mayAll_0 : decode cX11_mayAll 0 = .ok (.iconst 0, 1) := by decide +kernel
theorem dX11_mayAll_1 : decode cX11_mayAll 1 = .ok (.istore_n 2, 1) := by decide +kernel
theorem dX11_mayAll_2 : decode cX11_mayAll 2 = .ok (.iconst 0, 1) := by decide +kernel
theorem dX11_mayAll_3 : decode cX11_mayAll 3 = .ok (.istore_n 3, 1) := by decide +kernel
theorem dX11_mayAll_4 : decode cX11_mayAll 4 = .ok (.iload_n 3, 1) := by decide +kernel
theorem dX11_mayAll_5 : decode cX11_mayAll 5 = .ok (.aload_n 0, 1) := by decide +kernel
theorem dX11_mayAll_6 : decode cX11_mayAll 6 = .ok (.getfield 285, 3) := by decide +kernel
theorem dX11_mayAll_9 : decode cX11_mayAll 9 = .ok (.if_icmp .ge 156, 3) := by decide +kernel
theorem dX11_mayAll_12 : decode cX11_mayAll 12 = .ok (.iload_n 1, 1) := by decide +kernel
theorem dX11_mayAll_13 : decode cX11_mayAll 13 = .ok (.iload_n 3, 1) := by decide +kernel
theorem dX11_mayAll_14 : decode cX11_mayAll 14 = .ok (.ishr, 1) := by decide +kernel
theorem dX11_mayAll_15 : decode cX11_mayAll 15 = .ok (.iconst 1, 1) := by decide +kernel
theorem dX11_mayAll_16 : decode cX11_mayAll 16 = .ok (.iand, 1) := by decide +kernel
theorem dX11_mayAll_17 : decode cX11_mayAll 17 = .ok (.ifCond .ne 6, 3) := by decide +kernel
theorem dX11_mayAll_20 : decode cX11_mayAll 20 = .ok (.goto 139, 3) := by decide +kernel
theorem dX11_mayAll_23 : decode cX11_mayAll 23 = .ok (.iinc 2 1, 3) := by decide +kernel
theorem dX11_mayAll_26 : decode cX11_mayAll 26 = .ok (.bipush 121, 2) := by decide +kernel
theorem dX11_mayAll_28 : decode cX11_mayAll 28 = .ok (.iload_n 3, 1) := by decide +kernel
theorem dX11_mayAll_29 : decode cX11_mayAll 29 = .ok (.iadd, 1) := by decide +kernel
theorem dX11_mayAll_30 : decode cX11_mayAll 30 = .ok (.istore 4, 2) := by decide +kernel
theorem dX11_mayAll_32 : decode cX11_mayAll 32 = .ok (.aload_n 0, 1) := by decide +kernel
theorem dX11_mayAll_33 : decode cX11_mayAll 33 = .ok (.getfield 28, 3) := by decide +kernel
theorem dX11_mayAll_36 : decode cX11_mayAll 36 = .ok (.iload 4, 2) := by decide +kernel
theorem dX11_mayAll_38 : decode cX11_mayAll 38 = .ok (.iaload, 1) := by decide +kernel
theorem dX11_mayAll_39 : decode cX11_mayAll 39 = .ok (.istore 5, 2) := by decide +kernel
theorem dX11_mayAll_41 : decode cX11_mayAll 41 = .ok (.iload 5, 2) := by decide +kernel
theorem dX11_mayAll_43 : decode cX11_mayAll 43 = .ok (.aload_n 0, 1) := by decide +kernel
theorem dX11_mayAll_44 : decode cX11_mayAll 44 = .ok (.getfield 114, 3) := by decide +kernel
theorem dX11_mayAll_47 : decode cX11_mayAll 47 = .ok (.if_icmp .ge 5, 3) := by decide +kernel
theorem dX11_mayAll_50 : decode cX11_mayAll 50 = .ok (.iconst 0, 1) := by decide +kernel
theorem dX11_mayAll_51 : decode cX11_mayAll 51 = .ok (.ireturn, 1) := by decide +kernel
theorem dX11_mayAll_52 : decode cX11_mayAll 52 = .ok (.iconst 0, 1) := by decide +kernel
theorem dX11_mayAll_53 : decode cX11_mayAll 53 = .ok (.istore 6, 2) := by decide +kernel
theorem dX11_mayAll_55 : decode cX11_mayAll 55 = .ok (.iload 6, 2) := by decide +kernel
theorem dX11_mayAll_57 : decode cX11_mayAll 57 = .ok (.aload_n 0, 1) := by decide +kernel
theorem dX11_mayAll_58 : decode cX11_mayAll 58 = .ok (.getfield 130, 3) := by decide +kernel
theorem dX11_mayAll_61 : decode cX11_mayAll 61 = .ok (.if_icmp .ge 33, 3) := by decide +kernel
theorem dX11_mayAll_64 : decode cX11_mayAll 64 = .ok (.aload_n 0, 1) := by decide +kernel
theorem dX11_mayAll_65 : decode cX11_mayAll 65 = .ok (.iload 6, 2) := by decide +kernel
theorem dX11_mayAll_67 : decode cX11_mayAll 67 = .ok (.iload 5, 2) := by decide +kernel
theorem dX11_mayAll_69 : decode cX11_mayAll 69 = .ok (.invokevirtual 197, 3) := by decide +kernel
theorem dX11_mayAll_72 : decode cX11_mayAll 72 = .ok (.ifCond .eq 16, 3) := by decide +kernel
theorem dX11_mayAll_75 : decode cX11_mayAll 75 = .ok (.aload_n 0, 1) := by decide +kernel
theorem dX11_mayAll_76 : decode cX11_mayAll 76 = .ok (.iload 4, 2) := by decide +kernel
theorem dX11_mayAll_78 : decode cX11_mayAll 78 = .ok (.iload 6, 2) := by decide +kernel
theorem dX11_mayAll_80 : decode cX11_mayAll 80 = .ok (.invokevirtual 200, 3) := by decide +kernel
theorem dX11_mayAll_83 : decode cX11_mayAll 83 = .ok (.ifCond .eq 5, 3) := by decide +kernel
theorem dX11_mayAll_86 : decode cX11_mayAll 86 = .ok (.iconst 0, 1) := by decide +kernel
theorem dX11_mayAll_87 : decode cX11_mayAll 87 = .ok (.ireturn, 1) := by decide +kernel
theorem dX11_mayAll_88 : decode cX11_mayAll 88 = .ok (.iinc 6 1, 3) := by decide +kernel
theorem dX11_mayAll_91 : decode cX11_mayAll 91 = .ok (.goto (-36), 3) := by decide +kernel
theorem dX11_mayAll_94 : decode cX11_mayAll 94 = .ok (.iconst 0, 1) := by decide +kernel
theorem dX11_mayAll_95 : decode cX11_mayAll 95 = .ok (.istore 6, 2) := by decide +kernel
theorem dX11_mayAll_97 : decode cX11_mayAll 97 = .ok (.iload 6, 2) := by decide +kernel
theorem dX11_mayAll_99 : decode cX11_mayAll 99 = .ok (.aload_n 0, 1) := by decide +kernel
theorem dX11_mayAll_100 : decode cX11_mayAll 100 = .ok (.getfield 285, 3) := by decide +kernel
theorem dX11_mayAll_103 : decode cX11_mayAll 103 = .ok (.if_icmp .ge 56, 3) := by decide +kernel
theorem dX11_mayAll_106 : decode cX11_mayAll 106 = .ok (.iload 6, 2) := by decide +kernel
theorem dX11_mayAll_108 : decode cX11_mayAll 108 = .ok (.iload_n 3, 1) := by decide +kernel
theorem dX11_mayAll_109 : decode cX11_mayAll 109 = .ok (.if_icmp .eq 44, 3) := by decide +kernel
theorem dX11_mayAll_112 : decode cX11_mayAll 112 = .ok (.iload_n 1, 1) := by decide +kernel
theorem dX11_mayAll_113 : decode cX11_mayAll 113 = .ok (.iload 6, 2) := by decide +kernel
theorem dX11_mayAll_115 : decode cX11_mayAll 115 = .ok (.ishr, 1) := by decide +kernel
theorem dX11_mayAll_116 : decode cX11_mayAll 116 = .ok (.iconst 1, 1) := by decide +kernel
theorem dX11_mayAll_117 : decode cX11_mayAll 117 = .ok (.iand, 1) := by decide +kernel
theorem dX11_mayAll_118 : decode cX11_mayAll 118 = .ok (.iconst 1, 1) := by decide +kernel
theorem dX11_mayAll_119 : decode cX11_mayAll 119 = .ok (.if_icmp .ne 34, 3) := by decide +kernel
theorem dX11_mayAll_122 : decode cX11_mayAll 122 = .ok (.aload_n 0, 1) := by decide +kernel
theorem dX11_mayAll_123 : decode cX11_mayAll 123 = .ok (.getfield 28, 3) := by decide +kernel
theorem dX11_mayAll_126 : decode cX11_mayAll 126 = .ok (.bipush 121, 2) := by decide +kernel
theorem dX11_mayAll_128 : decode cX11_mayAll 128 = .ok (.iload 6, 2) := by decide +kernel
theorem dX11_mayAll_130 : decode cX11_mayAll 130 = .ok (.iadd, 1) := by decide +kernel
theorem dX11_mayAll_131 : decode cX11_mayAll 131 = .ok (.iaload, 1) := by decide +kernel
theorem dX11_mayAll_132 : decode cX11_mayAll 132 = .ok (.iload 5, 2) := by decide +kernel
theorem dX11_mayAll_134 : decode cX11_mayAll 134 = .ok (.if_icmp .gt 19, 3) := by decide +kernel
theorem dX11_mayAll_137 : decode cX11_mayAll 137 = .ok (.aload_n 0, 1) := by decide +kernel
theorem dX11_mayAll_138 : decode cX11_mayAll 138 = .ok (.iload 4, 2) := by decide +kernel
theorem dX11_mayAll_140 : decode cX11_mayAll 140 = .ok (.bipush 121, 2) := by decide +kernel
theorem dX11_mayAll_142 : decode cX11_mayAll 142 = .ok (.iload 6, 2) := by decide +kernel
theorem dX11_mayAll_144 : decode cX11_mayAll 144 = .ok (.iadd, 1) := by decide +kernel
theorem dX11_mayAll_145 : decode cX11_mayAll 145 = .ok (.invokevirtual 200, 3) := by decide +kernel
theorem dX11_mayAll_148 : decode cX11_mayAll 148 = .ok (.ifCond .eq 5, 3) := by decide +kernel
theorem dX11_mayAll_151 : decode cX11_mayAll 151 = .ok (.iconst 0, 1) := by decide +kernel
theorem dX11_mayAll_152 : decode cX11_mayAll 152 = .ok (.ireturn, 1) := by decide +kernel
theorem dX11_mayAll_153 : decode cX11_mayAll 153 = .ok (.iinc 6 1, 3) := by decide +kernel
theorem dX11_mayAll_156 : decode cX11_mayAll 156 = .ok (.goto (-59), 3) := by decide +kernel
theorem dX11_mayAll_159 : decode cX11_mayAll 159 = .ok (.iinc 3 1, 3) := by decide +kernel
theorem dX11_mayAll_162 : decode cX11_mayAll 162 = .ok (.goto (-158), 3) := by decide +kernel
theorem dX11_mayAll_165 : decode cX11_mayAll 165 = .ok (.aload_n 0, 1) := by decide +kernel
theorem dX11_mayAll_166 : decode cX11_mayAll 166 = .ok (.getfield 130, 3) := by decide +kernel
theorem dX11_mayAll_169 : decode cX11_mayAll 169 = .ok (.iload_n 2, 1) := by decide +kernel
theorem dX11_mayAll_170 : decode cX11_mayAll 170 = .ok (.iadd, 1) := by decide +kernel
theorem dX11_mayAll_171 : decode cX11_mayAll 171 = .ok (.bipush 120, 2) := by decide +kernel
theorem dX11_mayAll_173 : decode cX11_mayAll 173 = .ok (.if_icmp .gt 7, 3) := by decide +kernel
theorem dX11_mayAll_176 : decode cX11_mayAll 176 = .ok (.iconst 1, 1) := by decide +kernel
theorem dX11_mayAll_177 : decode cX11_mayAll 177 = .ok (.goto 4, 3) := by decide +kernel
theorem dX11_mayAll_180 : decode cX11_mayAll 180 = .ok (.iconst 0, 1) := by decide +kernel
theorem dX11_mayAll_181 : decode cX11_mayAll 181 = .ok (.ireturn, 1) := by decide +kernel
theorem dX11_relief_0 : decode cX11_relief 0 = .ok (.iload_n 1, 1) := by decide +kernel
theorem dX11_relief_1 : decode cX11_relief 1 = .ok (.i2l, 1) := by decide +kernel
theorem dX11_relief_2 : decode cX11_relief 2 = .ok (.lconst 0, 1) := by decide +kernel
theorem dX11_relief_3 : decode cX11_relief 3 = .ok (.ldc2_w 137, 3) := by decide +kernel
theorem dX11_relief_6 : decode cX11_relief 6 = .ok (.invokestatic 110, 3) := by decide +kernel
theorem dX11_relief_9 : decode cX11_relief 9 = .ok (.ifCond .eq 15, 3) := by decide +kernel
theorem dX11_relief_12 : decode cX11_relief 12 = .ok (.iload_n 2, 1) := by decide +kernel
theorem dX11_relief_13 : decode cX11_relief 13 = .ok (.i2l, 1) := by decide +kernel
theorem dX11_relief_14 : decode cX11_relief 14 = .ok (.lconst 1, 1) := by decide +kernel
theorem dX11_relief_15 : decode cX11_relief 15 = .ok (.ldc2_w 294, 3) := by decide +kernel
theorem dX11_relief_18 : decode cX11_relief 18 = .ok (.invokestatic 110, 3) := by decide +kernel
theorem dX11_relief_21 : decode cX11_relief 21 = .ok (.ifCond .ne 6, 3) := by decide +kernel
theorem dX11_relief_24 : decode cX11_relief 24 = .ok (.bipush (-2), 2) := by decide +kernel
theorem dX11_relief_26 : decode cX11_relief 26 = .ok (.ireturn, 1) := by decide +kernel
theorem dX11_relief_27 : decode cX11_relief 27 = .ok (.aload_n 0, 1) := by decide +kernel
theorem dX11_relief_28 : decode cX11_relief 28 = .ok (.iload_n 1, 1) := by decide +kernel
theorem dX11_relief_29 : decode cX11_relief 29 = .ok (.invokevirtual 288, 3) := by decide +kernel
theorem dX11_relief_32 : decode cX11_relief 32 = .ok (.aload_n 0, 1) := by decide +kernel
theorem dX11_relief_33 : decode cX11_relief 33 = .ok (.iload_n 1, 1) := by decide +kernel
theorem dX11_relief_34 : decode cX11_relief 34 = .ok (.iconst 0, 1) := by decide +kernel
theorem dX11_relief_35 : decode cX11_relief 35 = .ok (.invokevirtual 291, 3) := by decide +kernel
theorem dX11_relief_38 : decode cX11_relief 38 = .ok (.istore_n 3, 1) := by decide +kernel
theorem dX11_relief_39 : decode cX11_relief 39 = .ok (.iload_n 3, 1) := by decide +kernel
theorem dX11_relief_40 : decode cX11_relief 40 = .ok (.iconst (-1), 1) := by decide +kernel
theorem dX11_relief_41 : decode cX11_relief 41 = .ok (.if_icmp .ne 5, 3) := by decide +kernel
theorem dX11_relief_44 : decode cX11_relief 44 = .ok (.iconst (-1), 1) := by decide +kernel
theorem dX11_relief_45 : decode cX11_relief 45 = .ok (.ireturn, 1) := by decide +kernel
theorem dX11_relief_46 : decode cX11_relief 46 = .ok (.iconst (-1), 1) := by decide +kernel
theorem dX11_relief_47 : decode cX11_relief 47 = .ok (.istore 4, 2) := by decide +kernel
theorem dX11_relief_49 : decode cX11_relief 49 = .ok (.iconst 0, 1) := by decide +kernel
theorem dX11_relief_50 : decode cX11_relief 50 = .ok (.istore 5, 2) := by decide +kernel
theorem dX11_relief_52 : decode cX11_relief 52 = .ok (.iconst 1, 1) := by decide +kernel
theorem dX11_relief_53 : decode cX11_relief 53 = .ok (.istore 6, 2) := by decide +kernel
theorem dX11_relief_55 : decode cX11_relief 55 = .ok (.iload 6, 2) := by decide +kernel
theorem dX11_relief_57 : decode cX11_relief 57 = .ok (.iconst 1, 1) := by decide +kernel
theorem dX11_relief_58 : decode cX11_relief 58 = .ok (.aload_n 0, 1) := by decide +kernel
theorem dX11_relief_59 : decode cX11_relief 59 = .ok (.getfield 285, 3) := by decide +kernel
theorem dX11_relief_62 : decode cX11_relief 62 = .ok (.ishl, 1) := by decide +kernel
theorem dX11_relief_63 : decode cX11_relief 63 = .ok (.if_icmp .ge 116, 3) := by decide +kernel
theorem dX11_relief_66 : decode cX11_relief 66 = .ok (.iconst 0, 1) := by decide +kernel
theorem dX11_relief_67 : decode cX11_relief 67 = .ok (.istore 7, 2) := by decide +kernel
theorem dX11_relief_69 : decode cX11_relief 69 = .ok (.iconst 0, 1) := by decide +kernel
theorem dX11_relief_70 : decode cX11_relief 70 = .ok (.istore 8, 2) := by decide +kernel
theorem dX11_relief_72 : decode cX11_relief 72 = .ok (.iload 8, 2) := by decide +kernel
theorem dX11_relief_74 : decode cX11_relief 74 = .ok (.aload_n 0, 1) := by decide +kernel
theorem dX11_relief_75 : decode cX11_relief 75 = .ok (.getfield 285, 3) := by decide +kernel
theorem dX11_relief_78 : decode cX11_relief 78 = .ok (.if_icmp .ge 36, 3) := by decide +kernel
theorem dX11_relief_81 : decode cX11_relief 81 = .ok (.iload 7, 2) := by decide +kernel
theorem dX11_relief_83 : decode cX11_relief 83 = .ok (.iload 6, 2) := by decide +kernel
theorem dX11_relief_85 : decode cX11_relief 85 = .ok (.iload 8, 2) := by decide +kernel
theorem dX11_relief_87 : decode cX11_relief 87 = .ok (.ishr, 1) := by decide +kernel
theorem dX11_relief_88 : decode cX11_relief 88 = .ok (.iconst 1, 1) := by decide +kernel
theorem dX11_relief_89 : decode cX11_relief 89 = .ok (.iand, 1) := by decide +kernel
theorem dX11_relief_90 : decode cX11_relief 90 = .ok (.iconst 1, 1) := by decide +kernel
theorem dX11_relief_91 : decode cX11_relief 91 = .ok (.if_icmp .ne 13, 3) := by decide +kernel
theorem dX11_relief_94 : decode cX11_relief 94 = .ok (.aload_n 0, 1) := by decide +kernel
theorem dX11_relief_95 : decode cX11_relief 95 = .ok (.getfield 102, 3) := by decide +kernel
theorem dX11_relief_98 : decode cX11_relief 98 = .ok (.iload 8, 2) := by decide +kernel
theorem dX11_relief_100 : decode cX11_relief 100 = .ok (.iaload, 1) := by decide +kernel
theorem dX11_relief_101 : decode cX11_relief 101 = .ok (.goto 4, 3) := by decide +kernel
theorem dX11_relief_104 : decode cX11_relief 104 = .ok (.iconst 0, 1) := by decide +kernel
theorem dX11_relief_105 : decode cX11_relief 105 = .ok (.iadd, 1) := by decide +kernel
theorem dX11_relief_106 : decode cX11_relief 106 = .ok (.istore 7, 2) := by decide +kernel
theorem dX11_relief_108 : decode cX11_relief 108 = .ok (.iinc 8 1, 3) := by decide +kernel
theorem dX11_relief_111 : decode cX11_relief 111 = .ok (.goto (-39), 3) := by decide +kernel
theorem dX11_relief_114 : decode cX11_relief 114 = .ok (.iload 4, 2) := by decide +kernel
theorem dX11_relief_116 : decode cX11_relief 116 = .ok (.iconst (-1), 1) := by decide +kernel
theorem dX11_relief_117 : decode cX11_relief 117 = .ok (.if_icmp .eq 10, 3) := by decide +kernel
theorem dX11_relief_120 : decode cX11_relief 120 = .ok (.iload 7, 2) := by decide +kernel
theorem dX11_relief_122 : decode cX11_relief 122 = .ok (.iload 5, 2) := by decide +kernel
theorem dX11_relief_124 : decode cX11_relief 124 = .ok (.if_icmp .ge 49, 3) := by decide +kernel
theorem dX11_relief_127 : decode cX11_relief 127 = .ok (.aload_n 0, 1) := by decide +kernel
theorem dX11_relief_128 : decode cX11_relief 128 = .ok (.iload 6, 2) := by decide +kernel
theorem dX11_relief_130 : decode cX11_relief 130 = .ok (.invokevirtual 296, 3) := by decide +kernel
theorem dX11_relief_133 : decode cX11_relief 133 = .ok (.ifCond .ne 6, 3) := by decide +kernel
theorem dX11_relief_136 : decode cX11_relief 136 = .ok (.goto 37, 3) := by decide +kernel
theorem dX11_relief_139 : decode cX11_relief 139 = .ok (.aload_n 0, 1) := by decide +kernel
theorem dX11_relief_140 : decode cX11_relief 140 = .ok (.iload_n 1, 1) := by decide +kernel
theorem dX11_relief_141 : decode cX11_relief 141 = .ok (.iload 6, 2) := by decide +kernel
theorem dX11_relief_143 : decode cX11_relief 143 = .ok (.invokevirtual 291, 3) := by decide +kernel
theorem dX11_relief_146 : decode cX11_relief 146 = .ok (.istore 8, 2) := by decide +kernel
theorem dX11_relief_148 : decode cX11_relief 148 = .ok (.iload 8, 2) := by decide +kernel
theorem dX11_relief_150 : decode cX11_relief 150 = .ok (.iconst (-1), 1) := by decide +kernel
theorem dX11_relief_151 : decode cX11_relief 151 = .ok (.if_icmp .eq 14, 3) := by decide +kernel
theorem dX11_relief_154 : decode cX11_relief 154 = .ok (.iload 8, 2) := by decide +kernel
theorem dX11_relief_156 : decode cX11_relief 156 = .ok (.iload_n 3, 1) := by decide +kernel
theorem dX11_relief_157 : decode cX11_relief 157 = .ok (.iload_n 2, 1) := by decide +kernel
theorem dX11_relief_158 : decode cX11_relief 158 = .ok (.iadd, 1) := by decide +kernel
theorem dX11_relief_159 : decode cX11_relief 159 = .ok (.if_icmp .ge 6, 3) := by decide +kernel
theorem dX11_relief_162 : decode cX11_relief 162 = .ok (.goto 11, 3) := by decide +kernel
theorem dX11_relief_165 : decode cX11_relief 165 = .ok (.iload 6, 2) := by decide +kernel
theorem dX11_relief_167 : decode cX11_relief 167 = .ok (.istore 4, 2) := by decide +kernel
theorem dX11_relief_169 : decode cX11_relief 169 = .ok (.iload 7, 2) := by decide +kernel
theorem dX11_relief_171 : decode cX11_relief 171 = .ok (.istore 5, 2) := by decide +kernel
theorem dX11_relief_173 : decode cX11_relief 173 = .ok (.iinc 6 1, 3) := by decide +kernel
theorem dX11_relief_176 : decode cX11_relief 176 = .ok (.goto (-121), 3) := by decide +kernel
theorem dX11_relief_179 : decode cX11_relief 179 = .ok (.iload 4, 2) := by decide +kernel
theorem dX11_relief_181 : decode cX11_relief 181 = .ok (.ireturn, 1) := by decide +kernel
theorem dX11_take_0 : decode cX11_take 0 = .ok (.iload_n 1, 1) := by decide +kernel
theorem dX11_take_1 : decode cX11_take 1 = .ok (.i2l, 1) := by decide +kernel
theorem dX11_take_2 : decode cX11_take 2 = .ok (.lconst 0, 1) := by decide +kernel
theorem dX11_take_3 : decode cX11_take 3 = .ok (.aload_n 0, 1) := by decide +kernel
theorem dX11_take_4 : decode cX11_take 4 = .ok (.getfield 285, 3) := by decide +kernel
theorem dX11_take_7 : decode cX11_take 7 = .ok (.iconst 1, 1) := by decide +kernel
theorem dX11_take_8 : decode cX11_take 8 = .ok (.isub, 1) := by decide +kernel
theorem dX11_take_9 : decode cX11_take 9 = .ok (.i2l, 1) := by decide +kernel
theorem dX11_take_10 : decode cX11_take 10 = .ok (.invokestatic 110, 3) := by decide +kernel
theorem dX11_take_13 : decode cX11_take 13 = .ok (.ifCond .eq 19, 3) := by decide +kernel
theorem dX11_take_16 : decode cX11_take 16 = .ok (.aload_n 0, 1) := by decide +kernel
theorem dX11_take_17 : decode cX11_take 17 = .ok (.getfield 28, 3) := by decide +kernel
theorem dX11_take_20 : decode cX11_take 20 = .ok (.bipush 121, 2) := by decide +kernel
theorem dX11_take_22 : decode cX11_take 22 = .ok (.iload_n 1, 1) := by decide +kernel
theorem dX11_take_23 : decode cX11_take 23 = .ok (.iadd, 1) := by decide +kernel
theorem dX11_take_24 : decode cX11_take 24 = .ok (.iaload, 1) := by decide +kernel
theorem dX11_take_25 : decode cX11_take 25 = .ok (.aload_n 0, 1) := by decide +kernel
theorem dX11_take_26 : decode cX11_take 26 = .ok (.getfield 114, 3) := by decide +kernel
theorem dX11_take_29 : decode cX11_take 29 = .ok (.if_icmp .ge 6, 3) := by decide +kernel
theorem dX11_take_32 : decode cX11_take 32 = .ok (.bipush (-2), 2) := by decide +kernel
theorem dX11_take_34 : decode cX11_take 34 = .ok (.ireturn, 1) := by decide +kernel
theorem dX11_take_35 : decode cX11_take 35 = .ok (.aload_n 0, 1) := by decide +kernel
theorem dX11_take_36 : decode cX11_take 36 = .ok (.getfield 130, 3) := by decide +kernel
theorem dX11_take_39 : decode cX11_take 39 = .ok (.bipush 120, 2) := by decide +kernel
theorem dX11_take_41 : decode cX11_take 41 = .ok (.if_icmp .ne 6, 3) := by decide +kernel
theorem dX11_take_44 : decode cX11_take 44 = .ok (.bipush (-3), 2) := by decide +kernel
theorem dX11_take_46 : decode cX11_take 46 = .ok (.ireturn, 1) := by decide +kernel
theorem dX11_take_47 : decode cX11_take 47 = .ok (.bipush 121, 2) := by decide +kernel
theorem dX11_take_49 : decode cX11_take 49 = .ok (.iload_n 1, 1) := by decide +kernel
theorem dX11_take_50 : decode cX11_take 50 = .ok (.iadd, 1) := by decide +kernel
theorem dX11_take_51 : decode cX11_take 51 = .ok (.istore_n 2, 1) := by decide +kernel
theorem dX11_take_52 : decode cX11_take 52 = .ok (.aload_n 0, 1) := by decide +kernel
theorem dX11_take_53 : decode cX11_take 53 = .ok (.iconst 0, 1) := by decide +kernel
theorem dX11_take_54 : decode cX11_take 54 = .ok (.aload_n 0, 1) := by decide +kernel
theorem dX11_take_55 : decode cX11_take 55 = .ok (.getfield 13, 3) := by decide +kernel
theorem dX11_take_58 : decode cX11_take 58 = .ok (.iload_n 2, 1) := by decide +kernel
theorem dX11_take_59 : decode cX11_take 59 = .ok (.iaload, 1) := by decide +kernel
theorem dX11_take_60 : decode cX11_take 60 = .ok (.aload_n 0, 1) := by decide +kernel
theorem dX11_take_61 : decode cX11_take 61 = .ok (.getfield 16, 3) := by decide +kernel
theorem dX11_take_64 : decode cX11_take 64 = .ok (.iload_n 2, 1) := by decide +kernel
theorem dX11_take_65 : decode cX11_take 65 = .ok (.iaload, 1) := by decide +kernel
theorem dX11_take_66 : decode cX11_take 66 = .ok (.aload_n 0, 1) := by decide +kernel
theorem dX11_take_67 : decode cX11_take 67 = .ok (.getfield 19, 3) := by decide +kernel
theorem dX11_take_70 : decode cX11_take 70 = .ok (.iload_n 2, 1) := by decide +kernel
theorem dX11_take_71 : decode cX11_take 71 = .ok (.iaload, 1) := by decide +kernel
theorem dX11_take_72 : decode cX11_take 72 = .ok (.aload_n 0, 1) := by decide +kernel
theorem dX11_take_73 : decode cX11_take 73 = .ok (.getfield 22, 3) := by decide +kernel
theorem dX11_take_76 : decode cX11_take 76 = .ok (.iload_n 2, 1) := by decide +kernel
theorem dX11_take_77 : decode cX11_take 77 = .ok (.iaload, 1) := by decide +kernel
theorem dX11_take_78 : decode cX11_take 78 = .ok (.aload_n 0, 1) := by decide +kernel
theorem dX11_take_79 : decode cX11_take 79 = .ok (.getfield 22, 3) := by decide +kernel
theorem dX11_take_82 : decode cX11_take 82 = .ok (.iload_n 2, 1) := by decide +kernel
theorem dX11_take_83 : decode cX11_take 83 = .ok (.iaload, 1) := by decide +kernel
theorem dX11_take_84 : decode cX11_take 84 = .ok (.aload_n 0, 1) := by decide +kernel
theorem dX11_take_85 : decode cX11_take 85 = .ok (.getfield 28, 3) := by decide +kernel
theorem dX11_take_88 : decode cX11_take 88 = .ok (.iload_n 2, 1) := by decide +kernel
theorem dX11_take_89 : decode cX11_take 89 = .ok (.iaload, 1) := by decide +kernel
theorem dX11_take_90 : decode cX11_take 90 = .ok (.iconst (-1), 1) := by decide +kernel
theorem dX11_take_91 : decode cX11_take 91 = .ok (.iconst (-1), 1) := by decide +kernel
theorem dX11_take_92 : decode cX11_take 92 = .ok (.invokevirtual 157, 3) := by decide +kernel
theorem dX11_take_95 : decode cX11_take 95 = .ok (.istore_n 3, 1) := by decide +kernel
theorem dX11_take_96 : decode cX11_take 96 = .ok (.aload_n 0, 1) := by decide +kernel
theorem dX11_take_97 : decode cX11_take 97 = .ok (.dup, 1) := by decide +kernel
theorem dX11_take_98 : decode cX11_take 98 = .ok (.getfield 285, 3) := by decide +kernel
theorem dX11_take_101 : decode cX11_take 101 = .ok (.iconst 1, 1) := by decide +kernel
theorem dX11_take_102 : decode cX11_take 102 = .ok (.isub, 1) := by decide +kernel
theorem dX11_take_103 : decode cX11_take 103 = .ok (.putfield 285, 3) := by decide +kernel
theorem dX11_take_106 : decode cX11_take 106 = .ok (.iload_n 1, 1) := by decide +kernel
theorem dX11_take_107 : decode cX11_take 107 = .ok (.istore 4, 2) := by decide +kernel
theorem dX11_take_109 : decode cX11_take 109 = .ok (.iload 4, 2) := by decide +kernel
theorem dX11_take_111 : decode cX11_take 111 = .ok (.aload_n 0, 1) := by decide +kernel
theorem dX11_take_112 : decode cX11_take 112 = .ok (.getfield 285, 3) := by decide +kernel
theorem dX11_take_115 : decode cX11_take 115 = .ok (.if_icmp .ge 89, 3) := by decide +kernel
theorem dX11_take_118 : decode cX11_take 118 = .ok (.bipush 121, 2) := by decide +kernel
theorem dX11_take_120 : decode cX11_take 120 = .ok (.iload 4, 2) := by decide +kernel
theorem dX11_take_122 : decode cX11_take 122 = .ok (.iadd, 1) := by decide +kernel
theorem dX11_take_123 : decode cX11_take 123 = .ok (.iconst 1, 1) := by decide +kernel
theorem dX11_take_124 : decode cX11_take 124 = .ok (.iadd, 1) := by decide +kernel
theorem dX11_take_125 : decode cX11_take 125 = .ok (.istore 5, 2) := by decide +kernel
theorem dX11_take_127 : decode cX11_take 127 = .ok (.aload_n 0, 1) := by decide +kernel
theorem dX11_take_128 : decode cX11_take 128 = .ok (.bipush 121, 2) := by decide +kernel
theorem dX11_take_130 : decode cX11_take 130 = .ok (.iload 4, 2) := by decide +kernel
theorem dX11_take_132 : decode cX11_take 132 = .ok (.iadd, 1) := by decide +kernel
theorem dX11_take_133 : decode cX11_take 133 = .ok (.iconst 0, 1) := by decide +kernel
theorem dX11_take_134 : decode cX11_take 134 = .ok (.aload_n 0, 1) := by decide +kernel
theorem dX11_take_135 : decode cX11_take 135 = .ok (.getfield 13, 3) := by decide +kernel
theorem dX11_take_138 : decode cX11_take 138 = .ok (.iload 5, 2) := by decide +kernel
theorem dX11_take_140 : decode cX11_take 140 = .ok (.iaload, 1) := by decide +kernel
theorem dX11_take_141 : decode cX11_take 141 = .ok (.aload_n 0, 1) := by decide +kernel
theorem dX11_take_142 : decode cX11_take 142 = .ok (.getfield 16, 3) := by decide +kernel
theorem dX11_take_145 : decode cX11_take 145 = .ok (.iload 5, 2) := by decide +kernel
theorem dX11_take_147 : decode cX11_take 147 = .ok (.iaload, 1) := by decide +kernel
theorem dX11_take_148 : decode cX11_take 148 = .ok (.aload_n 0, 1) := by decide +kernel
theorem dX11_take_149 : decode cX11_take 149 = .ok (.getfield 19, 3) := by decide +kernel
theorem dX11_take_152 : decode cX11_take 152 = .ok (.iload 5, 2) := by decide +kernel
theorem dX11_take_154 : decode cX11_take 154 = .ok (.iaload, 1) := by decide +kernel
theorem dX11_take_155 : decode cX11_take 155 = .ok (.aload_n 0, 1) := by decide +kernel
theorem dX11_take_156 : decode cX11_take 156 = .ok (.getfield 22, 3) := by decide +kernel
theorem dX11_take_159 : decode cX11_take 159 = .ok (.iload 5, 2) := by decide +kernel
theorem dX11_take_161 : decode cX11_take 161 = .ok (.iaload, 1) := by decide +kernel
theorem dX11_take_162 : decode cX11_take 162 = .ok (.aload_n 0, 1) := by decide +kernel
theorem dX11_take_163 : decode cX11_take 163 = .ok (.getfield 22, 3) := by decide +kernel
theorem dX11_take_166 : decode cX11_take 166 = .ok (.iload 5, 2) := by decide +kernel
theorem dX11_take_168 : decode cX11_take 168 = .ok (.iaload, 1) := by decide +kernel
theorem dX11_take_169 : decode cX11_take 169 = .ok (.aload_n 0, 1) := by decide +kernel
theorem dX11_take_170 : decode cX11_take 170 = .ok (.getfield 28, 3) := by decide +kernel
theorem dX11_take_173 : decode cX11_take 173 = .ok (.iload 5, 2) := by decide +kernel
theorem dX11_take_175 : decode cX11_take 175 = .ok (.iaload, 1) := by decide +kernel
theorem dX11_take_176 : decode cX11_take 176 = .ok (.iconst (-1), 1) := by decide +kernel
theorem dX11_take_177 : decode cX11_take 177 = .ok (.invokevirtual 133, 3) := by decide +kernel
theorem dX11_take_180 : decode cX11_take 180 = .ok (.istore 6, 2) := by decide +kernel
theorem dX11_take_182 : decode cX11_take 182 = .ok (.aload_n 0, 1) := by decide +kernel
theorem dX11_take_183 : decode cX11_take 183 = .ok (.getfield 102, 3) := by decide +kernel
theorem dX11_take_186 : decode cX11_take 186 = .ok (.iload 4, 2) := by decide +kernel
theorem dX11_take_188 : decode cX11_take 188 = .ok (.aload_n 0, 1) := by decide +kernel
theorem dX11_take_189 : decode cX11_take 189 = .ok (.getfield 102, 3) := by decide +kernel
theorem dX11_take_192 : decode cX11_take 192 = .ok (.iload 4, 2) := by decide +kernel
