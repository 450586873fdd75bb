theorem dX0_init_0 : decode cX0_init 0 = .ok (.aload_n 0, 1) := by decide +kernel
theorem dX0_init_1 : decode cX0_init 1 = .ok (.invokespecial 3, 3) := by decide +kernel
theorem dX0_init_4 : decode cX0_init 4 = .ok (.return_, 1) := by decide +kernel
theorem dX0_begin_0 : decode cX0_begin 0 = .ok (.aload_n 0, 1) := by decide +kernel
theorem dX0_begin_1 : decode cX0_begin 1 = .ok (.iconst 1, 1) := by decide +kernel
theorem dX0_begin_2 : decode cX0_begin 2 = .ok (.putfield 9, 3) := by decide +kernel
theorem dX0_begin_5 : decode cX0_begin 5 = .ok (.aload_n 0, 1) := by decide +kernel
theorem dX0_begin_6 : decode cX0_begin 6 = .ok (.iconst 0, 1) := by decide +kernel
theorem dX0_begin_7 : decode cX0_begin 7 = .ok (.putfield 15, 3) := by decide +kernel
theorem dX0_begin_10 : decode cX0_begin 10 = .ok (.aload_n 0, 1) := by decide +kernel
theorem dX0_begin_11 : decode cX0_begin 11 = .ok (.iload_n 1, 1) := by decide +kernel
theorem dX0_begin_12 : decode cX0_begin 12 = .ok (.putfield 18, 3) := by decide +kernel
theorem dX0_begin_15 : decode cX0_begin 15 = .ok (.aload_n 0, 1) := by decide +kernel
theorem dX0_begin_16 : decode cX0_begin 16 = .ok (.iconst (-1), 1) := by decide +kernel
theorem dX0_begin_17 : decode cX0_begin 17 = .ok (.putfield 22, 3) := by decide +kernel
theorem dX0_begin_20 : decode cX0_begin 20 = .ok (.aload_n 0, 1) := by decide +kernel
theorem dX0_begin_21 : decode cX0_begin 21 = .ok (.iconst 0, 1) := by decide +kernel
theorem dX0_begin_22 : decode cX0_begin 22 = .ok (.putfield 25, 3) := by decide +kernel
theorem dX0_begin_25 : decode cX0_begin 25 = .ok (.aload_n 0, 1) := by decide +kernel
theorem dX0_begin_26 : decode cX0_begin 26 = .ok (.lconst 1, 1) := by decide +kernel
theorem dX0_begin_27 : decode cX0_begin 27 = .ok (.putfield 28, 3) := by decide +kernel
theorem dX0_begin_30 : decode cX0_begin 30 = .ok (.return_, 1) := by decide +kernel
theorem dX0_isOpen_0 : decode cX0_isOpen 0 = .ok (.aload_n 0, 1) := by decide +kernel
theorem dX0_isOpen_1 : decode cX0_isOpen 1 = .ok (.getfield 9, 3) := by decide +kernel
theorem dX0_isOpen_4 : decode cX0_isOpen 4 = .ok (.ifCond .eq 14, 3) := by decide +kernel
theorem dX0_isOpen_7 : decode cX0_isOpen 7 = .ok (.aload_n 0, 1) := by decide +kernel
theorem dX0_isOpen_8 : decode cX0_isOpen 8 = .ok (.getfield 15, 3) := by decide +kernel
theorem dX0_isOpen_11 : decode cX0_isOpen 11 = .ok (.ifCond .ne 7, 3) := by decide +kernel
theorem dX0_isOpen_14 : decode cX0_isOpen 14 = .ok (.iconst 1, 1) := by decide +kernel
theorem dX0_isOpen_15 : decode cX0_isOpen 15 = .ok (.goto 4, 3) := by decide +kernel
theorem dX0_isOpen_18 : decode cX0_isOpen 18 = .ok (.iconst 0, 1) := by decide +kernel
theorem dX0_isOpen_19 : decode cX0_isOpen 19 = .ok (.ireturn, 1) := by decide +kernel
theorem dX0_hear_0 : decode cX0_hear 0 = .ok (.aload_n 0, 1) := by decide +kernel
theorem dX0_hear_1 : decode cX0_hear 1 = .ok (.aload_n 0, 1) := by decide +kernel
theorem dX0_hear_2 : decode cX0_hear 2 = .ok (.getfield 28, 3) := by decide +kernel
theorem dX0_hear_5 : decode cX0_hear 5 = .ok (.ldc2_w 32, 3) := by decide +kernel
theorem dX0_hear_8 : decode cX0_hear 8 = .ok (.lmul, 1) := by decide +kernel
theorem dX0_hear_9 : decode cX0_hear 9 = .ok (.iload_n 1, 1) := by decide +kernel
theorem dX0_hear_10 : decode cX0_hear 10 = .ok (.i2l, 1) := by decide +kernel
theorem dX0_hear_11 : decode cX0_hear 11 = .ok (.ladd, 1) := by decide +kernel
theorem dX0_hear_12 : decode cX0_hear 12 = .ok (.putfield 28, 3) := by decide +kernel
theorem dX0_hear_15 : decode cX0_hear 15 = .ok (.aload_n 0, 1) := by decide +kernel
theorem dX0_hear_16 : decode cX0_hear 16 = .ok (.dup, 1) := by decide +kernel
theorem dX0_hear_17 : decode cX0_hear 17 = .ok (.getfield 25, 3) := by decide +kernel
theorem dX0_hear_20 : decode cX0_hear 20 = .ok (.iconst 1, 1) := by decide +kernel
theorem dX0_hear_21 : decode cX0_hear 21 = .ok (.iadd, 1) := by decide +kernel
theorem dX0_hear_22 : decode cX0_hear 22 = .ok (.putfield 25, 3) := by decide +kernel
theorem dX0_hear_25 : decode cX0_hear 25 = .ok (.return_, 1) := by decide +kernel
theorem dX1_init_0 : decode cX1_init 0 = .ok (.aload_n 0, 1) := by decide +kernel
theorem dX1_init_1 : decode cX1_init 1 = .ok (.invokespecial 3, 3) := by decide +kernel
theorem dX1_init_4 : decode cX1_init 4 = .ok (.aload_n 0, 1) := by decide +kernel
theorem dX1_init_5 : decode cX1_init 5 = .ok (.iload_n 1, 1) := by decide +kernel
theorem dX1_init_6 : decode cX1_init 6 = .ok (.putfield 9, 3) := by decide +kernel
theorem dX1_init_9 : decode cX1_init 9 = .ok (.return_, 1) := by decide +kernel
theorem dX1_askedIn_0 : decode cX1_askedIn 0 = .ok (.aload_n 0, 1) := by decide +kernel
theorem dX1_askedIn_1 : decode cX1_askedIn 1 = .ok (.getfield 15, 3) := by decide +kernel
theorem dX1_askedIn_4 : decode cX1_askedIn 4 = .ok (.i2l, 1) := by decide +kernel
theorem dX1_askedIn_5 : decode cX1_askedIn 5 = .ok (.aload_n 0, 1) := by decide +kernel
theorem dX1_askedIn_6 : decode cX1_askedIn 6 = .ok (.getfield 18, 3) := by decide +kernel
theorem dX1_askedIn_9 : decode cX1_askedIn 9 = .ok (.i2l, 1) := by decide +kernel
theorem dX1_askedIn_10 : decode cX1_askedIn 10 = .ok (.iload_n 1, 1) := by decide +kernel
theorem dX1_askedIn_11 : decode cX1_askedIn 11 = .ok (.i2l, 1) := by decide +kernel
theorem dX1_askedIn_12 : decode cX1_askedIn 12 = .ok (.lmul, 1) := by decide +kernel
theorem dX1_askedIn_13 : decode cX1_askedIn 13 = .ok (.ladd, 1) := by decide +kernel
theorem dX1_askedIn_14 : decode cX1_askedIn 14 = .ok (.lreturn, 1) := by decide +kernel
theorem dX1_firstAbove_0 : decode cX1_firstAbove 0 = .ok (.aload_n 0, 1) := by decide +kernel
theorem dX1_firstAbove_1 : decode cX1_firstAbove 1 = .ok (.iload_n 3, 1) := by decide +kernel
theorem dX1_firstAbove_2 : decode cX1_firstAbove 2 = .ok (.invokevirtual 21, 3) := by decide +kernel
theorem dX1_firstAbove_5 : decode cX1_firstAbove 5 = .ok (.lload_n 1, 1) := by decide +kernel
theorem dX1_firstAbove_6 : decode cX1_firstAbove 6 = .ok (.lcmp, 1) := by decide +kernel
theorem dX1_firstAbove_7 : decode cX1_firstAbove 7 = .ok (.ifCond .le 5, 3) := by decide +kernel
theorem dX1_firstAbove_10 : decode cX1_firstAbove 10 = .ok (.iload_n 3, 1) := by decide +kernel
theorem dX1_firstAbove_11 : decode cX1_firstAbove 11 = .ok (.ireturn, 1) := by decide +kernel
theorem dX1_firstAbove_12 : decode cX1_firstAbove 12 = .ok (.aload_n 0, 1) := by decide +kernel
theorem dX1_firstAbove_13 : decode cX1_firstAbove 13 = .ok (.getfield 18, 3) := by decide +kernel
theorem dX1_firstAbove_16 : decode cX1_firstAbove 16 = .ok (.ifCond .gt 7, 3) := by decide +kernel
theorem dX1_firstAbove_19 : decode cX1_firstAbove 19 = .ok (.sipush 2001, 3) := by decide +kernel
theorem dX1_firstAbove_22 : decode cX1_firstAbove 22 = .ok (.ireturn, 1) := by decide +kernel
theorem dX1_firstAbove_23 : decode cX1_firstAbove 23 = .ok (.ldc2_w 25, 3) := by decide +kernel
theorem dX1_firstAbove_26 : decode cX1_firstAbove 26 = .ok (.lload_n 1, 1) := by decide +kernel
theorem dX1_firstAbove_27 : decode cX1_firstAbove 27 = .ok (.aload_n 0, 1) := by decide +kernel
theorem dX1_firstAbove_28 : decode cX1_firstAbove 28 = .ok (.getfield 15, 3) := by decide +kernel
theorem dX1_firstAbove_31 : decode cX1_firstAbove 31 = .ok (.i2l, 1) := by decide +kernel
theorem dX1_firstAbove_32 : decode cX1_firstAbove 32 = .ok (.lsub, 1) := by decide +kernel
theorem dX1_firstAbove_33 : decode cX1_firstAbove 33 = .ok (.aload_n 0, 1) := by decide +kernel
theorem dX1_firstAbove_34 : decode cX1_firstAbove 34 = .ok (.getfield 18, 3) := by decide +kernel
theorem dX1_firstAbove_37 : decode cX1_firstAbove 37 = .ok (.i2l, 1) := by decide +kernel
theorem dX1_firstAbove_38 : decode cX1_firstAbove 38 = .ok (.ldiv, 1) := by decide +kernel
theorem dX1_firstAbove_39 : decode cX1_firstAbove 39 = .ok (.lconst 1, 1) := by decide +kernel
theorem dX1_firstAbove_40 : decode cX1_firstAbove 40 = .ok (.ladd, 1) := by decide +kernel
theorem dX1_firstAbove_41 : decode cX1_firstAbove 41 = .ok (.invokestatic 27, 3) := by decide +kernel
theorem dX1_firstAbove_44 : decode cX1_firstAbove 44 = .ok (.l2i, 1) := by decide +kernel
theorem dX1_firstAbove_45 : decode cX1_firstAbove 45 = .ok (.ireturn, 1) := by decide +kernel
theorem dX2_init_0 : decode cX2_init 0 = .ok (.aload_n 0, 1) := by decide +kernel
theorem dX2_init_1 : decode cX2_init 1 = .ok (.invokespecial 3, 3) := by decide +kernel
theorem dX2_init_4 : decode cX2_init 4 = .ok (.aload_n 0, 1) := by decide +kernel
theorem dX2_init_5 : decode cX2_init 5 = .ok (.iload_n 1, 1) := by decide +kernel
theorem dX2_init_6 : decode cX2_init 6 = .ok (.putfield 9, 3) := by decide +kernel
theorem dX2_init_9 : decode cX2_init 9 = .ok (.aload_n 0, 1) := by decide +kernel
theorem dX2_init_10 : decode cX2_init 10 = .ok (.iload_n 2, 1) := by decide +kernel
theorem dX2_init_11 : decode cX2_init 11 = .ok (.putfield 15, 3) := by decide +kernel
theorem dX2_init_14 : decode cX2_init 14 = .ok (.aload_n 0, 1) := by decide +kernel
theorem dX2_init_15 : decode cX2_init 15 = .ok (.iload_n 3, 1) := by decide +kernel
theorem dX2_init_16 : decode cX2_init 16 = .ok (.putfield 18, 3) := by decide +kernel
theorem dX2_init_19 : decode cX2_init 19 = .ok (.aload_n 0, 1) := by decide +kernel
theorem dX2_init_20 : decode cX2_init 20 = .ok (.iload_n 3, 1) := by decide +kernel
theorem dX2_init_21 : decode cX2_init 21 = .ok (.i2l, 1) := by decide +kernel
theorem dX2_init_22 : decode cX2_init 22 = .ok (.invokestatic 21, 3) := by decide +kernel
theorem dX2_init_25 : decode cX2_init 25 = .ok (.putfield 25, 3) := by decide +kernel
theorem dX2_init_28 : decode cX2_init 28 = .ok (.aload_n 0, 1) := by decide +kernel
theorem dX2_init_29 : decode cX2_init 29 = .ok (.iload 4, 2) := by decide +kernel
theorem dX2_init_31 : decode cX2_init 31 = .ok (.putfield 28, 3) := by decide +kernel
theorem dX2_init_34 : decode cX2_init 34 = .ok (.aload_n 0, 1) := by decide +kernel
theorem dX2_init_35 : decode cX2_init 35 = .ok (.iload 5, 2) := by decide +kernel
theorem dX2_init_37 : decode cX2_init 37 = .ok (.putfield 31, 3) := by decide +kernel
theorem dX2_init_40 : decode cX2_init 40 = .ok (.aload_n 0, 1) := by decide +kernel
theorem dX2_init_41 : decode cX2_init 41 = .ok (.iload 6, 2) := by decide +kernel
theorem dX2_init_43 : decode cX2_init 43 = .ok (.putfield 34, 3) := by decide +kernel
theorem dX2_init_46 : decode cX2_init 46 = .ok (.aload_n 0, 1) := by decide +kernel
theorem dX2_init_47 : decode cX2_init 47 = .ok (.iload 7, 2) := by decide +kernel
theorem dX2_init_49 : decode cX2_init 49 = .ok (.putfield 37, 3) := by decide +kernel
theorem dX2_init_52 : decode cX2_init 52 = .ok (.aload_n 0, 1) := by decide +kernel
theorem dX2_init_53 : decode cX2_init 53 = .ok (.bipush 8, 2) := by decide +kernel
theorem dX2_init_55 : decode cX2_init 55 = .ok (.newarray .int, 2) := by decide +kernel
theorem dX2_init_57 : decode cX2_init 57 = .ok (.putfield 40, 3) := by decide +kernel
theorem dX2_init_60 : decode cX2_init 60 = .ok (.iconst 0, 1) := by decide +kernel
theorem dX2_init_61 : decode cX2_init 61 = .ok (.istore 8, 2) := by decide +kernel
theorem dX2_init_63 : decode cX2_init 63 = .ok (.iload 8, 2) := by decide +kernel
theorem dX2_init_65 : decode cX2_init 65 = .ok (.aload_n 0, 1) := by decide +kernel
theorem dX2_init_66 : decode cX2_init 66 = .ok (.getfield 40, 3) := by decide +kernel
theorem dX2_init_69 : decode cX2_init 69 = .ok (.arraylength, 1) := by decide +kernel
theorem dX2_init_70 : decode cX2_init 70 = .ok (.if_icmp .ge 42, 3) := by decide +kernel
theorem dX2_init_73 : decode cX2_init 73 = .ok (.aload_n 0, 1) := by decide +kernel
theorem dX2_init_74 : decode cX2_init 74 = .ok (.getfield 40, 3) := by decide +kernel
theorem dX2_init_77 : decode cX2_init 77 = .ok (.iload 8, 2) := by decide +kernel
theorem dX2_init_79 : decode cX2_init 79 = .ok (.iload 8, 2) := by decide +kernel
theorem dX2_init_81 : decode cX2_init 81 = .ok (.aload_n 0, 1) := by decide +kernel
theorem dX2_init_82 : decode cX2_init 82 = .ok (.getfield 25, 3) := by decide +kernel
theorem dX2_init_85 : decode cX2_init 85 = .ok (.if_icmp .ge 17, 3) := by decide +kernel
theorem dX2_init_88 : decode cX2_init 88 = .ok (.iload_n 3, 1) := by decide +kernel
theorem dX2_init_89 : decode cX2_init 89 = .ok (.i2l, 1) := by decide +kernel
theorem dX2_init_90 : decode cX2_init 90 = .ok (.aload_n 0, 1) := by decide +kernel
theorem dX2_init_91 : decode cX2_init 91 = .ok (.getfield 25, 3) := by decide +kernel
theorem dX2_init_94 : decode cX2_init 94 = .ok (.iload 8, 2) := by decide +kernel
theorem dX2_init_96 : decode cX2_init 96 = .ok (.invokestatic 44, 3) := by decide +kernel
theorem dX2_init_99 : decode cX2_init 99 = .ok (.goto 6, 3) := by decide +kernel
theorem dX2_init_102 : decode cX2_init 102 = .ok (.sipush 1023, 3) := by decide +kernel
theorem dX2_init_105 : decode cX2_init 105 = .ok (.iastore, 1) := by decide +kernel
theorem dX2_init_106 : decode cX2_init 106 = .ok (.iinc 8 1, 3) := by decide +kernel
theorem dX2_init_109 : decode cX2_init 109 = .ok (.goto (-46), 3) := by decide +kernel
theorem dX2_init_112 : decode cX2_init 112 = .ok (.iload 4, 2) := by decide +kernel
theorem dX2_init_114 : decode cX2_init 114 = .ok (.ifCond .eq 33, 3) := by decide +kernel
theorem dX2_init_117 : decode cX2_init 117 = .ok (.aload_n 0, 1) := by decide +kernel
theorem dX2_init_118 : decode cX2_init 118 = .ok (.getfield 25, 3) := by decide +kernel
theorem dX2_init_121 : decode cX2_init 121 = .ok (.ifCond .lt 26, 3) := by decide +kernel
theorem dX2_init_124 : decode cX2_init 124 = .ok (.aload_n 0, 1) := by decide +kernel
theorem dX2_init_125 : decode cX2_init 125 = .ok (.getfield 25, 3) := by decide +kernel
theorem dX2_init_128 : decode cX2_init 128 = .ok (.aload_n 0, 1) := by decide +kernel
theorem dX2_init_129 : decode cX2_init 129 = .ok (.getfield 40, 3) := by decide +kernel
theorem dX2_init_132 : decode cX2_init 132 = .ok (.arraylength, 1) := by decide +kernel
theorem dX2_init_133 : decode cX2_init 133 = .ok (.if_icmp .ge 14, 3) := by decide +kernel
theorem dX2_init_136 : decode cX2_init 136 = .ok (.aload_n 0, 1) := by decide +kernel
theorem dX2_init_137 : decode cX2_init 137 = .ok (.getfield 40, 3) := by decide +kernel
theorem dX2_init_140 : decode cX2_init 140 = .ok (.aload_n 0, 1) := by decide +kernel
theorem dX2_init_141 : decode cX2_init 141 = .ok (.getfield 25, 3) := by decide +kernel
theorem dX2_init_144 : decode cX2_init 144 = .ok (.iload 4, 2) := by decide +kernel
theorem dX2_init_146 : decode cX2_init 146 = .ok (.iastore, 1) := by decide +kernel
theorem dX2_init_147 : decode cX2_init 147 = .ok (.aload_n 0, 1) := by decide +kernel
theorem dX2_init_148 : decode cX2_init 148 = .ok (.iconst (-1), 1) := by decide +kernel
theorem dX2_init_149 : decode cX2_init 149 = .ok (.putfield 48, 3) := by decide +kernel
theorem dX2_init_152 : decode cX2_init 152 = .ok (.aload_n 0, 1) := by decide +kernel
theorem dX2_init_153 : decode cX2_init 153 = .ok (.iconst (-1), 1) := by decide +kernel
theorem dX2_init_154 : decode cX2_init 154 = .ok (.putfield 51, 3) := by decide +kernel
theorem dX2_init_157 : decode cX2_init 157 = .ok (.aload_n 0, 1) := by decide +kernel
theorem dX2_init_158 : decode cX2_init 158 = .ok (.iconst (-1), 1) := by decide +kernel
theorem dX2_init_159 : decode cX2_init 159 = .ok (.putfield 54, 3) := by decide +kernel
theorem dX2_init_162 : decode cX2_init 162 = .ok (.aload_n 0, 1) := by decide +kernel
theorem dX2_init_163 : decode cX2_init 163 = .ok (.iconst (-1), 1) := by decide +kernel
theorem dX2_init_164 : decode cX2_init 164 = .ok (.putfield 57, 3) := by decide +kernel
theorem dX2_init_167 : decode cX2_init 167 = .ok (.return_, 1) := by decide +kernel
theorem dX2_tell_0 : decode cX2_tell 0 = .ok (.iload_n 1, 1) := by decide +kernel
theorem dX2_tell_1 : decode cX2_tell 1 = .ok (.tableswitch 96 0 8 #[51, 56, 61, 66, 71, 76, 81, 86, 91], 51) := by decide +kernel
theorem dX2_tell_52 : decode cX2_tell 52 = .ok (.aload_n 0, 1) := by decide +kernel
theorem dX2_tell_53 : decode cX2_tell 53 = .ok (.getfield 9, 3) := by decide +kernel
theorem dX2_tell_56 : decode cX2_tell 56 = .ok (.ireturn, 1) := by decide +kernel
theorem dX2_tell_57 : decode cX2_tell 57 = .ok (.aload_n 0, 1) := by decide +kernel
theorem dX2_tell_58 : decode cX2_tell 58 = .ok (.getfield 15, 3) := by decide +kernel
theorem dX2_tell_61 : decode cX2_tell 61 = .ok (.ireturn, 1) := by decide +kernel
theorem dX2_tell_62 : decode cX2_tell 62 = .ok (.aload_n 0, 1) := by decide +kernel
theorem dX2_tell_63 : decode cX2_tell 63 = .ok (.getfield 18, 3) := by decide +kernel
theorem dX2_tell_66 : decode cX2_tell 66 = .ok (.ireturn, 1) := by decide +kernel
theorem dX2_tell_67 : decode cX2_tell 67 = .ok (.aload_n 0, 1) := by decide +kernel
theorem dX2_tell_68 : decode cX2_tell 68 = .ok (.getfield 28, 3) := by decide +kernel
theorem dX2_tell_71 : decode cX2_tell 71 = .ok (.ireturn, 1) := by decide +kernel
theorem dX2_tell_72 : decode cX2_tell 72 = .ok (.aload_n 0, 1) := by decide +kernel
theorem dX2_tell_73 : decode cX2_tell 73 = .ok (.getfield 31, 3) := by decide +kernel
theorem dX2_tell_76 : decode cX2_tell 76 = .ok (.ireturn, 1) := by decide +kernel
theorem dX2_tell_77 : decode cX2_tell 77 = .ok (.aload_n 0, 1) := by decide +kernel
theorem dX2_tell_78 : decode cX2_tell 78 = .ok (.getfield 34, 3) := by decide +kernel
theorem dX2_tell_81 : decode cX2_tell 81 = .ok (.ireturn, 1) := by decide +kernel
theorem dX2_tell_82 : decode cX2_tell 82 = .ok (.aload_n 0, 1) := by decide +kernel
theorem dX2_tell_83 : decode cX2_tell 83 = .ok (.getfield 37, 3) := by decide +kernel
theorem dX2_tell_86 : decode cX2_tell 86 = .ok (.ireturn, 1) := by decide +kernel
theorem dX2_tell_87 : decode cX2_tell 87 = .ok (.aload_n 0, 1) := by decide +kernel
theorem dX2_tell_88 : decode cX2_tell 88 = .ok (.getfield 51, 3) := by decide +kernel
theorem dX2_tell_91 : decode cX2_tell 91 = .ok (.ireturn, 1) := by decide +kernel
theorem dX2_tell_92 : decode cX2_tell 92 = .ok (.aload_n 0, 1) := by decide +kernel
theorem dX2_tell_93 : decode cX2_tell 93 = .ok (.getfield 54, 3) := by decide +kernel
theorem dX2_tell_96 : decode cX2_tell 96 = .ok (.ireturn, 1) := by decide +kernel
theorem dX2_tell_97 : decode cX2_tell 97 = .ok (.iconst (-1), 1) := by decide +kernel
theorem dX2_tell_98 : decode cX2_tell 98 = .ok (.ireturn, 1) := by decide +kernel
theorem dX2_isInForce_0 : decode cX2_isInForce 0 = .ok (.iload_n 1, 1) := by decide +kernel
theorem dX2_isInForce_1 : decode cX2_isInForce 1 = .ok (.aload_n 0, 1) := by decide +kernel
theorem dX2_isInForce_2 : decode cX2_isInForce 2 = .ok (.getfield 37, 3) := by decide +kernel
theorem dX2_isInForce_5 : decode cX2_isInForce 5 = .ok (.if_icmp .lt 23, 3) := by decide +kernel
theorem dX2_isInForce_8 : decode cX2_isInForce 8 = .ok (.aload_n 0, 1) := by decide +kernel
theorem dX2_isInForce_9 : decode cX2_isInForce 9 = .ok (.getfield 51, 3) := by decide +kernel
theorem dX2_isInForce_12 : decode cX2_isInForce 12 = .ok (.iconst (-1), 1) := by decide +kernel
theorem dX2_isInForce_13 : decode cX2_isInForce 13 = .ok (.if_icmp .eq 11, 3) := by decide +kernel
theorem dX2_isInForce_16 : decode cX2_isInForce 16 = .ok (.iload_n 1, 1) := by decide +kernel
theorem dX2_isInForce_17 : decode cX2_isInForce 17 = .ok (.aload_n 0, 1) := by decide +kernel
theorem dX2_isInForce_18 : decode cX2_isInForce 18 = .ok (.getfield 51, 3) := by decide +kernel
theorem dX2_isInForce_21 : decode cX2_isInForce 21 = .ok (.if_icmp .ge 7, 3) := by decide +kernel
theorem dX2_isInForce_24 : decode cX2_isInForce 24 = .ok (.iconst 1, 1) := by decide +kernel
theorem dX2_isInForce_25 : decode cX2_isInForce 25 = .ok (.goto 4, 3) := by decide +kernel
theorem dX2_isInForce_28 : decode cX2_isInForce 28 = .ok (.iconst 0, 1) := by decide +kernel
theorem dX2_isInForce_29 : decode cX2_isInForce 29 = .ok (.ireturn, 1) := by decide +kernel
theorem dX2_isInside_0 : decode cX2_isInside 0 = .ok (.iload_n 1, 1) := by decide +kernel
theorem dX2_isInside_1 : decode cX2_isInside 1 = .ok (.aload_n 0, 1) := by decide +kernel
theorem dX2_isInside_2 : decode cX2_isInside 2 = .ok (.getfield 37, 3) := by decide +kernel
theorem dX2_isInside_5 : decode cX2_isInside 5 = .ok (.if_icmp .le 23, 3) := by decide +kernel
theorem dX2_isInside_8 : decode cX2_isInside 8 = .ok (.aload_n 0, 1) := by decide +kernel
theorem dX2_isInside_9 : decode cX2_isInside 9 = .ok (.getfield 51, 3) := by decide +kernel
theorem dX2_isInside_12 : decode cX2_isInside 12 = .ok (.iconst (-1), 1) := by decide +kernel
theorem dX2_isInside_13 : decode cX2_isInside 13 = .ok (.if_icmp .eq 11, 3) := by decide +kernel
theorem dX2_isInside_16 : decode cX2_isInside 16 = .ok (.iload_n 1, 1) := by decide +kernel
theorem dX2_isInside_17 : decode cX2_isInside 17 = .ok (.aload_n 0, 1) := by decide +kernel
theorem dX2_isInside_18 : decode cX2_isInside 18 = .ok (.getfield 51, 3) := by decide +kernel
theorem dX2_isInside_21 : decode cX2_isInside 21 = .ok (.if_icmp .ge 7, 3) := by decide +kernel
theorem dX2_isInside_24 : decode cX2_isInside 24 = .ok (.iconst 1, 1) := by decide +kernel
theorem dX2_isInside_25 : decode cX2_isInside 25 = .ok (.goto 4, 3) := by decide +kernel
theorem dX2_isInside_28 : decode cX2_isInside 28 = .ok (.iconst 0, 1) := by decide +kernel
theorem dX2_isInside_29 : decode cX2_isInside 29 = .ok (.ireturn, 1) := by decide +kernel
theorem dX2_placesBehind_0 : decode cX2_placesBehind 0 = .ok (.aload_n 0, 1) := by decide +kernel
theorem dX2_placesBehind_1 : decode cX2_placesBehind 1 = .ok (.getfield 31, 3) := by decide +kernel
theorem dX2_placesBehind_4 : decode cX2_placesBehind 4 = .ok (.aload_n 0, 1) := by decide +kernel
theorem dX2_placesBehind_5 : decode cX2_placesBehind 5 = .ok (.getfield 25, 3) := by decide +kernel
theorem dX2_placesBehind_8 : decode cX2_placesBehind 8 = .ok (.isub, 1) := by decide +kernel
theorem dX2_placesBehind_9 : decode cX2_placesBehind 9 = .ok (.ireturn, 1) := by decide +kernel
theorem dX2_figuresAt_0 : decode cX2_figuresAt 0 = .ok (.iload_n 1, 1) := by decide +kernel
theorem dX2_figuresAt_1 : decode cX2_figuresAt 1 = .ok (.ifCond .lt 21, 3) := by decide +kernel
theorem dX2_figuresAt_4 : decode cX2_figuresAt 4 = .ok (.iload_n 1, 1) := by decide +kernel
theorem dX2_figuresAt_5 : decode cX2_figuresAt 5 = .ok (.aload_n 0, 1) := by decide +kernel
theorem dX2_figuresAt_6 : decode cX2_figuresAt 6 = .ok (.getfield 40, 3) := by decide +kernel
theorem dX2_figuresAt_9 : decode cX2_figuresAt 9 = .ok (.arraylength, 1) := by decide +kernel
theorem dX2_figuresAt_10 : decode cX2_figuresAt 10 = .ok (.if_icmp .ge 12, 3) := by decide +kernel
theorem dX2_figuresAt_13 : decode cX2_figuresAt 13 = .ok (.aload_n 0, 1) := by decide +kernel
theorem dX2_figuresAt_14 : decode cX2_figuresAt 14 = .ok (.getfield 40, 3) := by decide +kernel
theorem dX2_figuresAt_17 : decode cX2_figuresAt 17 = .ok (.iload_n 1, 1) := by decide +kernel
theorem dX2_figuresAt_18 : decode cX2_figuresAt 18 = .ok (.iaload, 1) := by decide +kernel
theorem dX2_figuresAt_19 : decode cX2_figuresAt 19 = .ok (.goto 6, 3) := by decide +kernel
theorem dX2_figuresAt_22 : decode cX2_figuresAt 22 = .ok (.sipush 1023, 3) := by decide +kernel
theorem dX2_figuresAt_25 : decode cX2_figuresAt 25 = .ok (.ireturn, 1) := by decide +kernel
theorem dX2_fits_0 : decode cX2_fits 0 = .ok (.iload_n 3, 1) := by decide +kernel
theorem dX2_fits_1 : decode cX2_fits 1 = .ok (.aload_n 0, 1) := by decide +kernel
theorem dX2_fits_2 : decode cX2_fits 2 = .ok (.getfield 34, 3) := by decide +kernel
theorem dX2_fits_5 : decode cX2_fits 5 = .ok (.if_icmp .le 5, 3) := by decide +kernel
theorem dX2_fits_8 : decode cX2_fits 8 = .ok (.iconst 0, 1) := by decide +kernel
theorem dX2_fits_9 : decode cX2_fits 9 = .ok (.ireturn, 1) := by decide +kernel
theorem dX2_fits_10 : decode cX2_fits 10 = .ok (.iload_n 3, 1) := by decide +kernel
theorem dX2_fits_11 : decode cX2_fits 11 = .ok (.aload_n 0, 1) := by decide +kernel
theorem dX2_fits_12 : decode cX2_fits 12 = .ok (.getfield 25, 3) := by decide +kernel
theorem dX2_fits_15 : decode cX2_fits 15 = .ok (.invokestatic 60, 3) := by decide +kernel
theorem dX2_fits_18 : decode cX2_fits 18 = .ok (.istore 4, 2) := by decide +kernel
theorem dX2_fits_20 : decode cX2_fits 20 = .ok (.lload_n 1, 1) := by decide +kernel
theorem dX2_fits_21 : decode cX2_fits 21 = .ok (.iload_n 3, 1) := by decide +kernel
theorem dX2_fits_22 : decode cX2_fits 22 = .ok (.iload 4, 2) := by decide +kernel
theorem dX2_fits_24 : decode cX2_fits 24 = .ok (.isub, 1) := by decide +kernel
theorem dX2_fits_25 : decode cX2_fits 25 = .ok (.invokestatic 66, 3) := by decide +kernel
theorem dX2_fits_28 : decode cX2_fits 28 = .ok (.aload_n 0, 1) := by decide +kernel
theorem dX2_fits_29 : decode cX2_fits 29 = .ok (.getfield 18, 3) := by decide +kernel
theorem dX2_fits_32 : decode cX2_fits 32 = .ok (.i2l, 1) := by decide +kernel
theorem dX2_fits_33 : decode cX2_fits 33 = .ok (.aload_n 0, 1) := by decide +kernel
theorem dX2_fits_34 : decode cX2_fits 34 = .ok (.getfield 25, 3) := by decide +kernel
theorem dX2_fits_37 : decode cX2_fits 37 = .ok (.iload 4, 2) := by decide +kernel
theorem dX2_fits_39 : decode cX2_fits 39 = .ok (.isub, 1) := by decide +kernel
theorem dX2_fits_40 : decode cX2_fits 40 = .ok (.invokestatic 66, 3) := by decide +kernel
theorem dX2_fits_43 : decode cX2_fits 43 = .ok (.lcmp, 1) := by decide +kernel
theorem dX2_fits_44 : decode cX2_fits 44 = .ok (.ifCond .eq 5, 3) := by decide +kernel
theorem dX2_fits_47 : decode cX2_fits 47 = .ok (.iconst 0, 1) := by decide +kernel
theorem dX2_fits_48 : decode cX2_fits 48 = .ok (.ireturn, 1) := by decide +kernel
theorem dX2_fits_49 : decode cX2_fits 49 = .ok (.iload_n 3, 1) := by decide +kernel
theorem dX2_fits_50 : decode cX2_fits 50 = .ok (.aload_n 0, 1) := by decide +kernel
theorem dX2_fits_51 : decode cX2_fits 51 = .ok (.getfield 25, 3) := by decide +kernel
theorem dX2_fits_54 : decode cX2_fits 54 = .ok (.if_icmp .le 24, 3) := by decide +kernel
theorem dX2_fits_57 : decode cX2_fits 57 = .ok (.aload_n 0, 1) := by decide +kernel
theorem dX2_fits_58 : decode cX2_fits 58 = .ok (.aload_n 0, 1) := by decide +kernel
theorem dX2_fits_59 : decode cX2_fits 59 = .ok (.getfield 25, 3) := by decide +kernel
theorem dX2_fits_62 : decode cX2_fits 62 = .ok (.invokevirtual 70, 3) := by decide +kernel
theorem dX2_fits_65 : decode cX2_fits 65 = .ok (.lload_n 1, 1) := by decide +kernel
theorem dX2_fits_66 : decode cX2_fits 66 = .ok (.iload_n 3, 1) := by decide +kernel
theorem dX2_fits_67 : decode cX2_fits 67 = .ok (.aload_n 0, 1) := by decide +kernel
theorem dX2_fits_68 : decode cX2_fits 68 = .ok (.getfield 25, 3) := by decide +kernel
theorem dX2_fits_71 : decode cX2_fits 71 = .ok (.invokestatic 44, 3) := by decide +kernel
theorem dX2_fits_74 : decode cX2_fits 74 = .ok (.iand, 1) := by decide +kernel
theorem dX2_fits_75 : decode cX2_fits 75 = .ok (.ifCond .eq 7, 3) := by decide +kernel
theorem dX2_fits_78 : decode cX2_fits 78 = .ok (.iconst 1, 1) := by decide +kernel
theorem dX2_fits_79 : decode cX2_fits 79 = .ok (.goto 4, 3) := by decide +kernel
theorem dX2_fits_82 : decode cX2_fits 82 = .ok (.iconst 0, 1) := by decide +kernel
theorem dX2_fits_83 : decode cX2_fits 83 = .ok (.ireturn, 1) := by decide +kernel
theorem dX2_hasNumber_0 : decode cX2_hasNumber 0 = .ok (.iload_n 3, 1) := by decide +kernel
theorem dX2_hasNumber_1 : decode cX2_hasNumber 1 = .ok (.aload_n 0, 1) := by decide +kernel
theorem dX2_hasNumber_2 : decode cX2_hasNumber 2 = .ok (.getfield 31, 3) := by decide +kernel
theorem dX2_hasNumber_5 : decode cX2_hasNumber 5 = .ok (.if_icmp .lt 16, 3) := by decide +kernel
theorem dX2_hasNumber_8 : decode cX2_hasNumber 8 = .ok (.aload_n 0, 1) := by decide +kernel
theorem dX2_hasNumber_9 : decode cX2_hasNumber 9 = .ok (.lload_n 1, 1) := by decide +kernel
theorem dX2_hasNumber_10 : decode cX2_hasNumber 10 = .ok (.iload_n 3, 1) := by decide +kernel
theorem dX2_hasNumber_11 : decode cX2_hasNumber 11 = .ok (.invokevirtual 74, 3) := by decide +kernel
theorem dX2_hasNumber_14 : decode cX2_hasNumber 14 = .ok (.ifCond .eq 7, 3) := by decide +kernel
theorem dX2_hasNumber_17 : decode cX2_hasNumber 17 = .ok (.iconst 1, 1) := by decide +kernel
theorem dX2_hasNumber_18 : decode cX2_hasNumber 18 = .ok (.goto 4, 3) := by decide +kernel
theorem dX2_hasNumber_21 : decode cX2_hasNumber 21 = .ok (.iconst 0, 1) := by decide +kernel
theorem dX2_hasNumber_22 : decode cX2_hasNumber 22 = .ok (.ireturn, 1) := by decide +kernel
theorem dX2_hasBehind_0 : decode cX2_hasBehind 0 = .ok (.iload_n 1, 1) := by decide +kernel
theorem dX2_hasBehind_1 : decode cX2_hasBehind 1 = .ok (.i2l, 1) := by decide +kernel
theorem dX2_hasBehind_2 : decode cX2_hasBehind 2 = .ok (.invokestatic 21, 3) := by decide +kernel
theorem dX2_hasBehind_5 : decode cX2_hasBehind 5 = .ok (.istore_n 2, 1) := by decide +kernel
theorem dX2_hasBehind_6 : decode cX2_hasBehind 6 = .ok (.iload_n 2, 1) := by decide +kernel
theorem dX2_hasBehind_7 : decode cX2_hasBehind 7 = .ok (.ifCond .le 30, 3) := by decide +kernel
theorem dX2_hasBehind_10 : decode cX2_hasBehind 10 = .ok (.iload_n 2, 1) := by decide +kernel
theorem dX2_hasBehind_11 : decode cX2_hasBehind 11 = .ok (.aload_n 0, 1) := by decide +kernel
theorem dX2_hasBehind_12 : decode cX2_hasBehind 12 = .ok (.invokevirtual 78, 3) := by decide +kernel
theorem dX2_hasBehind_15 : decode cX2_hasBehind 15 = .ok (.if_icmp .ne 22, 3) := by decide +kernel
theorem dX2_hasBehind_18 : decode cX2_hasBehind 18 = .ok (.aload_n 0, 1) := by decide +kernel
theorem dX2_hasBehind_19 : decode cX2_hasBehind 19 = .ok (.getfield 28, 3) := by decide +kernel
theorem dX2_hasBehind_22 : decode cX2_hasBehind 22 = .ok (.iload_n 1, 1) := by decide +kernel
theorem dX2_hasBehind_23 : decode cX2_hasBehind 23 = .ok (.i2l, 1) := by decide +kernel
theorem dX2_hasBehind_24 : decode cX2_hasBehind 24 = .ok (.iload_n 2, 1) := by decide +kernel
theorem dX2_hasBehind_25 : decode cX2_hasBehind 25 = .ok (.iconst 0, 1) := by decide +kernel
theorem dX2_hasBehind_26 : decode cX2_hasBehind 26 = .ok (.invokestatic 44, 3) := by decide +kernel
theorem dX2_hasBehind_29 : decode cX2_hasBehind 29 = .ok (.iand, 1) := by decide +kernel
theorem dX2_hasBehind_30 : decode cX2_hasBehind 30 = .ok (.ifCond .eq 7, 3) := by decide +kernel
theorem dX2_hasBehind_33 : decode cX2_hasBehind 33 = .ok (.iconst 1, 1) := by decide +kernel
theorem dX2_hasBehind_34 : decode cX2_hasBehind 34 = .ok (.goto 4, 3) := by decide +kernel
theorem dX2_hasBehind_37 : decode cX2_hasBehind 37 = .ok (.iconst 0, 1) := by decide +kernel
theorem dX2_hasBehind_38 : decode cX2_hasBehind 38 = .ok (.ireturn, 1) := by decide +kernel
theorem dX2_numberWith_0 : decode cX2_numberWith 0 = .ok (.aload_n 0, 1) := by decide +kernel
theorem dX2_numberWith_1 : decode cX2_numberWith 1 = .ok (.invokevirtual 78, 3) := by decide +kernel
theorem dX2_numberWith_4 : decode cX2_numberWith 4 = .ok (.invokestatic 82, 3) := by decide +kernel
theorem dX2_numberWith_7 : decode cX2_numberWith 7 = .ok (.lstore_n 2, 1) := by decide +kernel
theorem dX2_numberWith_8 : decode cX2_numberWith 8 = .ok (.aload_n 0, 1) := by decide +kernel
theorem dX2_numberWith_9 : decode cX2_numberWith 9 = .ok (.getfield 18, 3) := by decide +kernel
theorem dX2_numberWith_12 : decode cX2_numberWith 12 = .ok (.i2l, 1) := by decide +kernel
theorem dX2_numberWith_13 : decode cX2_numberWith 13 = .ok (.lload_n 2, 1) := by decide +kernel
theorem dX2_numberWith_14 : decode cX2_numberWith 14 = .ok (.lmul, 1) := by decide +kernel
theorem dX2_numberWith_15 : decode cX2_numberWith 15 = .ok (.iload_n 1, 1) := by decide +kernel
theorem dX2_numberWith_16 : decode cX2_numberWith 16 = .ok (.i2l, 1) := by decide +kernel
theorem dX2_numberWith_17 : decode cX2_numberWith 17 = .ok (.lload_n 2, 1) := by decide +kernel
theorem dX2_numberWith_18 : decode cX2_numberWith 18 = .ok (.lsub, 1) := by decide +kernel
theorem dX2_numberWith_19 : decode cX2_numberWith 19 = .ok (.ladd, 1) := by decide +kernel
theorem dX2_numberWith_20 : decode cX2_numberWith 20 = .ok (.lreturn, 1) := by decide +kernel
theorem dX2_clashesWith_0 : decode cX2_clashesWith 0 = .ok (.iconst 0, 1) := by decide +kernel
theorem dX2_clashesWith_1 : decode cX2_clashesWith 1 = .ok (.istore_n 2, 1) := by decide +kernel
theorem dX2_clashesWith_2 : decode cX2_clashesWith 2 = .ok (.iload_n 2, 1) := by decide +kernel
theorem dX2_clashesWith_3 : decode cX2_clashesWith 3 = .ok (.bipush 7, 2) := by decide +kernel
theorem dX2_clashesWith_5 : decode cX2_clashesWith 5 = .ok (.if_icmp .gt 25, 3) := by decide +kernel
theorem dX2_clashesWith_8 : decode cX2_clashesWith 8 = .ok (.aload_n 0, 1) := by decide +kernel
theorem dX2_clashesWith_9 : decode cX2_clashesWith 9 = .ok (.iload_n 2, 1) := by decide +kernel
theorem dX2_clashesWith_10 : decode cX2_clashesWith 10 = .ok (.invokevirtual 70, 3) := by decide +kernel
theorem dX2_clashesWith_13 : decode cX2_clashesWith 13 = .ok (.aload_n 1, 1) := by decide +kernel
theorem dX2_clashesWith_14 : decode cX2_clashesWith 14 = .ok (.iload_n 2, 1) := by decide +kernel
theorem dX2_clashesWith_15 : decode cX2_clashesWith 15 = .ok (.invokevirtual 70, 3) := by decide +kernel
theorem dX2_clashesWith_18 : decode cX2_clashesWith 18 = .ok (.iand, 1) := by decide +kernel
theorem dX2_clashesWith_19 : decode cX2_clashesWith 19 = .ok (.ifCond .ne 5, 3) := by decide +kernel
theorem dX2_clashesWith_22 : decode cX2_clashesWith 22 = .ok (.iconst 0, 1) := by decide +kernel
theorem dX2_clashesWith_23 : decode cX2_clashesWith 23 = .ok (.ireturn, 1) := by decide +kernel
theorem dX2_clashesWith_24 : decode cX2_clashesWith 24 = .ok (.iinc 2 1, 3) := by decide +kernel
theorem dX2_clashesWith_27 : decode cX2_clashesWith 27 = .ok (.goto (-25), 3) := by decide +kernel
theorem dX2_clashesWith_30 : decode cX2_clashesWith 30 = .ok (.iconst 1, 1) := by decide +kernel
theorem dX2_clashesWith_31 : decode cX2_clashesWith 31 = .ok (.ireturn, 1) := by decide +kernel
theorem dX2_noteClash_0 : decode cX2_noteClash 0 = .ok (.iload_n 1, 1) := by decide +kernel
theorem dX2_noteClash_1 : decode cX2_noteClash 1 = .ok (.bipush 64, 2) := by decide +kernel
theorem dX2_noteClash_3 : decode cX2_noteClash 3 = .ok (.if_icmp .ge 18, 3) := by decide +kernel
theorem dX2_noteClash_6 : decode cX2_noteClash 6 = .ok (.aload_n 0, 1) := by decide +kernel
theorem dX2_noteClash_7 : decode cX2_noteClash 7 = .ok (.dup, 1) := by decide +kernel
theorem dX2_noteClash_8 : decode cX2_noteClash 8 = .ok (.getfield 86, 3) := by decide +kernel
theorem dX2_noteClash_11 : decode cX2_noteClash 11 = .ok (.lconst 1, 1) := by decide +kernel
theorem dX2_noteClash_12 : decode cX2_noteClash 12 = .ok (.iload_n 1, 1) := by decide +kernel
theorem dX2_noteClash_13 : decode cX2_noteClash 13 = .ok (.lshl, 1) := by decide +kernel
theorem dX2_noteClash_14 : decode cX2_noteClash 14 = .ok (.lor, 1) := by decide +kernel
theorem dX2_noteClash_15 : decode cX2_noteClash 15 = .ok (.putfield 86, 3) := by decide +kernel
theorem dX2_noteClash_18 : decode cX2_noteClash 18 = .ok (.goto 18, 3) := by decide +kernel
theorem dX2_noteClash_21 : decode cX2_noteClash 21 = .ok (.aload_n 0, 1) := by decide +kernel
theorem dX2_noteClash_22 : decode cX2_noteClash 22 = .ok (.dup, 1) := by decide +kernel
theorem dX2_noteClash_23 : decode cX2_noteClash 23 = .ok (.getfield 90, 3) := by decide +kernel
theorem dX2_noteClash_26 : decode cX2_noteClash 26 = .ok (.lconst 1, 1) := by decide +kernel
theorem dX2_noteClash_27 : decode cX2_noteClash 27 = .ok (.iload_n 1, 1) := by decide +kernel
theorem dX2_noteClash_28 : decode cX2_noteClash 28 = .ok (.bipush 64, 2) := by decide +kernel
theorem dX2_noteClash_30 : decode cX2_noteClash 30 = .ok (.isub, 1) := by decide +kernel
theorem dX2_noteClash_31 : decode cX2_noteClash 31 = .ok (.lshl, 1) := by decide +kernel
theorem dX2_noteClash_32 : decode cX2_noteClash 32 = .ok (.lor, 1) := by decide +kernel
theorem dX2_noteClash_33 : decode cX2_noteClash 33 = .ok (.putfield 90, 3) := by decide +kernel
theorem dX2_noteClash_36 : decode cX2_noteClash 36 = .ok (.return_, 1) := by decide +kernel
theorem dX2_hasClash_0 : decode cX2_hasClash 0 = .ok (.iload_n 1, 1) := by decide +kernel
theorem dX2_hasClash_1 : decode cX2_hasClash 1 = .ok (.bipush 64, 2) := by decide +kernel
theorem dX2_hasClash_3 : decode cX2_hasClash 3 = .ok (.if_icmp .ge 10, 3) := by decide +kernel
theorem dX2_hasClash_6 : decode cX2_hasClash 6 = .ok (.aload_n 0, 1) := by decide +kernel
theorem dX2_hasClash_7 : decode cX2_hasClash 7 = .ok (.getfield 86, 3) := by decide +kernel
theorem dX2_hasClash_10 : decode cX2_hasClash 10 = .ok (.goto 7, 3) := by decide +kernel
theorem dX2_hasClash_13 : decode cX2_hasClash 13 = .ok (.aload_n 0, 1) := by decide +kernel
theorem dX2_hasClash_14 : decode cX2_hasClash 14 = .ok (.getfield 90, 3) := by decide +kernel
theorem dX2_hasClash_17 : decode cX2_hasClash 17 = .ok (.lstore_n 2, 1) := by decide +kernel
theorem dX2_hasClash_18 : decode cX2_hasClash 18 = .ok (.lload_n 2, 1) := by decide +kernel
theorem dX2_hasClash_19 : decode cX2_hasClash 19 = .ok (.iload_n 1, 1) := by decide +kernel
theorem dX2_hasClash_20 : decode cX2_hasClash 20 = .ok (.bipush 63, 2) := by decide +kernel
theorem dX2_hasClash_22 : decode cX2_hasClash 22 = .ok (.iand, 1) := by decide +kernel
theorem dX2_hasClash_23 : decode cX2_hasClash 23 = .ok (.lshr, 1) := by decide +kernel
theorem dX2_hasClash_24 : decode cX2_hasClash 24 = .ok (.lconst 1, 1) := by decide +kernel
theorem dX2_hasClash_25 : decode cX2_hasClash 25 = .ok (.land, 1) := by decide +kernel
theorem dX2_hasClash_26 : decode cX2_hasClash 26 = .ok (.lconst 0, 1) := by decide +kernel
theorem dX2_hasClash_27 : decode cX2_hasClash 27 = .ok (.lcmp, 1) := by decide +kernel
theorem dX2_hasClash_28 : decode cX2_hasClash 28 = .ok (.ifCond .eq 7, 3) := by decide +kernel
theorem dX2_hasClash_31 : decode cX2_hasClash 31 = .ok (.iconst 1, 1) := by decide +kernel
theorem dX2_hasClash_32 : decode cX2_hasClash 32 = .ok (.goto 4, 3) := by decide +kernel
theorem dX2_hasClash_35 : decode cX2_hasClash 35 = .ok (.iconst 0, 1) := by decide +kernel
theorem dX2_hasClash_36 : decode cX2_hasClash 36 = .ok (.ireturn, 1) := by decide +kernel
theorem dX2_followedTo_0 : decode cX2_followedTo 0 = .ok (.aload_n 0, 1) := by decide +kernel
theorem dX2_followedTo_1 : decode cX2_followedTo 1 = .ok (.astore_n 3, 1) := by decide +kernel
theorem dX2_followedTo_2 : decode cX2_followedTo 2 = .ok (.iconst 0, 1) := by decide +kernel
theorem dX2_followedTo_3 : decode cX2_followedTo 3 = .ok (.istore 4, 2) := by decide +kernel
theorem dX2_followedTo_5 : decode cX2_followedTo 5 = .ok (.iload 4, 2) := by decide +kernel
theorem dX2_followedTo_7 : decode cX2_followedTo 7 = .ok (.bipush 120, 2) := by decide +kernel
theorem dX2_followedTo_9 : decode cX2_followedTo 9 = .ok (.if_icmp .ge 37, 3) := by decide +kernel
theorem dX2_followedTo_12 : decode cX2_followedTo 12 = .ok (.aload_n 3, 1) := by decide +kernel
theorem dX2_followedTo_13 : decode cX2_followedTo 13 = .ok (.ifnull 33, 3) := by decide +kernel
theorem dX2_followedTo_16 : decode cX2_followedTo 16 = .ok (.aload_n 3, 1) := by decide +kernel
theorem dX2_followedTo_17 : decode cX2_followedTo 17 = .ok (.getfield 51, 3) := by decide +kernel
theorem dX2_followedTo_20 : decode cX2_followedTo 20 = .ok (.iconst (-1), 1) := by decide +kernel
theorem dX2_followedTo_21 : decode cX2_followedTo 21 = .ok (.if_icmp .eq 11, 3) := by decide +kernel
theorem dX2_followedTo_24 : decode cX2_followedTo 24 = .ok (.iload_n 2, 1) := by decide +kernel
theorem dX2_followedTo_25 : decode cX2_followedTo 25 = .ok (.aload_n 3, 1) := by decide +kernel
theorem dX2_followedTo_26 : decode cX2_followedTo 26 = .ok (.getfield 51, 3) := by decide +kernel
theorem dX2_followedTo_29 : decode cX2_followedTo 29 = .ok (.if_icmp .ge 5, 3) := by decide +kernel
theorem dX2_followedTo_32 : decode cX2_followedTo 32 = .ok (.aload_n 3, 1) := by decide +kernel
theorem dX2_followedTo_33 : decode cX2_followedTo 33 = .ok (.areturn, 1) := by decide +kernel
theorem dX2_followedTo_34 : decode cX2_followedTo 34 = .ok (.aload_n 3, 1) := by decide +kernel
theorem dX2_followedTo_35 : decode cX2_followedTo 35 = .ok (.iload_n 1, 1) := by decide +kernel
theorem dX2_followedTo_36 : decode cX2_followedTo 36 = .ok (.invokevirtual 93, 3) := by decide +kernel
theorem dX2_followedTo_39 : decode cX2_followedTo 39 = .ok (.astore_n 3, 1) := by decide +kernel
theorem dX2_followedTo_40 : decode cX2_followedTo 40 = .ok (.iinc 4 1, 3) := by decide +kernel
theorem dX2_followedTo_43 : decode cX2_followedTo 43 = .ok (.goto (-38), 3) := by decide +kernel
theorem dX2_followedTo_46 : decode cX2_followedTo 46 = .ok (.aconst_null, 1) := by decide +kernel
theorem dX2_followedTo_47 : decode cX2_followedTo 47 = .ok (.areturn, 1) := by decide +kernel
theorem dX2_nextFor_0 : decode cX2_nextFor 0 = .ok (.aload_n 0, 1) := by decide +kernel
theorem dX2_nextFor_1 : decode cX2_nextFor 1 = .ok (.getfield 97, 3) := by decide +kernel
theorem dX2_nextFor_4 : decode cX2_nextFor 4 = .ok (.ifnull 14, 3) := by decide +kernel
theorem dX2_nextFor_7 : decode cX2_nextFor 7 = .ok (.aload_n 0, 1) := by decide +kernel
theorem dX2_nextFor_8 : decode cX2_nextFor 8 = .ok (.getfield 51, 3) := by decide +kernel
theorem dX2_nextFor_11 : decode cX2_nextFor 11 = .ok (.aload_n 0, 1) := by decide +kernel
theorem dX2_nextFor_12 : decode cX2_nextFor 12 = .ok (.getfield 57, 3) := by decide +kernel
theorem dX2_nextFor_15 : decode cX2_nextFor 15 = .ok (.if_icmp .eq 5, 3) := by decide +kernel
theorem dX2_nextFor_18 : decode cX2_nextFor 18 = .ok (.aconst_null, 1) := by decide +kernel
theorem dX2_nextFor_19 : decode cX2_nextFor 19 = .ok (.areturn, 1) := by decide +kernel
theorem dX2_nextFor_20 : decode cX2_nextFor 20 = .ok (.aload_n 0, 1) := by decide +kernel
theorem dX2_nextFor_21 : decode cX2_nextFor 21 = .ok (.getfield 97, 3) := by decide +kernel
theorem dX2_nextFor_24 : decode cX2_nextFor 24 = .ok (.getfield 28, 3) := by decide +kernel
theorem dX2_nextFor_27 : decode cX2_nextFor 27 = .ok (.iload_n 1, 1) := by decide +kernel
theorem dX2_nextFor_28 : decode cX2_nextFor 28 = .ok (.iand, 1) := by decide +kernel
theorem dX2_nextFor_29 : decode cX2_nextFor 29 = .ok (.ifCond .eq 10, 3) := by decide +kernel
theorem dX2_nextFor_32 : decode cX2_nextFor 32 = .ok (.aload_n 0, 1) := by decide +kernel
theorem dX2_nextFor_33 : decode cX2_nextFor 33 = .ok (.getfield 97, 3) := by decide +kernel
theorem dX2_nextFor_36 : decode cX2_nextFor 36 = .ok (.goto 7, 3) := by decide +kernel
theorem dX2_nextFor_39 : decode cX2_nextFor 39 = .ok (.aload_n 0, 1) := by decide +kernel
theorem dX2_nextFor_40 : decode cX2_nextFor 40 = .ok (.getfield 101, 3) := by decide +kernel
theorem dX2_nextFor_43 : decode cX2_nextFor 43 = .ok (.areturn, 1) := by decide +kernel
theorem dX2_roomOn_0 : decode cX2_roomOn 0 = .ok (.aload_n 0, 1) := by decide +kernel
theorem dX2_roomOn_1 : decode cX2_roomOn 1 = .ok (.iload_n 1, 1) := by decide +kernel
theorem dX2_roomOn_2 : decode cX2_roomOn 2 = .ok (.invokevirtual 104, 3) := by decide +kernel
theorem dX2_roomOn_5 : decode cX2_roomOn 5 = .ok (.ifCond .eq 24, 3) := by decide +kernel
theorem dX2_roomOn_8 : decode cX2_roomOn 8 = .ok (.aload_n 0, 1) := by decide +kernel
theorem dX2_roomOn_9 : decode cX2_roomOn 9 = .ok (.getfield 28, 3) := by decide +kernel
theorem dX2_roomOn_12 : decode cX2_roomOn 12 = .ok (.invokestatic 108, 3) := by decide +kernel
theorem dX2_roomOn_15 : decode cX2_roomOn 15 = .ok (.i2l, 1) := by decide +kernel
theorem dX2_roomOn_16 : decode cX2_roomOn 16 = .ok (.aload_n 0, 1) := by decide +kernel
theorem dX2_roomOn_17 : decode cX2_roomOn 17 = .ok (.invokevirtual 78, 3) := by decide +kernel
theorem dX2_roomOn_20 : decode cX2_roomOn 20 = .ok (.iconst 1, 1) := by decide +kernel
theorem dX2_roomOn_21 : decode cX2_roomOn 21 = .ok (.isub, 1) := by decide +kernel
theorem dX2_roomOn_22 : decode cX2_roomOn 22 = .ok (.invokestatic 82, 3) := by decide +kernel
theorem dX2_roomOn_25 : decode cX2_roomOn 25 = .ok (.lmul, 1) := by decide +kernel
theorem dX2_roomOn_26 : decode cX2_roomOn 26 = .ok (.goto 4, 3) := by decide +kernel
theorem dX2_roomOn_29 : decode cX2_roomOn 29 = .ok (.lconst 0, 1) := by decide +kernel
theorem dX2_roomOn_30 : decode cX2_roomOn 30 = .ok (.lreturn, 1) := by decide +kernel
theorem dX3_init_0 : decode cX3_init 0 = .ok (.aload_n 0, 1) := by decide +kernel
theorem dX3_init_1 : decode cX3_init 1 = .ok (.invokespecial 3, 3) := by decide +kernel
theorem dX3_init_4 : decode cX3_init 4 = .ok (.aload_n 0, 1) := by decide +kernel
theorem dX3_init_5 : decode cX3_init 5 = .ok (.aload_n 1, 1) := by decide +kernel
theorem dX3_init_6 : decode cX3_init 6 = .ok (.putfield 9, 3) := by decide +kernel
theorem dX3_init_9 : decode cX3_init 9 = .ok (.aload_n 0, 1) := by decide +kernel
theorem dX3_init_10 : decode cX3_init 10 = .ok (.iload_n 2, 1) := by decide +kernel
theorem dX3_init_11 : decode cX3_init 11 = .ok (.putfield 15, 3) := by decide +kernel
theorem dX3_init_14 : decode cX3_init 14 = .ok (.aload_n 0, 1) := by decide +kernel
theorem dX3_init_15 : decode cX3_init 15 = .ok (.iload_n 2, 1) := by decide +kernel
theorem dX3_init_16 : decode cX3_init 16 = .ok (.i2l, 1) := by decide +kernel
theorem dX3_init_17 : decode cX3_init 17 = .ok (.iload_n 2, 1) := by decide +kernel
theorem dX3_init_18 : decode cX3_init 18 = .ok (.i2l, 1) := by decide +kernel
theorem dX3_init_19 : decode cX3_init 19 = .ok (.invokestatic 19, 3) := by decide +kernel
theorem dX3_init_22 : decode cX3_init 22 = .ok (.iconst 0, 1) := by decide +kernel
theorem dX3_init_23 : decode cX3_init 23 = .ok (.invokestatic 23, 3) := by decide +kernel
theorem dX3_init_26 : decode cX3_init 26 = .ok (.putfield 27, 3) := by decide +kernel
theorem dX3_init_29 : decode cX3_init 29 = .ok (.aload_n 0, 1) := by decide +kernel
theorem dX3_init_30 : decode cX3_init 30 = .ok (.iload_n 3, 1) := by decide +kernel
theorem dX3_init_31 : decode cX3_init 31 = .ok (.putfield 30, 3) := by decide +kernel
theorem dX3_init_34 : decode cX3_init 34 = .ok (.aload_n 0, 1) := by decide +kernel
theorem dX3_init_35 : decode cX3_init 35 = .ok (.iconst (-1), 1) := by decide +kernel
theorem dX3_init_36 : decode cX3_init 36 = .ok (.putfield 33, 3) := by decide +kernel
theorem dX3_init_39 : decode cX3_init 39 = .ok (.return_, 1) := by decide +kernel
theorem dX3_blockOn_0 : decode cX3_blockOn 0 = .ok (.aload_n 0, 1) := by decide +kernel
theorem dX3_blockOn_1 : decode cX3_blockOn 1 = .ok (.getfield 9, 3) := by decide +kernel
theorem dX3_blockOn_4 : decode cX3_blockOn 4 = .ok (.ifnull 27, 3) := by decide +kernel
theorem dX3_blockOn_7 : decode cX3_blockOn 7 = .ok (.iload_n 1, 1) := by decide +kernel
theorem dX3_blockOn_8 : decode cX3_blockOn 8 = .ok (.aload_n 0, 1) := by decide +kernel
theorem dX3_blockOn_9 : decode cX3_blockOn 9 = .ok (.getfield 30, 3) := by decide +kernel
theorem dX3_blockOn_12 : decode cX3_blockOn 12 = .ok (.if_icmp .lt 19, 3) := by decide +kernel
theorem dX3_blockOn_15 : decode cX3_blockOn 15 = .ok (.aload_n 0, 1) := by decide +kernel
theorem dX3_blockOn_16 : decode cX3_blockOn 16 = .ok (.getfield 33, 3) := by decide +kernel
theorem dX3_blockOn_19 : decode cX3_blockOn 19 = .ok (.iconst (-1), 1) := by decide +kernel
theorem dX3_blockOn_20 : decode cX3_blockOn 20 = .ok (.if_icmp .eq 13, 3) := by decide +kernel
theorem dX3_blockOn_23 : decode cX3_blockOn 23 = .ok (.iload_n 1, 1) := by decide +kernel
theorem dX3_blockOn_24 : decode cX3_blockOn 24 = .ok (.aload_n 0, 1) := by decide +kernel
theorem dX3_blockOn_25 : decode cX3_blockOn 25 = .ok (.getfield 33, 3) := by decide +kernel
theorem dX3_blockOn_28 : decode cX3_blockOn 28 = .ok (.if_icmp .lt 5, 3) := by decide +kernel
theorem dX3_blockOn_31 : decode cX3_blockOn 31 = .ok (.aconst_null, 1) := by decide +kernel
theorem dX3_blockOn_32 : decode cX3_blockOn 32 = .ok (.areturn, 1) := by decide +kernel
theorem dX3_blockOn_33 : decode cX3_blockOn 33 = .ok (.aload_n 0, 1) := by decide +kernel
theorem dX3_blockOn_34 : decode cX3_blockOn 34 = .ok (.getfield 9, 3) := by decide +kernel
theorem dX3_blockOn_37 : decode cX3_blockOn 37 = .ok (.aload_n 0, 1) := by decide +kernel
theorem dX3_blockOn_38 : decode cX3_blockOn 38 = .ok (.getfield 27, 3) := by decide +kernel
theorem dX3_blockOn_41 : decode cX3_blockOn 41 = .ok (.iload_n 1, 1) := by decide +kernel
theorem dX3_blockOn_42 : decode cX3_blockOn 42 = .ok (.invokevirtual 36, 3) := by decide +kernel
theorem dX3_blockOn_45 : decode cX3_blockOn 45 = .ok (.areturn, 1) := by decide +kernel
theorem dX3_carrierOn_0 : decode cX3_carrierOn 0 = .ok (.aload_n 0, 1) := by decide +kernel
theorem dX3_carrierOn_1 : decode cX3_carrierOn 1 = .ok (.getfield 42, 3) := by decide +kernel
theorem dX3_carrierOn_4 : decode cX3_carrierOn 4 = .ok (.astore_n 2, 1) := by decide +kernel
theorem dX3_carrierOn_5 : decode cX3_carrierOn 5 = .ok (.iconst 0, 1) := by decide +kernel
theorem dX3_carrierOn_6 : decode cX3_carrierOn 6 = .ok (.istore_n 3, 1) := by decide +kernel
theorem dX3_carrierOn_7 : decode cX3_carrierOn 7 = .ok (.iload_n 3, 1) := by decide +kernel
theorem dX3_carrierOn_8 : decode cX3_carrierOn 8 = .ok (.sipush 500, 3) := by decide +kernel
theorem dX3_carrierOn_11 : decode cX3_carrierOn 11 = .ok (.if_icmp .ge 31, 3) := by decide +kernel
theorem dX3_carrierOn_14 : decode cX3_carrierOn 14 = .ok (.aload_n 2, 1) := by decide +kernel
theorem dX3_carrierOn_15 : decode cX3_carrierOn 15 = .ok (.ifnull 27, 3) := by decide +kernel
theorem dX3_carrierOn_18 : decode cX3_carrierOn 18 = .ok (.aload_n 2, 1) := by decide +kernel
theorem dX3_carrierOn_19 : decode cX3_carrierOn 19 = .ok (.getfield 46, 3) := by decide +kernel
theorem dX3_carrierOn_22 : decode cX3_carrierOn 22 = .ok (.iload_n 1, 1) := by decide +kernel
theorem dX3_carrierOn_23 : decode cX3_carrierOn 23 = .ok (.if_icmp .gt 8, 3) := by decide +kernel
theorem dX3_carrierOn_26 : decode cX3_carrierOn 26 = .ok (.aload_n 2, 1) := by decide +kernel
theorem dX3_carrierOn_27 : decode cX3_carrierOn 27 = .ok (.getfield 51, 3) := by decide +kernel
theorem dX3_carrierOn_30 : decode cX3_carrierOn 30 = .ok (.ireturn, 1) := by decide +kernel
theorem dX3_carrierOn_31 : decode cX3_carrierOn 31 = .ok (.aload_n 2, 1) := by decide +kernel
theorem dX3_carrierOn_32 : decode cX3_carrierOn 32 = .ok (.getfield 54, 3) := by decide +kernel
theorem dX3_carrierOn_35 : decode cX3_carrierOn 35 = .ok (.astore_n 2, 1) := by decide +kernel
theorem dX3_carrierOn_36 : decode cX3_carrierOn 36 = .ok (.iinc 3 1, 3) := by decide +kernel
theorem dX3_carrierOn_39 : decode cX3_carrierOn 39 = .ok (.goto (-32), 3) := by decide +kernel
theorem dX3_carrierOn_42 : decode cX3_carrierOn 42 = .ok (.iconst (-1), 1) := by decide +kernel
theorem dX3_carrierOn_43 : decode cX3_carrierOn 43 = .ok (.ireturn, 1) := by decide +kernel
theorem dX4_init_0 : decode cX4_init 0 = .ok (.aload_n 0, 1) := by decide +kernel
theorem dX4_init_1 : decode cX4_init 1 = .ok (.invokespecial 3, 3) := by decide +kernel
theorem dX4_init_4 : decode cX4_init 4 = .ok (.aload_n 0, 1) := by decide +kernel
theorem dX4_init_5 : decode cX4_init 5 = .ok (.sipush 300, 3) := by decide +kernel
theorem dX4_init_8 : decode cX4_init 8 = .ok (.anewarray 9, 3) := by decide +kernel
theorem dX4_init_11 : decode cX4_init 11 = .ok (.putfield 11, 3) := by decide +kernel
theorem dX4_init_14 : decode cX4_init 14 = .ok (.aload_n 0, 1) := by decide +kernel
theorem dX4_init_15 : decode cX4_init 15 = .ok (.iconst 0, 1) := by decide +kernel
theorem dX4_init_16 : decode cX4_init 16 = .ok (.putfield 17, 3) := by decide +kernel
theorem dX4_init_19 : decode cX4_init 19 = .ok (.aload_n 0, 1) := by decide +kernel
theorem dX4_init_20 : decode cX4_init 20 = .ok (.iconst 0, 1) := by decide +kernel
theorem dX4_init_21 : decode cX4_init 21 = .ok (.putfield 21, 3) := by decide +kernel
theorem dX4_init_24 : decode cX4_init 24 = .ok (.return_, 1) := by decide +kernel
theorem dX4_lineWith_0 : decode cX4_lineWith 0 = .ok (.iload_n 1, 1) := by decide +kernel
theorem dX4_lineWith_1 : decode cX4_lineWith 1 = .ok (.ifCond .lt 29, 3) := by decide +kernel
theorem dX4_lineWith_4 : decode cX4_lineWith 4 = .ok (.iload_n 1, 1) := by decide +kernel
theorem dX4_lineWith_5 : decode cX4_lineWith 5 = .ok (.aload_n 0, 1) := by decide +kernel
theorem dX4_lineWith_6 : decode cX4_lineWith 6 = .ok (.getfield 17, 3) := by decide +kernel
theorem dX4_lineWith_9 : decode cX4_lineWith 9 = .ok (.if_icmp .ge 21, 3) := by decide +kernel
theorem dX4_lineWith_12 : decode cX4_lineWith 12 = .ok (.iload_n 1, 1) := by decide +kernel
theorem dX4_lineWith_13 : decode cX4_lineWith 13 = .ok (.aload_n 0, 1) := by decide +kernel
theorem dX4_lineWith_14 : decode cX4_lineWith 14 = .ok (.getfield 11, 3) := by decide +kernel
theorem dX4_lineWith_17 : decode cX4_lineWith 17 = .ok (.arraylength, 1) := by decide +kernel
theorem dX4_lineWith_18 : decode cX4_lineWith 18 = .ok (.if_icmp .ge 12, 3) := by decide +kernel
theorem dX4_lineWith_21 : decode cX4_lineWith 21 = .ok (.aload_n 0, 1) := by decide +kernel
theorem dX4_lineWith_22 : decode cX4_lineWith 22 = .ok (.getfield 11, 3) := by decide +kernel
theorem dX4_lineWith_25 : decode cX4_lineWith 25 = .ok (.iload_n 1, 1) := by decide +kernel
theorem dX4_lineWith_26 : decode cX4_lineWith 26 = .ok (.aaload, 1) := by decide +kernel
theorem dX4_lineWith_27 : decode cX4_lineWith 27 = .ok (.goto 4, 3) := by decide +kernel
theorem dX4_lineWith_30 : decode cX4_lineWith 30 = .ok (.aconst_null, 1) := by decide +kernel
theorem dX4_lineWith_31 : decode cX4_lineWith 31 = .ok (.areturn, 1) := by decide +kernel
theorem dX4_append_0 : decode cX4_append 0 = .ok (.aload_n 0, 1) := by decide +kernel
theorem dX4_append_1 : decode cX4_append 1 = .ok (.getfield 17, 3) := by decide +kernel
theorem dX4_append_4 : decode cX4_append 4 = .ok (.aload_n 0, 1) := by decide +kernel
theorem dX4_append_5 : decode cX4_append 5 = .ok (.getfield 11, 3) := by decide +kernel
theorem dX4_append_8 : decode cX4_append 8 = .ok (.arraylength, 1) := by decide +kernel
theorem dX4_append_9 : decode cX4_append 9 = .ok (.if_icmp .lt 6, 3) := by decide +kernel
theorem dX4_append_12 : decode cX4_append 12 = .ok (.bipush (-3), 2) := by decide +kernel
theorem dX4_append_14 : decode cX4_append 14 = .ok (.ireturn, 1) := by decide +kernel
theorem dX4_append_15 : decode cX4_append 15 = .ok (.aload_n 0, 1) := by decide +kernel
theorem dX4_append_16 : decode cX4_append 16 = .ok (.getfield 11, 3) := by decide +kernel
theorem dX4_append_19 : decode cX4_append 19 = .ok (.aload_n 0, 1) := by decide +kernel
theorem dX4_append_20 : decode cX4_append 20 = .ok (.getfield 17, 3) := by decide +kernel
theorem dX4_append_23 : decode cX4_append 23 = .ok (.new 9, 3) := by decide +kernel
theorem dX4_append_26 : decode cX4_append 26 = .ok (.dup, 1) := by decide +kernel
theorem dX4_append_27 : decode cX4_append 27 = .ok (.aload_n 1, 1) := by decide +kernel
theorem dX4_append_28 : decode cX4_append 28 = .ok (.iload_n 2, 1) := by decide +kernel
theorem dX4_append_29 : decode cX4_append 29 = .ok (.iload_n 3, 1) := by decide +kernel
theorem dX4_append_30 : decode cX4_append 30 = .ok (.invokespecial 24, 3) := by decide +kernel
theorem dX4_append_33 : decode cX4_append 33 = .ok (.aastore, 1) := by decide +kernel
theorem dX4_append_34 : decode cX4_append 34 = .ok (.aload_n 0, 1) := by decide +kernel
theorem dX4_append_35 : decode cX4_append 35 = .ok (.dup, 1) := by decide +kernel
theorem dX4_append_36 : decode cX4_append 36 = .ok (.getfield 17, 3) := by decide +kernel
theorem dX4_append_39 : decode cX4_append 39 = .ok (.iconst 1, 1) := by decide +kernel
theorem dX4_append_40 : decode cX4_append 40 = .ok (.iadd, 1) := by decide +kernel
theorem dX4_append_41 : decode cX4_append 41 = .ok (.putfield 17, 3) := by decide +kernel
theorem dX4_append_44 : decode cX4_append 44 = .ok (.aload_n 0, 1) := by decide +kernel
theorem dX4_append_45 : decode cX4_append 45 = .ok (.getfield 17, 3) := by decide +kernel
theorem dX4_append_48 : decode cX4_append 48 = .ok (.iconst 1, 1) := by decide +kernel
theorem dX4_append_49 : decode cX4_append 49 = .ok (.isub, 1) := by decide +kernel
theorem dX4_append_50 : decode cX4_append 50 = .ok (.ireturn, 1) := by decide +kernel
theorem dX4_portTo_0 : decode cX4_portTo 0 = .ok (.aload_n 0, 1) := by decide +kernel
theorem dX4_portTo_1 : decode cX4_portTo 1 = .ok (.getfield 21, 3) := by decide +kernel
theorem dX4_portTo_4 : decode cX4_portTo 4 = .ok (.sipush 500, 3) := by decide +kernel
theorem dX4_portTo_7 : decode cX4_portTo 7 = .ok (.if_icmp .lt 6, 3) := by decide +kernel
theorem dX4_portTo_10 : decode cX4_portTo 10 = .ok (.bipush (-3), 2) := by decide +kernel
theorem dX4_portTo_12 : decode cX4_portTo 12 = .ok (.ireturn, 1) := by decide +kernel
theorem dX4_portTo_13 : decode cX4_portTo 13 = .ok (.aload_n 1, 1) := by decide +kernel
theorem dX4_portTo_14 : decode cX4_portTo 14 = .ok (.iload_n 3, 1) := by decide +kernel
theorem dX4_portTo_15 : decode cX4_portTo 15 = .ok (.invokevirtual 27, 3) := by decide +kernel
theorem dX4_portTo_18 : decode cX4_portTo 18 = .ok (.istore 4, 2) := by decide +kernel
theorem dX4_portTo_20 : decode cX4_portTo 20 = .ok (.aload_n 1, 1) := by decide +kernel
theorem dX4_portTo_21 : decode cX4_portTo 21 = .ok (.new 31, 3) := by decide +kernel
theorem dX4_portTo_24 : decode cX4_portTo 24 = .ok (.dup, 1) := by decide +kernel
theorem dX4_portTo_25 : decode cX4_portTo 25 = .ok (.iload_n 2, 1) := by decide +kernel
theorem dX4_portTo_26 : decode cX4_portTo 26 = .ok (.iload_n 3, 1) := by decide +kernel
theorem dX4_portTo_27 : decode cX4_portTo 27 = .ok (.aload_n 1, 1) := by decide +kernel
theorem dX4_portTo_28 : decode cX4_portTo 28 = .ok (.getfield 33, 3) := by decide +kernel
theorem dX4_portTo_31 : decode cX4_portTo 31 = .ok (.invokespecial 37, 3) := by decide +kernel
theorem dX4_portTo_34 : decode cX4_portTo 34 = .ok (.putfield 33, 3) := by decide +kernel
theorem dX4_portTo_37 : decode cX4_portTo 37 = .ok (.aload_n 0, 1) := by decide +kernel
theorem dX4_portTo_38 : decode cX4_portTo 38 = .ok (.dup, 1) := by decide +kernel
theorem dX4_portTo_39 : decode cX4_portTo 39 = .ok (.getfield 21, 3) := by decide +kernel
theorem dX4_portTo_42 : decode cX4_portTo 42 = .ok (.iconst 1, 1) := by decide +kernel
theorem dX4_portTo_43 : decode cX4_portTo 43 = .ok (.iadd, 1) := by decide +kernel
theorem dX4_portTo_44 : decode cX4_portTo 44 = .ok (.putfield 21, 3) := by decide +kernel
theorem dX4_portTo_47 : decode cX4_portTo 47 = .ok (.iload 4, 2) := by decide +kernel
theorem dX4_portTo_49 : decode cX4_portTo 49 = .ok (.ireturn, 1) := by decide +kernel
theorem dX4_findOn_0 : decode cX4_findOn 0 = .ok (.iconst 0, 1) := by decide +kernel
theorem dX4_findOn_1 : decode cX4_findOn 1 = .ok (.istore 5, 2) := by decide +kernel
theorem dX4_findOn_3 : decode cX4_findOn 3 = .ok (.iload 5, 2) := by decide +kernel
theorem dX4_findOn_5 : decode cX4_findOn 5 = .ok (.aload_n 0, 1) := by decide +kernel
theorem dX4_findOn_6 : decode cX4_findOn 6 = .ok (.getfield 17, 3) := by decide +kernel
theorem dX4_findOn_9 : decode cX4_findOn 9 = .ok (.if_icmp .ge 47, 3) := by decide +kernel
theorem dX4_findOn_12 : decode cX4_findOn 12 = .ok (.aload_n 0, 1) := by decide +kernel
theorem dX4_findOn_13 : decode cX4_findOn 13 = .ok (.iload 5, 2) := by decide +kernel
theorem dX4_findOn_15 : decode cX4_findOn 15 = .ok (.invokevirtual 40, 3) := by decide +kernel
theorem dX4_findOn_18 : decode cX4_findOn 18 = .ok (.astore 6, 2) := by decide +kernel
theorem dX4_findOn_20 : decode cX4_findOn 20 = .ok (.aload 6, 2) := by decide +kernel
theorem dX4_findOn_22 : decode cX4_findOn 22 = .ok (.ifnull 28, 3) := by decide +kernel
theorem dX4_findOn_25 : decode cX4_findOn 25 = .ok (.aload 6, 2) := by decide +kernel
theorem dX4_findOn_27 : decode cX4_findOn 27 = .ok (.getfield 44, 3) := by decide +kernel
theorem dX4_findOn_30 : decode cX4_findOn 30 = .ok (.i2l, 1) := by decide +kernel
theorem dX4_findOn_31 : decode cX4_findOn 31 = .ok (.lload_n 2, 1) := by decide +kernel
theorem dX4_findOn_32 : decode cX4_findOn 32 = .ok (.lcmp, 1) := by decide +kernel
theorem dX4_findOn_33 : decode cX4_findOn 33 = .ok (.ifCond .ne 17, 3) := by decide +kernel
theorem dX4_findOn_36 : decode cX4_findOn 36 = .ok (.aload 6, 2) := by decide +kernel
theorem dX4_findOn_38 : decode cX4_findOn 38 = .ok (.iload 4, 2) := by decide +kernel
theorem dX4_findOn_40 : decode cX4_findOn 40 = .ok (.invokevirtual 47, 3) := by decide +kernel
theorem dX4_findOn_43 : decode cX4_findOn 43 = .ok (.aload_n 1, 1) := by decide +kernel
theorem dX4_findOn_44 : decode cX4_findOn 44 = .ok (.if_acmp .ne 6, 3) := by decide +kernel
theorem dX4_findOn_47 : decode cX4_findOn 47 = .ok (.iload 5, 2) := by decide +kernel
theorem dX4_findOn_49 : decode cX4_findOn 49 = .ok (.ireturn, 1) := by decide +kernel
theorem dX4_findOn_50 : decode cX4_findOn 50 = .ok (.iinc 5 1, 3) := by decide +kernel
theorem dX4_findOn_53 : decode cX4_findOn 53 = .ok (.goto (-50), 3) := by decide +kernel
theorem dX4_findOn_56 : decode cX4_findOn 56 = .ok (.iconst (-1), 1) := by decide +kernel
theorem dX4_findOn_57 : decode cX4_findOn 57 = .ok (.ireturn, 1) := by decide +kernel
theorem dX4_findBy_0 : decode cX4_findBy 0 = .ok (.aload_n 1, 1) := by decide +kernel
theorem dX4_findBy_1 : decode cX4_findBy 1 = .ok (.getfield 51, 3) := by decide +kernel
theorem dX4_findBy_4 : decode cX4_findBy 4 = .ok (.ifCond .ne 7, 3) := by decide +kernel
theorem dX4_findBy_7 : decode cX4_findBy 7 = .ok (.aload_n 1, 1) := by decide +kernel
theorem dX4_findBy_8 : decode cX4_findBy 8 = .ok (.goto 7, 3) := by decide +kernel
theorem dX4_findBy_11 : decode cX4_findBy 11 = .ok (.aload_n 1, 1) := by decide +kernel
theorem dX4_findBy_12 : decode cX4_findBy 12 = .ok (.getfield 56, 3) := by decide +kernel
theorem dX4_findBy_15 : decode cX4_findBy 15 = .ok (.astore 6, 2) := by decide +kernel
theorem dX4_findBy_17 : decode cX4_findBy 17 = .ok (.aload 6, 2) := by decide +kernel
theorem dX4_findBy_19 : decode cX4_findBy 19 = .ok (.ifnonnull 5, 3) := by decide +kernel
theorem dX4_findBy_22 : decode cX4_findBy 22 = .ok (.iconst (-1), 1) := by decide +kernel
theorem dX4_findBy_23 : decode cX4_findBy 23 = .ok (.ireturn, 1) := by decide +kernel
theorem dX4_findBy_24 : decode cX4_findBy 24 = .ok (.aload 6, 2) := by decide +kernel
theorem dX4_findBy_26 : decode cX4_findBy 26 = .ok (.lload_n 2, 1) := by decide +kernel
theorem dX4_findBy_27 : decode cX4_findBy 27 = .ok (.iload 4, 2) := by decide +kernel
theorem dX4_findBy_29 : decode cX4_findBy 29 = .ok (.aload_n 1, 1) := by decide +kernel
theorem dX4_findBy_30 : decode cX4_findBy 30 = .ok (.getfield 60, 3) := by decide +kernel
theorem dX4_findBy_33 : decode cX4_findBy 33 = .ok (.invokestatic 63, 3) := by decide +kernel
theorem dX4_findBy_36 : decode cX4_findBy 36 = .ok (.iload 5, 2) := by decide +kernel
theorem dX4_findBy_38 : decode cX4_findBy 38 = .ok (.invokevirtual 67, 3) := by decide +kernel
theorem dX4_findBy_41 : decode cX4_findBy 41 = .ok (.astore 7, 2) := by decide +kernel
theorem dX4_findBy_43 : decode cX4_findBy 43 = .ok (.aload 7, 2) := by decide +kernel
theorem dX4_findBy_45 : decode cX4_findBy 45 = .ok (.ifnonnull 7, 3) := by decide +kernel
theorem dX4_findBy_48 : decode cX4_findBy 48 = .ok (.iconst (-1), 1) := by decide +kernel
theorem dX4_findBy_49 : decode cX4_findBy 49 = .ok (.goto 22, 3) := by decide +kernel
theorem dX4_findBy_52 : decode cX4_findBy 52 = .ok (.aload_n 0, 1) := by decide +kernel
theorem dX4_findBy_53 : decode cX4_findBy 53 = .ok (.aload 7, 2) := by decide +kernel
theorem dX4_findBy_55 : decode cX4_findBy 55 = .ok (.lload_n 2, 1) := by decide +kernel
theorem dX4_findBy_56 : decode cX4_findBy 56 = .ok (.iload 4, 2) := by decide +kernel
theorem dX4_findBy_58 : decode cX4_findBy 58 = .ok (.aload_n 1, 1) := by decide +kernel
theorem dX4_findBy_59 : decode cX4_findBy 59 = .ok (.getfield 60, 3) := by decide +kernel
theorem dX4_findBy_62 : decode cX4_findBy 62 = .ok (.isub, 1) := by decide +kernel
theorem dX4_findBy_63 : decode cX4_findBy 63 = .ok (.invokestatic 71, 3) := by decide +kernel
theorem dX4_findBy_66 : decode cX4_findBy 66 = .ok (.iload 5, 2) := by decide +kernel
theorem dX4_findBy_68 : decode cX4_findBy 68 = .ok (.invokevirtual 75, 3) := by decide +kernel
theorem dX4_findBy_71 : decode cX4_findBy 71 = .ok (.ireturn, 1) := by decide +kernel
theorem dX4_numberedOn_0 : decode cX4_numberedOn 0 = .ok (.iconst 0, 1) := by decide +kernel
theorem dX4_numberedOn_1 : decode cX4_numberedOn 1 = .ok (.istore_n 2, 1) := by decide +kernel
theorem dX4_numberedOn_2 : decode cX4_numberedOn 2 = .ok (.iconst 0, 1) := by decide +kernel
theorem dX4_numberedOn_3 : decode cX4_numberedOn 3 = .ok (.istore_n 3, 1) := by decide +kernel
theorem dX4_numberedOn_4 : decode cX4_numberedOn 4 = .ok (.iload_n 3, 1) := by decide +kernel
theorem dX4_numberedOn_5 : decode cX4_numberedOn 5 = .ok (.aload_n 0, 1) := by decide +kernel
theorem dX4_numberedOn_6 : decode cX4_numberedOn 6 = .ok (.getfield 17, 3) := by decide +kernel
theorem dX4_numberedOn_9 : decode cX4_numberedOn 9 = .ok (.if_icmp .ge 33, 3) := by decide +kernel
theorem dX4_numberedOn_12 : decode cX4_numberedOn 12 = .ok (.aload_n 0, 1) := by decide +kernel
theorem dX4_numberedOn_13 : decode cX4_numberedOn 13 = .ok (.iload_n 3, 1) := by decide +kernel
theorem dX4_numberedOn_14 : decode cX4_numberedOn 14 = .ok (.invokevirtual 40, 3) := by decide +kernel
theorem dX4_numberedOn_17 : decode cX4_numberedOn 17 = .ok (.astore 4, 2) := by decide +kernel
theorem dX4_numberedOn_19 : decode cX4_numberedOn 19 = .ok (.aload 4, 2) := by decide +kernel
theorem dX4_numberedOn_21 : decode cX4_numberedOn 21 = .ok (.ifnull 15, 3) := by decide +kernel
theorem dX4_numberedOn_24 : decode cX4_numberedOn 24 = .ok (.aload 4, 2) := by decide +kernel
theorem dX4_numberedOn_26 : decode cX4_numberedOn 26 = .ok (.iload_n 1, 1) := by decide +kernel
theorem dX4_numberedOn_27 : decode cX4_numberedOn 27 = .ok (.invokevirtual 47, 3) := by decide +kernel
theorem dX4_numberedOn_30 : decode cX4_numberedOn 30 = .ok (.ifnull 6, 3) := by decide +kernel
theorem dX4_numberedOn_33 : decode cX4_numberedOn 33 = .ok (.iinc 2 1, 3) := by decide +kernel
theorem dX4_numberedOn_36 : decode cX4_numberedOn 36 = .ok (.iinc 3 1, 3) := by decide +kernel
theorem dX4_numberedOn_39 : decode cX4_numberedOn 39 = .ok (.goto (-35), 3) := by decide +kernel
theorem dX4_numberedOn_42 : decode cX4_numberedOn 42 = .ok (.iload_n 2, 1) := by decide +kernel
theorem dX4_numberedOn_43 : decode cX4_numberedOn 43 = .ok (.ireturn, 1) := by decide +kernel
theorem dX5_init_0 : decode cX5_init 0 = .ok (.aload_n 0, 1) := by decide +kernel
theorem dX5_init_1 : decode cX5_init 1 = .ok (.invokespecial 1, 3) := by decide +kernel
theorem dX5_init_4 : decode cX5_init 4 = .ok (.aload_n 0, 1) := by decide +kernel
theorem dX5_init_5 : decode cX5_init 5 = .ok (.aload_n 1, 1) := by decide +kernel
theorem dX5_init_6 : decode cX5_init 6 = .ok (.putfield 7, 3) := by decide +kernel
theorem dX5_init_9 : decode cX5_init 9 = .ok (.aload_n 0, 1) := by decide +kernel
theorem dX5_init_10 : decode cX5_init 10 = .ok (.iload_n 2, 1) := by decide +kernel
theorem dX5_init_11 : decode cX5_init 11 = .ok (.putfield 13, 3) := by decide +kernel
theorem dX5_init_14 : decode cX5_init 14 = .ok (.return_, 1) := by decide +kernel
theorem dX6_init_0 : decode cX6_init 0 = .ok (.aload_n 0, 1) := by decide +kernel
theorem dX6_init_1 : decode cX6_init 1 = .ok (.invokespecial 3, 3) := by decide +kernel
theorem dX6_init_4 : decode cX6_init 4 = .ok (.aload_n 0, 1) := by decide +kernel
theorem dX6_init_5 : decode cX6_init 5 = .ok (.bipush 120, 2) := by decide +kernel
theorem dX6_init_7 : decode cX6_init 7 = .ok (.anewarray 9, 3) := by decide +kernel
theorem dX6_init_10 : decode cX6_init 10 = .ok (.putfield 11, 3) := by decide +kernel
theorem dX6_init_13 : decode cX6_init 13 = .ok (.aload_n 0, 1) := by decide +kernel
theorem dX6_init_14 : decode cX6_init 14 = .ok (.iconst 0, 1) := by decide +kernel
theorem dX6_init_15 : decode cX6_init 15 = .ok (.putfield 17, 3) := by decide +kernel
theorem dX6_init_18 : decode cX6_init 18 = .ok (.aload_n 0, 1) := by decide +kernel
theorem dX6_init_19 : decode cX6_init 19 = .ok (.new 21, 3) := by decide +kernel
theorem dX6_init_22 : decode cX6_init 22 = .ok (.dup, 1) := by decide +kernel
theorem dX6_init_23 : decode cX6_init 23 = .ok (.invokespecial 23, 3) := by decide +kernel
theorem dX6_init_26 : decode cX6_init 26 = .ok (.putfield 24, 3) := by decide +kernel
theorem dX6_init_29 : decode cX6_init 29 = .ok (.return_, 1) := by decide +kernel
theorem dX6_entryAt_0 : decode cX6_entryAt 0 = .ok (.iload_n 1, 1) := by decide +kernel
theorem dX6_entryAt_1 : decode cX6_entryAt 1 = .ok (.ifCond .lt 29, 3) := by decide +kernel
theorem dX6_entryAt_4 : decode cX6_entryAt 4 = .ok (.iload_n 1, 1) := by decide +kernel
theorem dX6_entryAt_5 : decode cX6_entryAt 5 = .ok (.aload_n 0, 1) := by decide +kernel
theorem dX6_entryAt_6 : decode cX6_entryAt 6 = .ok (.getfield 17, 3) := by decide +kernel
theorem dX6_entryAt_9 : decode cX6_entryAt 9 = .ok (.if_icmp .ge 21, 3) := by decide +kernel
theorem dX6_entryAt_12 : decode cX6_entryAt 12 = .ok (.iload_n 1, 1) := by decide +kernel
theorem dX6_entryAt_13 : decode cX6_entryAt 13 = .ok (.aload_n 0, 1) := by decide +kernel
theorem dX6_entryAt_14 : decode cX6_entryAt 14 = .ok (.getfield 11, 3) := by decide +kernel
theorem dX6_entryAt_17 : decode cX6_entryAt 17 = .ok (.arraylength, 1) := by decide +kernel
theorem dX6_entryAt_18 : decode cX6_entryAt 18 = .ok (.if_icmp .ge 12, 3) := by decide +kernel
theorem dX6_entryAt_21 : decode cX6_entryAt 21 = .ok (.aload_n 0, 1) := by decide +kernel
theorem dX6_entryAt_22 : decode cX6_entryAt 22 = .ok (.getfield 11, 3) := by decide +kernel
theorem dX6_entryAt_25 : decode cX6_entryAt 25 = .ok (.iload_n 1, 1) := by decide +kernel
theorem dX6_entryAt_26 : decode cX6_entryAt 26 = .ok (.aaload, 1) := by decide +kernel
theorem dX6_entryAt_27 : decode cX6_entryAt 27 = .ok (.goto 4, 3) := by decide +kernel
theorem dX6_entryAt_30 : decode cX6_entryAt 30 = .ok (.aconst_null, 1) := by decide +kernel
theorem dX6_entryAt_31 : decode cX6_entryAt 31 = .ok (.areturn, 1) := by decide +kernel
theorem dX6_blockAt_0 : decode cX6_blockAt 0 = .ok (.aload_n 0, 1) := by decide +kernel
theorem dX6_blockAt_1 : decode cX6_blockAt 1 = .ok (.iload_n 1, 1) := by decide +kernel
theorem dX6_blockAt_2 : decode cX6_blockAt 2 = .ok (.invokevirtual 28, 3) := by decide +kernel
theorem dX6_blockAt_5 : decode cX6_blockAt 5 = .ok (.astore_n 2, 1) := by decide +kernel
theorem dX6_blockAt_6 : decode cX6_blockAt 6 = .ok (.aload_n 2, 1) := by decide +kernel
theorem dX6_blockAt_7 : decode cX6_blockAt 7 = .ok (.ifnull 14, 3) := by decide +kernel
theorem dX6_blockAt_10 : decode cX6_blockAt 10 = .ok (.aload_n 2, 1) := by decide +kernel
theorem dX6_blockAt_11 : decode cX6_blockAt 11 = .ok (.getfield 32, 3) := by decide +kernel
theorem dX6_blockAt_14 : decode cX6_blockAt 14 = .ok (.ifCond .ne 7, 3) := by decide +kernel
theorem dX6_blockAt_17 : decode cX6_blockAt 17 = .ok (.aload_n 2, 1) := by decide +kernel
theorem dX6_blockAt_18 : decode cX6_blockAt 18 = .ok (.goto 4, 3) := by decide +kernel
theorem dX6_blockAt_21 : decode cX6_blockAt 21 = .ok (.aconst_null, 1) := by decide +kernel
theorem dX6_blockAt_22 : decode cX6_blockAt 22 = .ok (.areturn, 1) := by decide +kernel
theorem dX6_hasRoomFor_0 : decode cX6_hasRoomFor 0 = .ok (.aload_n 0, 1) := by decide +kernel
theorem dX6_hasRoomFor_1 : decode cX6_hasRoomFor 1 = .ok (.getfield 17, 3) := by decide +kernel
theorem dX6_hasRoomFor_4 : decode cX6_hasRoomFor 4 = .ok (.iload_n 1, 1) := by decide +kernel
theorem dX6_hasRoomFor_5 : decode cX6_hasRoomFor 5 = .ok (.iadd, 1) := by decide +kernel
theorem dX6_hasRoomFor_6 : decode cX6_hasRoomFor 6 = .ok (.bipush 120, 2) := by decide +kernel
theorem dX6_hasRoomFor_8 : decode cX6_hasRoomFor 8 = .ok (.if_icmp .gt 7, 3) := by decide +kernel
theorem dX6_hasRoomFor_11 : decode cX6_hasRoomFor 11 = .ok (.iconst 1, 1) := by decide +kernel
theorem dX6_hasRoomFor_12 : decode cX6_hasRoomFor 12 = .ok (.goto 4, 3) := by decide +kernel
theorem dX6_hasRoomFor_15 : decode cX6_hasRoomFor 15 = .ok (.iconst 0, 1) := by decide +kernel
theorem dX6_hasRoomFor_16 : decode cX6_hasRoomFor 16 = .ok (.ireturn, 1) := by decide +kernel
theorem dX6_append_0 : decode cX6_append 0 = .ok (.aload_n 0, 1) := by decide +kernel
theorem dX6_append_1 : decode cX6_append 1 = .ok (.iconst 1, 1) := by decide +kernel
theorem dX6_append_2 : decode cX6_append 2 = .ok (.invokevirtual 35, 3) := by decide +kernel
theorem dX6_append_5 : decode cX6_append 5 = .ok (.ifCond .ne 6, 3) := by decide +kernel
theorem dX6_append_8 : decode cX6_append 8 = .ok (.bipush (-3), 2) := by decide +kernel
theorem dX6_append_10 : decode cX6_append 10 = .ok (.ireturn, 1) := by decide +kernel
theorem dX6_append_11 : decode cX6_append 11 = .ok (.iconst 0, 1) := by decide +kernel
theorem dX6_append_12 : decode cX6_append 12 = .ok (.istore_n 2, 1) := by decide +kernel
theorem dX6_append_13 : decode cX6_append 13 = .ok (.iload_n 2, 1) := by decide +kernel
theorem dX6_append_14 : decode cX6_append 14 = .ok (.aload_n 0, 1) := by decide +kernel
theorem dX6_append_15 : decode cX6_append 15 = .ok (.getfield 17, 3) := by decide +kernel
theorem dX6_append_18 : decode cX6_append 18 = .ok (.if_icmp .ge 35, 3) := by decide +kernel
theorem dX6_append_21 : decode cX6_append 21 = .ok (.aload_n 0, 1) := by decide +kernel
theorem dX6_append_22 : decode cX6_append 22 = .ok (.iload_n 2, 1) := by decide +kernel
theorem dX6_append_23 : decode cX6_append 23 = .ok (.invokevirtual 28, 3) := by decide +kernel
theorem dX6_append_26 : decode cX6_append 26 = .ok (.astore_n 3, 1) := by decide +kernel
theorem dX6_append_27 : decode cX6_append 27 = .ok (.aload_n 3, 1) := by decide +kernel
theorem dX6_append_28 : decode cX6_append 28 = .ok (.ifnull 19, 3) := by decide +kernel
theorem dX6_append_31 : decode cX6_append 31 = .ok (.aload_n 3, 1) := by decide +kernel
theorem dX6_append_32 : decode cX6_append 32 = .ok (.aload_n 1, 1) := by decide +kernel
theorem dX6_append_33 : decode cX6_append 33 = .ok (.invokevirtual 39, 3) := by decide +kernel
theorem dX6_append_36 : decode cX6_append 36 = .ok (.ifCond .eq 11, 3) := by decide +kernel
theorem dX6_append_39 : decode cX6_append 39 = .ok (.aload_n 3, 1) := by decide +kernel
theorem dX6_append_40 : decode cX6_append 40 = .ok (.aload_n 0, 1) := by decide +kernel
theorem dX6_append_41 : decode cX6_append 41 = .ok (.getfield 17, 3) := by decide +kernel
theorem dX6_append_44 : decode cX6_append 44 = .ok (.invokevirtual 43, 3) := by decide +kernel
theorem dX6_append_47 : decode cX6_append 47 = .ok (.iinc 2 1, 3) := by decide +kernel
theorem dX6_append_50 : decode cX6_append 50 = .ok (.goto (-37), 3) := by decide +kernel
theorem dX6_append_53 : decode cX6_append 53 = .ok (.aload_n 1, 1) := by decide +kernel
theorem dX6_append_54 : decode cX6_append 54 = .ok (.aload_n 0, 1) := by decide +kernel
theorem dX6_append_55 : decode cX6_append 55 = .ok (.getfield 17, 3) := by decide +kernel
theorem dX6_append_58 : decode cX6_append 58 = .ok (.putfield 47, 3) := by decide +kernel
theorem dX6_append_61 : decode cX6_append 61 = .ok (.aload_n 0, 1) := by decide +kernel
theorem dX6_append_62 : decode cX6_append 62 = .ok (.getfield 11, 3) := by decide +kernel
theorem dX6_append_65 : decode cX6_append 65 = .ok (.aload_n 0, 1) := by decide +kernel
theorem dX6_append_66 : decode cX6_append 66 = .ok (.getfield 17, 3) := by decide +kernel
theorem dX6_append_69 : decode cX6_append 69 = .ok (.aload_n 1, 1) := by decide +kernel
theorem dX6_append_70 : decode cX6_append 70 = .ok (.aastore, 1) := by decide +kernel
theorem dX6_append_71 : decode cX6_append 71 = .ok (.aload_n 0, 1) := by decide +kernel
theorem dX6_append_72 : decode cX6_append 72 = .ok (.dup, 1) := by decide +kernel
theorem dX6_append_73 : decode cX6_append 73 = .ok (.getfield 17, 3) := by decide +kernel
theorem dX6_append_76 : decode cX6_append 76 = .ok (.iconst 1, 1) := by decide +kernel
theorem dX6_append_77 : decode cX6_append 77 = .ok (.iadd, 1) := by decide +kernel
theorem dX6_append_78 : decode cX6_append 78 = .ok (.putfield 17, 3) := by decide +kernel
theorem dX6_append_81 : decode cX6_append 81 = .ok (.aload_n 1, 1) := by decide +kernel
theorem dX6_append_82 : decode cX6_append 82 = .ok (.getfield 47, 3) := by decide +kernel
theorem dX6_append_85 : decode cX6_append 85 = .ok (.ireturn, 1) := by decide +kernel
theorem dX6_change_0 : decode cX6_change 0 = .ok (.aload_n 1, 1) := by decide +kernel
theorem dX6_change_1 : decode cX6_change 1 = .ok (.getfield 50, 3) := by decide +kernel
theorem dX6_change_4 : decode cX6_change 4 = .ok (.aload_n 2, 1) := by decide +kernel
theorem dX6_change_5 : decode cX6_change 5 = .ok (.getfield 50, 3) := by decide +kernel
theorem dX6_change_8 : decode cX6_change 8 = .ok (.iconst (-1), 1) := by decide +kernel
theorem dX6_change_9 : decode cX6_change 9 = .ok (.ixor, 1) := by decide +kernel
theorem dX6_change_10 : decode cX6_change 10 = .ok (.iand, 1) := by decide +kernel
theorem dX6_change_11 : decode cX6_change 11 = .ok (.istore 4, 2) := by decide +kernel
theorem dX6_change_13 : decode cX6_change 13 = .ok (.iconst 1, 1) := by decide +kernel
theorem dX6_change_14 : decode cX6_change 14 = .ok (.iload 4, 2) := by decide +kernel
theorem dX6_change_16 : decode cX6_change 16 = .ok (.ifCond .eq 7, 3) := by decide +kernel
theorem dX6_change_19 : decode cX6_change 19 = .ok (.iconst 1, 1) := by decide +kernel
theorem dX6_change_20 : decode cX6_change 20 = .ok (.goto 4, 3) := by decide +kernel
theorem dX6_change_23 : decode cX6_change 23 = .ok (.iconst 0, 1) := by decide +kernel
theorem dX6_change_24 : decode cX6_change 24 = .ok (.iadd, 1) := by decide +kernel
theorem dX6_change_25 : decode cX6_change 25 = .ok (.iload_n 3, 1) := by decide +kernel
theorem dX6_change_26 : decode cX6_change 26 = .ok (.ifCond .le 7, 3) := by decide +kernel
theorem dX6_change_29 : decode cX6_change 29 = .ok (.iconst 1, 1) := by decide +kernel
theorem dX6_change_30 : decode cX6_change 30 = .ok (.goto 4, 3) := by decide +kernel
theorem dX6_change_33 : decode cX6_change 33 = .ok (.iconst 0, 1) := by decide +kernel
theorem dX6_change_34 : decode cX6_change 34 = .ok (.iadd, 1) := by decide +kernel
theorem dX6_change_35 : decode cX6_change 35 = .ok (.istore 5, 2) := by decide +kernel
theorem dX6_change_37 : decode cX6_change 37 = .ok (.aload_n 0, 1) := by decide +kernel
theorem dX6_change_38 : decode cX6_change 38 = .ok (.iload 5, 2) := by decide +kernel
theorem dX6_change_40 : decode cX6_change 40 = .ok (.invokevirtual 35, 3) := by decide +kernel
theorem dX6_change_43 : decode cX6_change 43 = .ok (.ifCond .ne 6, 3) := by decide +kernel
theorem dX6_change_46 : decode cX6_change 46 = .ok (.bipush (-3), 2) := by decide +kernel
theorem dX6_change_48 : decode cX6_change 48 = .ok (.ireturn, 1) := by decide +kernel
theorem dX6_change_49 : decode cX6_change 49 = .ok (.aload_n 2, 1) := by decide +kernel
theorem dX6_change_50 : decode cX6_change 50 = .ok (.getfield 53, 3) := by decide +kernel
theorem dX6_change_53 : decode cX6_change 53 = .ok (.istore 6, 2) := by decide +kernel
theorem dX6_change_55 : decode cX6_change 55 = .ok (.iload 4, 2) := by decide +kernel
theorem dX6_change_57 : decode cX6_change 57 = .ok (.ifCond .eq 48, 3) := by decide +kernel
theorem dX6_change_60 : decode cX6_change 60 = .ok (.aload_n 1, 1) := by decide +kernel
theorem dX6_change_61 : decode cX6_change 61 = .ok (.new 9, 3) := by decide +kernel
theorem dX6_change_64 : decode cX6_change 64 = .ok (.dup, 1) := by decide +kernel
theorem dX6_change_65 : decode cX6_change 65 = .ok (.iconst 0, 1) := by decide +kernel
theorem dX6_change_66 : decode cX6_change 66 = .ok (.aload_n 1, 1) := by decide +kernel
theorem dX6_change_67 : decode cX6_change 67 = .ok (.getfield 56, 3) := by decide +kernel
theorem dX6_change_70 : decode cX6_change 70 = .ok (.aload_n 1, 1) := by decide +kernel
theorem dX6_change_71 : decode cX6_change 71 = .ok (.getfield 59, 3) := by decide +kernel
theorem dX6_change_74 : decode cX6_change 74 = .ok (.iload 4, 2) := by decide +kernel
theorem dX6_change_76 : decode cX6_change 76 = .ok (.aload_n 1, 1) := by decide +kernel
theorem dX6_change_77 : decode cX6_change 77 = .ok (.getfield 62, 3) := by decide +kernel
theorem dX6_change_80 : decode cX6_change 80 = .ok (.aload_n 1, 1) := by decide +kernel
theorem dX6_change_81 : decode cX6_change 81 = .ok (.getfield 65, 3) := by decide +kernel
theorem dX6_change_84 : decode cX6_change 84 = .ok (.iload 6, 2) := by decide +kernel
theorem dX6_change_86 : decode cX6_change 86 = .ok (.invokespecial 68, 3) := by decide +kernel
theorem dX6_change_89 : decode cX6_change 89 = .ok (.putfield 71, 3) := by decide +kernel
theorem dX6_change_92 : decode cX6_change 92 = .ok (.aload_n 0, 1) := by decide +kernel
theorem dX6_change_93 : decode cX6_change 93 = .ok (.aload_n 1, 1) := by decide +kernel
theorem dX6_change_94 : decode cX6_change 94 = .ok (.aload_n 1, 1) := by decide +kernel
theorem dX6_change_95 : decode cX6_change 95 = .ok (.getfield 71, 3) := by decide +kernel
theorem dX6_change_98 : decode cX6_change 98 = .ok (.aload_n 1, 1) := by decide +kernel
theorem dX6_change_99 : decode cX6_change 99 = .ok (.getfield 75, 3) := by decide +kernel
theorem dX6_change_102 : decode cX6_change 102 = .ok (.invokevirtual 78, 3) := by decide +kernel
theorem dX6_change_105 : decode cX6_change 105 = .ok (.aload_n 0, 1) := by decide +kernel
theorem dX6_change_106 : decode cX6_change 106 = .ok (.aload_n 1, 1) := by decide +kernel
theorem dX6_change_107 : decode cX6_change 107 = .ok (.aload_n 2, 1) := by decide +kernel
theorem dX6_change_108 : decode cX6_change 108 = .ok (.aload_n 1, 1) := by decide +kernel
theorem dX6_change_109 : decode cX6_change 109 = .ok (.getfield 75, 3) := by decide +kernel
theorem dX6_change_112 : decode cX6_change 112 = .ok (.invokevirtual 78, 3) := by decide +kernel
theorem dX6_change_115 : decode cX6_change 115 = .ok (.iload_n 3, 1) := by decide +kernel
theorem dX6_change_116 : decode cX6_change 116 = .ok (.ifCond .le 74, 3) := by decide +kernel
theorem dX6_change_119 : decode cX6_change 119 = .ok (.new 9, 3) := by decide +kernel
theorem dX6_change_122 : decode cX6_change 122 = .ok (.dup, 1) := by decide +kernel
theorem dX6_change_123 : decode cX6_change 123 = .ok (.iconst 3, 1) := by decide +kernel
theorem dX6_change_124 : decode cX6_change 124 = .ok (.aload_n 2, 1) := by decide +kernel
theorem dX6_change_125 : decode cX6_change 125 = .ok (.getfield 47, 3) := by decide +kernel
theorem dX6_change_128 : decode cX6_change 128 = .ok (.aload_n 1, 1) := by decide +kernel
theorem dX6_change_129 : decode cX6_change 129 = .ok (.getfield 59, 3) := by decide +kernel
theorem dX6_change_132 : decode cX6_change 132 = .ok (.aload_n 2, 1) := by decide +kernel
theorem dX6_change_133 : decode cX6_change 133 = .ok (.getfield 50, 3) := by decide +kernel
theorem dX6_change_136 : decode cX6_change 136 = .ok (.aload_n 1, 1) := by decide +kernel
theorem dX6_change_137 : decode cX6_change 137 = .ok (.getfield 62, 3) := by decide +kernel
theorem dX6_change_140 : decode cX6_change 140 = .ok (.aload_n 1, 1) := by decide +kernel
theorem dX6_change_141 : decode cX6_change 141 = .ok (.getfield 65, 3) := by decide +kernel
theorem dX6_change_144 : decode cX6_change 144 = .ok (.iload 6, 2) := by decide +kernel
theorem dX6_change_146 : decode cX6_change 146 = .ok (.invokespecial 68, 3) := by decide +kernel
theorem dX6_change_149 : decode cX6_change 149 = .ok (.astore 7, 2) := by decide +kernel
theorem dX6_change_151 : decode cX6_change 151 = .ok (.aload 7, 2) := by decide +kernel
theorem dX6_change_153 : decode cX6_change 153 = .ok (.aload_n 2, 1) := by decide +kernel
theorem dX6_change_154 : decode cX6_change 154 = .ok (.putfield 82, 3) := by decide +kernel
theorem dX6_change_157 : decode cX6_change 157 = .ok (.aload_n 0, 1) := by decide +kernel
theorem dX6_change_158 : decode cX6_change 158 = .ok (.aload_n 1, 1) := by decide +kernel
theorem dX6_change_159 : decode cX6_change 159 = .ok (.aload 7, 2) := by decide +kernel
theorem dX6_change_161 : decode cX6_change 161 = .ok (.aload_n 1, 1) := by decide +kernel
theorem dX6_change_162 : decode cX6_change 162 = .ok (.getfield 75, 3) := by decide +kernel
theorem dX6_change_165 : decode cX6_change 165 = .ok (.iconst (-1), 1) := by decide +kernel
theorem dX6_change_166 : decode cX6_change 166 = .ok (.if_icmp .ne 10, 3) := by decide +kernel
theorem dX6_change_169 : decode cX6_change 169 = .ok (.iload 6, 2) := by decide +kernel
theorem dX6_change_171 : decode cX6_change 171 = .ok (.iload_n 3, 1) := by decide +kernel
theorem dX6_change_172 : decode cX6_change 172 = .ok (.iadd, 1) := by decide +kernel
theorem dX6_change_173 : decode cX6_change 173 = .ok (.goto 14, 3) := by decide +kernel
theorem dX6_change_176 : decode cX6_change 176 = .ok (.iload 6, 2) := by decide +kernel
theorem dX6_change_178 : decode cX6_change 178 = .ok (.iload_n 3, 1) := by decide +kernel
theorem dX6_change_179 : decode cX6_change 179 = .ok (.iadd, 1) := by decide +kernel
theorem dX6_change_180 : decode cX6_change 180 = .ok (.aload_n 1, 1) := by decide +kernel
theorem dX6_change_181 : decode cX6_change 181 = .ok (.getfield 75, 3) := by decide +kernel
theorem dX6_change_184 : decode cX6_change 184 = .ok (.invokestatic 85, 3) := by decide +kernel
theorem dX6_change_187 : decode cX6_change 187 = .ok (.invokevirtual 78, 3) := by decide +kernel
theorem dX6_change_190 : decode cX6_change 190 = .ok (.aload_n 1, 1) := by decide +kernel
theorem dX6_change_191 : decode cX6_change 191 = .ok (.aload_n 2, 1) := by decide +kernel
theorem dX6_change_192 : decode cX6_change 192 = .ok (.putfield 91, 3) := by decide +kernel
theorem dX6_change_195 : decode cX6_change 195 = .ok (.aload_n 1, 1) := by decide +kernel
theorem dX6_change_196 : decode cX6_change 196 = .ok (.iload 6, 2) := by decide +kernel
theorem dX6_change_198 : decode cX6_change 198 = .ok (.putfield 94, 3) := by decide +kernel
theorem dX6_change_201 : decode cX6_change 201 = .ok (.aload_n 1, 1) := by decide +kernel
theorem dX6_change_202 : decode cX6_change 202 = .ok (.iload 6, 2) := by decide +kernel
theorem dX6_change_204 : decode cX6_change 204 = .ok (.putfield 75, 3) := by decide +kernel
theorem dX6_change_207 : decode cX6_change 207 = .ok (.aload_n 2, 1) := by decide +kernel
theorem dX6_change_208 : decode cX6_change 208 = .ok (.getfield 47, 3) := by decide +kernel
theorem dX6_change_211 : decode cX6_change 211 = .ok (.ireturn, 1) := by decide +kernel
theorem dX6_appendFrom_0 : decode cX6_appendFrom 0 = .ok (.aload_n 2, 1) := by decide +kernel
theorem dX6_appendFrom_1 : decode cX6_appendFrom 1 = .ok (.aload_n 1, 1) := by decide +kernel
theorem dX6_appendFrom_2 : decode cX6_appendFrom 2 = .ok (.getfield 47, 3) := by decide +kernel
theorem dX6_appendFrom_5 : decode cX6_appendFrom 5 = .ok (.putfield 97, 3) := by decide +kernel
theorem dX6_appendFrom_8 : decode cX6_appendFrom 8 = .ok (.aload_n 2, 1) := by decide +kernel
theorem dX6_appendFrom_9 : decode cX6_appendFrom 9 = .ok (.iload_n 3, 1) := by decide +kernel
theorem dX6_appendFrom_10 : decode cX6_appendFrom 10 = .ok (.putfield 75, 3) := by decide +kernel
theorem dX6_appendFrom_13 : decode cX6_appendFrom 13 = .ok (.aload_n 0, 1) := by decide +kernel
theorem dX6_appendFrom_14 : decode cX6_appendFrom 14 = .ok (.aload_n 2, 1) := by decide +kernel
theorem dX6_appendFrom_15 : decode cX6_appendFrom 15 = .ok (.invokevirtual 100, 3) := by decide +kernel
theorem dX6_appendFrom_18 : decode cX6_appendFrom 18 = .ok (.pop, 1) := by decide +kernel
theorem dX6_appendFrom_19 : decode cX6_appendFrom 19 = .ok (.return_, 1) := by decide +kernel
theorem dX6_inForceOn_0 : decode cX6_inForceOn 0 = .ok (.iconst 0, 1) := by decide +kernel
theorem dX6_inForceOn_1 : decode cX6_inForceOn 1 = .ok (.istore_n 2, 1) := by decide +kernel
theorem dX6_inForceOn_2 : decode cX6_inForceOn 2 = .ok (.iconst 0, 1) := by decide +kernel
theorem dX6_inForceOn_3 : decode cX6_inForceOn 3 = .ok (.istore_n 3, 1) := by decide +kernel
theorem dX6_inForceOn_4 : decode cX6_inForceOn 4 = .ok (.iload_n 3, 1) := by decide +kernel
theorem dX6_inForceOn_5 : decode cX6_inForceOn 5 = .ok (.aload_n 0, 1) := by decide +kernel
theorem dX6_inForceOn_6 : decode cX6_inForceOn 6 = .ok (.getfield 17, 3) := by decide +kernel
theorem dX6_inForceOn_9 : decode cX6_inForceOn 9 = .ok (.if_icmp .ge 33, 3) := by decide +kernel
theorem dX6_inForceOn_12 : decode cX6_inForceOn 12 = .ok (.aload_n 0, 1) := by decide +kernel
theorem dX6_inForceOn_13 : decode cX6_inForceOn 13 = .ok (.iload_n 3, 1) := by decide +kernel
theorem dX6_inForceOn_14 : decode cX6_inForceOn 14 = .ok (.invokevirtual 28, 3) := by decide +kernel
theorem dX6_inForceOn_17 : decode cX6_inForceOn 17 = .ok (.astore 4, 2) := by decide +kernel
theorem dX6_inForceOn_19 : decode cX6_inForceOn 19 = .ok (.aload 4, 2) := by decide +kernel
theorem dX6_inForceOn_21 : decode cX6_inForceOn 21 = .ok (.ifnull 15, 3) := by decide +kernel
theorem dX6_inForceOn_24 : decode cX6_inForceOn 24 = .ok (.aload 4, 2) := by decide +kernel
theorem dX6_inForceOn_26 : decode cX6_inForceOn 26 = .ok (.iload_n 1, 1) := by decide +kernel
theorem dX6_inForceOn_27 : decode cX6_inForceOn 27 = .ok (.invokevirtual 104, 3) := by decide +kernel
theorem dX6_inForceOn_30 : decode cX6_inForceOn 30 = .ok (.ifCond .eq 6, 3) := by decide +kernel
theorem dX6_inForceOn_33 : decode cX6_inForceOn 33 = .ok (.iinc 2 1, 3) := by decide +kernel
theorem dX6_inForceOn_36 : decode cX6_inForceOn 36 = .ok (.iinc 3 1, 3) := by decide +kernel
theorem dX6_inForceOn_39 : decode cX6_inForceOn 39 = .ok (.goto (-35), 3) := by decide +kernel
theorem dX6_inForceOn_42 : decode cX6_inForceOn 42 = .ok (.iload_n 2, 1) := by decide +kernel
theorem dX6_inForceOn_43 : decode cX6_inForceOn 43 = .ok (.ireturn, 1) := by decide +kernel
theorem dX6_noteInForce_0 : decode cX6_noteInForce 0 = .ok (.aload_n 0, 1) := by decide +kernel
theorem dX6_noteInForce_1 : decode cX6_noteInForce 1 = .ok (.lconst 0, 1) := by decide +kernel
theorem dX6_noteInForce_2 : decode cX6_noteInForce 2 = .ok (.putfield 107, 3) := by decide +kernel
theorem dX6_noteInForce_5 : decode cX6_noteInForce 5 = .ok (.aload_n 0, 1) := by decide +kernel
theorem dX6_noteInForce_6 : decode cX6_noteInForce 6 = .ok (.lconst 0, 1) := by decide +kernel
theorem dX6_noteInForce_7 : decode cX6_noteInForce 7 = .ok (.putfield 111, 3) := by decide +kernel
theorem dX6_noteInForce_10 : decode cX6_noteInForce 10 = .ok (.iconst 0, 1) := by decide +kernel
theorem dX6_noteInForce_11 : decode cX6_noteInForce 11 = .ok (.istore_n 2, 1) := by decide +kernel
theorem dX6_noteInForce_12 : decode cX6_noteInForce 12 = .ok (.iload_n 2, 1) := by decide +kernel
theorem dX6_noteInForce_13 : decode cX6_noteInForce 13 = .ok (.aload_n 0, 1) := by decide +kernel
theorem dX6_noteInForce_14 : decode cX6_noteInForce 14 = .ok (.getfield 17, 3) := by decide +kernel
theorem dX6_noteInForce_17 : decode cX6_noteInForce 17 = .ok (.if_icmp .ge 63, 3) := by decide +kernel
theorem dX6_noteInForce_20 : decode cX6_noteInForce 20 = .ok (.aload_n 0, 1) := by decide +kernel
theorem dX6_noteInForce_21 : decode cX6_noteInForce 21 = .ok (.iload_n 2, 1) := by decide +kernel
theorem dX6_noteInForce_22 : decode cX6_noteInForce 22 = .ok (.invokevirtual 28, 3) := by decide +kernel
theorem dX6_noteInForce_25 : decode cX6_noteInForce 25 = .ok (.astore_n 3, 1) := by decide +kernel
theorem dX6_noteInForce_26 : decode cX6_noteInForce 26 = .ok (.aload_n 3, 1) := by decide +kernel
theorem dX6_noteInForce_27 : decode cX6_noteInForce 27 = .ok (.ifnull 47, 3) := by decide +kernel
theorem dX6_noteInForce_30 : decode cX6_noteInForce 30 = .ok (.aload_n 3, 1) := by decide +kernel
theorem dX6_noteInForce_31 : decode cX6_noteInForce 31 = .ok (.iload_n 1, 1) := by decide +kernel
theorem dX6_noteInForce_32 : decode cX6_noteInForce 32 = .ok (.invokevirtual 104, 3) := by decide +kernel
theorem dX6_noteInForce_35 : decode cX6_noteInForce 35 = .ok (.ifCond .eq 39, 3) := by decide +kernel
theorem dX6_noteInForce_38 : decode cX6_noteInForce 38 = .ok (.iload_n 2, 1) := by decide +kernel
theorem dX6_noteInForce_39 : decode cX6_noteInForce 39 = .ok (.bipush 64, 2) := by decide +kernel
theorem dX6_noteInForce_41 : decode cX6_noteInForce 41 = .ok (.if_icmp .ge 18, 3) := by decide +kernel
theorem dX6_noteInForce_44 : decode cX6_noteInForce 44 = .ok (.aload_n 0, 1) := by decide +kernel
theorem dX6_noteInForce_45 : decode cX6_noteInForce 45 = .ok (.dup, 1) := by decide +kernel
theorem dX6_noteInForce_46 : decode cX6_noteInForce 46 = .ok (.getfield 107, 3) := by decide +kernel
theorem dX6_noteInForce_49 : decode cX6_noteInForce 49 = .ok (.lconst 1, 1) := by decide +kernel
theorem dX6_noteInForce_50 : decode cX6_noteInForce 50 = .ok (.iload_n 2, 1) := by decide +kernel
theorem dX6_noteInForce_51 : decode cX6_noteInForce 51 = .ok (.lshl, 1) := by decide +kernel
theorem dX6_noteInForce_52 : decode cX6_noteInForce 52 = .ok (.lor, 1) := by decide +kernel
theorem dX6_noteInForce_53 : decode cX6_noteInForce 53 = .ok (.putfield 107, 3) := by decide +kernel
theorem dX6_noteInForce_56 : decode cX6_noteInForce 56 = .ok (.goto 18, 3) := by decide +kernel
theorem dX6_noteInForce_59 : decode cX6_noteInForce 59 = .ok (.aload_n 0, 1) := by decide +kernel
theorem dX6_noteInForce_60 : decode cX6_noteInForce 60 = .ok (.dup, 1) := by decide +kernel
theorem dX6_noteInForce_61 : decode cX6_noteInForce 61 = .ok (.getfield 111, 3) := by decide +kernel
theorem dX6_noteInForce_64 : decode cX6_noteInForce 64 = .ok (.lconst 1, 1) := by decide +kernel
theorem dX6_noteInForce_65 : decode cX6_noteInForce 65 = .ok (.iload_n 2, 1) := by decide +kernel
theorem dX6_noteInForce_66 : decode cX6_noteInForce 66 = .ok (.bipush 64, 2) := by decide +kernel
theorem dX6_noteInForce_68 : decode cX6_noteInForce 68 = .ok (.isub, 1) := by decide +kernel
theorem dX6_noteInForce_69 : decode cX6_noteInForce 69 = .ok (.lshl, 1) := by decide +kernel
theorem dX6_noteInForce_70 : decode cX6_noteInForce 70 = .ok (.lor, 1) := by decide +kernel
theorem dX6_noteInForce_71 : decode cX6_noteInForce 71 = .ok (.putfield 111, 3) := by decide +kernel
theorem dX6_noteInForce_74 : decode cX6_noteInForce 74 = .ok (.iinc 2 1, 3) := by decide +kernel
theorem dX6_noteInForce_77 : decode cX6_noteInForce 77 = .ok (.goto (-65), 3) := by decide +kernel
theorem dX6_noteInForce_80 : decode cX6_noteInForce 80 = .ok (.return_, 1) := by decide +kernel
theorem dX6_pairsOf_0 : decode cX6_pairsOf 0 = .ok (.aload_n 1, 1) := by decide +kernel
theorem dX6_pairsOf_1 : decode cX6_pairsOf 1 = .ok (.getfield 114, 3) := by decide +kernel
theorem dX6_pairsOf_4 : decode cX6_pairsOf 4 = .ok (.aload_n 0, 1) := by decide +kernel
theorem dX6_pairsOf_5 : decode cX6_pairsOf 5 = .ok (.getfield 107, 3) := by decide +kernel
theorem dX6_pairsOf_8 : decode cX6_pairsOf 8 = .ok (.land, 1) := by decide +kernel
theorem dX6_pairsOf_9 : decode cX6_pairsOf 9 = .ok (.invokestatic 117, 3) := by decide +kernel
theorem dX6_pairsOf_12 : decode cX6_pairsOf 12 = .ok (.aload_n 1, 1) := by decide +kernel
theorem dX6_pairsOf_13 : decode cX6_pairsOf 13 = .ok (.getfield 123, 3) := by decide +kernel
theorem dX6_pairsOf_16 : decode cX6_pairsOf 16 = .ok (.aload_n 0, 1) := by decide +kernel
theorem dX6_pairsOf_17 : decode cX6_pairsOf 17 = .ok (.getfield 111, 3) := by decide +kernel
theorem dX6_pairsOf_20 : decode cX6_pairsOf 20 = .ok (.land, 1) := by decide +kernel
theorem dX6_pairsOf_21 : decode cX6_pairsOf 21 = .ok (.invokestatic 117, 3) := by decide +kernel
theorem dX6_pairsOf_24 : decode cX6_pairsOf 24 = .ok (.iadd, 1) := by decide +kernel
theorem dX6_pairsOf_25 : decode cX6_pairsOf 25 = .ok (.ireturn, 1) := by decide +kernel
theorem dX6_pairsOn_0 : decode cX6_pairsOn 0 = .ok (.aload_n 0, 1) := by decide +kernel
theorem dX6_pairsOn_1 : decode cX6_pairsOn 1 = .ok (.iload_n 1, 1) := by decide +kernel
theorem dX6_pairsOn_2 : decode cX6_pairsOn 2 = .ok (.invokevirtual 126, 3) := by decide +kernel
theorem dX6_pairsOn_5 : decode cX6_pairsOn 5 = .ok (.iconst 0, 1) := by decide +kernel
theorem dX6_pairsOn_6 : decode cX6_pairsOn 6 = .ok (.istore_n 2, 1) := by decide +kernel
theorem dX6_pairsOn_7 : decode cX6_pairsOn 7 = .ok (.iconst 0, 1) := by decide +kernel
theorem dX6_pairsOn_8 : decode cX6_pairsOn 8 = .ok (.istore_n 3, 1) := by decide +kernel
theorem dX6_pairsOn_9 : decode cX6_pairsOn 9 = .ok (.iload_n 3, 1) := by decide +kernel
theorem dX6_pairsOn_10 : decode cX6_pairsOn 10 = .ok (.aload_n 0, 1) := by decide +kernel
theorem dX6_pairsOn_11 : decode cX6_pairsOn 11 = .ok (.getfield 17, 3) := by decide +kernel
theorem dX6_pairsOn_14 : decode cX6_pairsOn 14 = .ok (.if_icmp .ge 39, 3) := by decide +kernel
theorem dX6_pairsOn_17 : decode cX6_pairsOn 17 = .ok (.aload_n 0, 1) := by decide +kernel
theorem dX6_pairsOn_18 : decode cX6_pairsOn 18 = .ok (.iload_n 3, 1) := by decide +kernel
theorem dX6_pairsOn_19 : decode cX6_pairsOn 19 = .ok (.invokevirtual 28, 3) := by decide +kernel
theorem dX6_pairsOn_22 : decode cX6_pairsOn 22 = .ok (.astore 4, 2) := by decide +kernel
theorem dX6_pairsOn_24 : decode cX6_pairsOn 24 = .ok (.aload 4, 2) := by decide +kernel
theorem dX6_pairsOn_26 : decode cX6_pairsOn 26 = .ok (.ifnull 21, 3) := by decide +kernel
theorem dX6_pairsOn_29 : decode cX6_pairsOn 29 = .ok (.aload 4, 2) := by decide +kernel
theorem dX6_pairsOn_31 : decode cX6_pairsOn 31 = .ok (.iload_n 1, 1) := by decide +kernel
theorem dX6_pairsOn_32 : decode cX6_pairsOn 32 = .ok (.invokevirtual 104, 3) := by decide +kernel
theorem dX6_pairsOn_35 : decode cX6_pairsOn 35 = .ok (.ifCond .eq 12, 3) := by decide +kernel
theorem dX6_pairsOn_38 : decode cX6_pairsOn 38 = .ok (.iload_n 2, 1) := by decide +kernel
theorem dX6_pairsOn_39 : decode cX6_pairsOn 39 = .ok (.aload_n 0, 1) := by decide +kernel
theorem dX6_pairsOn_40 : decode cX6_pairsOn 40 = .ok (.aload 4, 2) := by decide +kernel
theorem dX6_pairsOn_42 : decode cX6_pairsOn 42 = .ok (.invokevirtual 129, 3) := by decide +kernel
theorem dX6_pairsOn_45 : decode cX6_pairsOn 45 = .ok (.iadd, 1) := by decide +kernel
theorem dX6_pairsOn_46 : decode cX6_pairsOn 46 = .ok (.istore_n 2, 1) := by decide +kernel
theorem dX6_pairsOn_47 : decode cX6_pairsOn 47 = .ok (.iinc 3 1, 3) := by decide +kernel
theorem dX6_pairsOn_50 : decode cX6_pairsOn 50 = .ok (.goto (-41), 3) := by decide +kernel
theorem dX6_pairsOn_53 : decode cX6_pairsOn 53 = .ok (.iload_n 2, 1) := by decide +kernel
theorem dX6_pairsOn_54 : decode cX6_pairsOn 54 = .ok (.ireturn, 1) := by decide +kernel
theorem dX6_pairOn_0 : decode cX6_pairOn 0 = .ok (.aload_n 0, 1) := by decide +kernel
theorem dX6_pairOn_1 : decode cX6_pairOn 1 = .ok (.iload_n 1, 1) := by decide +kernel
theorem dX6_pairOn_2 : decode cX6_pairOn 2 = .ok (.invokevirtual 126, 3) := by decide +kernel
theorem dX6_pairOn_5 : decode cX6_pairOn 5 = .ok (.iload_n 2, 1) := by decide +kernel
theorem dX6_pairOn_6 : decode cX6_pairOn 6 = .ok (.istore 4, 2) := by decide +kernel
theorem dX6_pairOn_8 : decode cX6_pairOn 8 = .ok (.iconst 0, 1) := by decide +kernel
theorem dX6_pairOn_9 : decode cX6_pairOn 9 = .ok (.istore 5, 2) := by decide +kernel
theorem dX6_pairOn_11 : decode cX6_pairOn 11 = .ok (.iload 5, 2) := by decide +kernel
theorem dX6_pairOn_13 : decode cX6_pairOn 13 = .ok (.aload_n 0, 1) := by decide +kernel
theorem dX6_pairOn_14 : decode cX6_pairOn 14 = .ok (.getfield 17, 3) := by decide +kernel
theorem dX6_pairOn_17 : decode cX6_pairOn 17 = .ok (.if_icmp .ge 72, 3) := by decide +kernel
theorem dX6_pairOn_20 : decode cX6_pairOn 20 = .ok (.aload_n 0, 1) := by decide +kernel
theorem dX6_pairOn_21 : decode cX6_pairOn 21 = .ok (.iload 5, 2) := by decide +kernel
theorem dX6_pairOn_23 : decode cX6_pairOn 23 = .ok (.invokevirtual 28, 3) := by decide +kernel
theorem dX6_pairOn_26 : decode cX6_pairOn 26 = .ok (.astore 6, 2) := by decide +kernel
theorem dX6_pairOn_28 : decode cX6_pairOn 28 = .ok (.aload 6, 2) := by decide +kernel
theorem dX6_pairOn_30 : decode cX6_pairOn 30 = .ok (.ifnull 53, 3) := by decide +kernel
theorem dX6_pairOn_33 : decode cX6_pairOn 33 = .ok (.aload 6, 2) := by decide +kernel
theorem dX6_pairOn_35 : decode cX6_pairOn 35 = .ok (.iload_n 1, 1) := by decide +kernel
theorem dX6_pairOn_36 : decode cX6_pairOn 36 = .ok (.invokevirtual 104, 3) := by decide +kernel
theorem dX6_pairOn_39 : decode cX6_pairOn 39 = .ok (.ifCond .eq 44, 3) := by decide +kernel
theorem dX6_pairOn_42 : decode cX6_pairOn 42 = .ok (.aload_n 0, 1) := by decide +kernel
theorem dX6_pairOn_43 : decode cX6_pairOn 43 = .ok (.aload 6, 2) := by decide +kernel
theorem dX6_pairOn_45 : decode cX6_pairOn 45 = .ok (.invokevirtual 129, 3) := by decide +kernel
theorem dX6_pairOn_48 : decode cX6_pairOn 48 = .ok (.istore 7, 2) := by decide +kernel
theorem dX6_pairOn_50 : decode cX6_pairOn 50 = .ok (.iload 4, 2) := by decide +kernel
theorem dX6_pairOn_52 : decode cX6_pairOn 52 = .ok (.iload 7, 2) := by decide +kernel
theorem dX6_pairOn_54 : decode cX6_pairOn 54 = .ok (.if_icmp .ge 22, 3) := by decide +kernel
theorem dX6_pairOn_57 : decode cX6_pairOn 57 = .ok (.iload_n 3, 1) := by decide +kernel
theorem dX6_pairOn_58 : decode cX6_pairOn 58 = .ok (.ifCond .ne 8, 3) := by decide +kernel
theorem dX6_pairOn_61 : decode cX6_pairOn 61 = .ok (.iload 5, 2) := by decide +kernel
theorem dX6_pairOn_63 : decode cX6_pairOn 63 = .ok (.goto 12, 3) := by decide +kernel
theorem dX6_pairOn_66 : decode cX6_pairOn 66 = .ok (.aload_n 0, 1) := by decide +kernel
theorem dX6_pairOn_67 : decode cX6_pairOn 67 = .ok (.aload 6, 2) := by decide +kernel
theorem dX6_pairOn_69 : decode cX6_pairOn 69 = .ok (.iload 4, 2) := by decide +kernel
theorem dX6_pairOn_71 : decode cX6_pairOn 71 = .ok (.iload_n 1, 1) := by decide +kernel
theorem dX6_pairOn_72 : decode cX6_pairOn 72 = .ok (.invokevirtual 132, 3) := by decide +kernel
theorem dX6_pairOn_75 : decode cX6_pairOn 75 = .ok (.ireturn, 1) := by decide +kernel
theorem dX6_pairOn_76 : decode cX6_pairOn 76 = .ok (.iload 4, 2) := by decide +kernel
theorem dX6_pairOn_78 : decode cX6_pairOn 78 = .ok (.iload 7, 2) := by decide +kernel
theorem dX6_pairOn_80 : decode cX6_pairOn 80 = .ok (.isub, 1) := by decide +kernel
theorem dX6_pairOn_81 : decode cX6_pairOn 81 = .ok (.istore 4, 2) := by decide +kernel
theorem dX6_pairOn_83 : decode cX6_pairOn 83 = .ok (.iinc 5 1, 3) := by decide +kernel
theorem dX6_pairOn_86 : decode cX6_pairOn 86 = .ok (.goto (-75), 3) := by decide +kernel
theorem dX6_pairOn_89 : decode cX6_pairOn 89 = .ok (.iconst (-1), 1) := by decide +kernel
theorem dX6_pairOn_90 : decode cX6_pairOn 90 = .ok (.ireturn, 1) := by decide +kernel
theorem dX6_partnerOf_0 : decode cX6_partnerOf 0 = .ok (.iload_n 2, 1) := by decide +kernel
theorem dX6_partnerOf_1 : decode cX6_partnerOf 1 = .ok (.istore 4, 2) := by decide +kernel
theorem dX6_partnerOf_3 : decode cX6_partnerOf 3 = .ok (.aload_n 1, 1) := by decide +kernel
theorem dX6_partnerOf_4 : decode cX6_partnerOf 4 = .ok (.getfield 47, 3) := by decide +kernel
theorem dX6_partnerOf_7 : decode cX6_partnerOf 7 = .ok (.iconst 1, 1) := by decide +kernel
theorem dX6_partnerOf_8 : decode cX6_partnerOf 8 = .ok (.iadd, 1) := by decide +kernel
theorem dX6_partnerOf_9 : decode cX6_partnerOf 9 = .ok (.istore 5, 2) := by decide +kernel
theorem dX6_partnerOf_11 : decode cX6_partnerOf 11 = .ok (.iload 5, 2) := by decide +kernel
theorem dX6_partnerOf_13 : decode cX6_partnerOf 13 = .ok (.aload_n 0, 1) := by decide +kernel
theorem dX6_partnerOf_14 : decode cX6_partnerOf 14 = .ok (.getfield 17, 3) := by decide +kernel
theorem dX6_partnerOf_17 : decode cX6_partnerOf 17 = .ok (.if_icmp .ge 51, 3) := by decide +kernel
theorem dX6_partnerOf_20 : decode cX6_partnerOf 20 = .ok (.aload_n 0, 1) := by decide +kernel
theorem dX6_partnerOf_21 : decode cX6_partnerOf 21 = .ok (.iload 5, 2) := by decide +kernel
theorem dX6_partnerOf_23 : decode cX6_partnerOf 23 = .ok (.invokevirtual 28, 3) := by decide +kernel
theorem dX6_partnerOf_26 : decode cX6_partnerOf 26 = .ok (.astore 6, 2) := by decide +kernel
theorem dX6_partnerOf_28 : decode cX6_partnerOf 28 = .ok (.aload 6, 2) := by decide +kernel
theorem dX6_partnerOf_30 : decode cX6_partnerOf 30 = .ok (.ifnull 32, 3) := by decide +kernel
theorem dX6_partnerOf_33 : decode cX6_partnerOf 33 = .ok (.aload_n 1, 1) := by decide +kernel
theorem dX6_partnerOf_34 : decode cX6_partnerOf 34 = .ok (.iload 5, 2) := by decide +kernel
theorem dX6_partnerOf_36 : decode cX6_partnerOf 36 = .ok (.invokevirtual 136, 3) := by decide +kernel
theorem dX6_partnerOf_39 : decode cX6_partnerOf 39 = .ok (.ifCond .eq 23, 3) := by decide +kernel
theorem dX6_partnerOf_42 : decode cX6_partnerOf 42 = .ok (.aload 6, 2) := by decide +kernel
theorem dX6_partnerOf_44 : decode cX6_partnerOf 44 = .ok (.iload_n 3, 1) := by decide +kernel
theorem dX6_partnerOf_45 : decode cX6_partnerOf 45 = .ok (.invokevirtual 104, 3) := by decide +kernel
theorem dX6_partnerOf_48 : decode cX6_partnerOf 48 = .ok (.ifCond .eq 14, 3) := by decide +kernel
theorem dX6_partnerOf_51 : decode cX6_partnerOf 51 = .ok (.iload 4, 2) := by decide +kernel
theorem dX6_partnerOf_53 : decode cX6_partnerOf 53 = .ok (.ifCond .ne 6, 3) := by decide +kernel
theorem dX6_partnerOf_56 : decode cX6_partnerOf 56 = .ok (.iload 5, 2) := by decide +kernel
theorem dX6_partnerOf_58 : decode cX6_partnerOf 58 = .ok (.ireturn, 1) := by decide +kernel
theorem dX6_partnerOf_59 : decode cX6_partnerOf 59 = .ok (.iinc 4 (-1), 3) := by decide +kernel
theorem dX6_partnerOf_62 : decode cX6_partnerOf 62 = .ok (.iinc 5 1, 3) := by decide +kernel
theorem dX6_partnerOf_65 : decode cX6_partnerOf 65 = .ok (.goto (-54), 3) := by decide +kernel
theorem dX6_partnerOf_68 : decode cX6_partnerOf 68 = .ok (.iconst (-1), 1) := by decide +kernel
theorem dX6_partnerOf_69 : decode cX6_partnerOf 69 = .ok (.ireturn, 1) := by decide +kernel
theorem dX6_leadOf_0 : decode cX6_leadOf 0 = .ok (.aconst_null, 1) := by decide +kernel
theorem dX6_leadOf_1 : decode cX6_leadOf 1 = .ok (.astore 5, 2) := by decide +kernel
theorem dX6_leadOf_3 : decode cX6_leadOf 3 = .ok (.iconst 0, 1) := by decide +kernel
theorem dX6_leadOf_4 : decode cX6_leadOf 4 = .ok (.istore 6, 2) := by decide +kernel
theorem dX6_leadOf_6 : decode cX6_leadOf 6 = .ok (.iload 6, 2) := by decide +kernel
theorem dX6_leadOf_8 : decode cX6_leadOf 8 = .ok (.aload_n 0, 1) := by decide +kernel
theorem dX6_leadOf_9 : decode cX6_leadOf 9 = .ok (.getfield 17, 3) := by decide +kernel
theorem dX6_leadOf_12 : decode cX6_leadOf 12 = .ok (.if_icmp .ge 70, 3) := by decide +kernel
theorem dX6_leadOf_15 : decode cX6_leadOf 15 = .ok (.aload_n 0, 1) := by decide +kernel
theorem dX6_leadOf_16 : decode cX6_leadOf 16 = .ok (.iload 6, 2) := by decide +kernel
theorem dX6_leadOf_18 : decode cX6_leadOf 18 = .ok (.invokevirtual 28, 3) := by decide +kernel
theorem dX6_leadOf_21 : decode cX6_leadOf 21 = .ok (.astore 7, 2) := by decide +kernel
theorem dX6_leadOf_23 : decode cX6_leadOf 23 = .ok (.aload 7, 2) := by decide +kernel
theorem dX6_leadOf_25 : decode cX6_leadOf 25 = .ok (.ifnull 51, 3) := by decide +kernel
theorem dX6_leadOf_28 : decode cX6_leadOf 28 = .ok (.aload 7, 2) := by decide +kernel
theorem dX6_leadOf_30 : decode cX6_leadOf 30 = .ok (.iload 4, 2) := by decide +kernel
theorem dX6_leadOf_32 : decode cX6_leadOf 32 = .ok (.invokevirtual 104, 3) := by decide +kernel
theorem dX6_leadOf_35 : decode cX6_leadOf 35 = .ok (.ifCond .eq 41, 3) := by decide +kernel
theorem dX6_leadOf_38 : decode cX6_leadOf 38 = .ok (.aload 7, 2) := by decide +kernel
theorem dX6_leadOf_40 : decode cX6_leadOf 40 = .ok (.lload_n 1, 1) := by decide +kernel
theorem dX6_leadOf_41 : decode cX6_leadOf 41 = .ok (.iload_n 3, 1) := by decide +kernel
theorem dX6_leadOf_42 : decode cX6_leadOf 42 = .ok (.invokevirtual 139, 3) := by decide +kernel
theorem dX6_leadOf_45 : decode cX6_leadOf 45 = .ok (.ifCond .eq 31, 3) := by decide +kernel
theorem dX6_leadOf_48 : decode cX6_leadOf 48 = .ok (.aload 5, 2) := by decide +kernel
theorem dX6_leadOf_50 : decode cX6_leadOf 50 = .ok (.ifnull 22, 3) := by decide +kernel
theorem dX6_leadOf_53 : decode cX6_leadOf 53 = .ok (.aload 7, 2) := by decide +kernel
theorem dX6_leadOf_55 : decode cX6_leadOf 55 = .ok (.getfield 32, 3) := by decide +kernel
theorem dX6_leadOf_58 : decode cX6_leadOf 58 = .ok (.invokestatic 143, 3) := by decide +kernel
theorem dX6_leadOf_61 : decode cX6_leadOf 61 = .ok (.aload 5, 2) := by decide +kernel
theorem dX6_leadOf_63 : decode cX6_leadOf 63 = .ok (.getfield 32, 3) := by decide +kernel
theorem dX6_leadOf_66 : decode cX6_leadOf 66 = .ok (.invokestatic 143, 3) := by decide +kernel
theorem dX6_leadOf_69 : decode cX6_leadOf 69 = .ok (.if_icmp .ge 7, 3) := by decide +kernel
theorem dX6_leadOf_72 : decode cX6_leadOf 72 = .ok (.aload 7, 2) := by decide +kernel
theorem dX6_leadOf_74 : decode cX6_leadOf 74 = .ok (.astore 5, 2) := by decide +kernel
theorem dX6_leadOf_76 : decode cX6_leadOf 76 = .ok (.iinc 6 1, 3) := by decide +kernel
theorem dX6_leadOf_79 : decode cX6_leadOf 79 = .ok (.goto (-73), 3) := by decide +kernel
theorem dX6_leadOf_82 : decode cX6_leadOf 82 = .ok (.aload 5, 2) := by decide +kernel
theorem dX6_leadOf_84 : decode cX6_leadOf 84 = .ok (.areturn, 1) := by decide +kernel
theorem dX6_rankOf_0 : decode cX6_rankOf 0 = .ok (.iload_n 0, 1) := by decide +kernel
theorem dX6_rankOf_1 : decode cX6_rankOf 1 = .ok (.tableswitch 37 0 3 #[33, 31, 37, 35], 31) := by decide +kernel
theorem dX6_rankOf_32 : decode cX6_rankOf 32 = .ok (.iconst 0, 1) := by decide +kernel
theorem dX6_rankOf_33 : decode cX6_rankOf 33 = .ok (.ireturn, 1) := by decide +kernel
theorem dX6_rankOf_34 : decode cX6_rankOf 34 = .ok (.iconst 1, 1) := by decide +kernel
theorem dX6_rankOf_35 : decode cX6_rankOf 35 = .ok (.ireturn, 1) := by decide +kernel
theorem dX6_rankOf_36 : decode cX6_rankOf 36 = .ok (.iconst 2, 1) := by decide +kernel
theorem dX6_rankOf_37 : decode cX6_rankOf 37 = .ok (.ireturn, 1) := by decide +kernel
theorem dX6_rankOf_38 : decode cX6_rankOf 38 = .ok (.iconst 3, 1) := by decide +kernel
theorem dX6_rankOf_39 : decode cX6_rankOf 39 = .ok (.ireturn, 1) := by decide +kernel
theorem dX6_read_0 : decode cX6_read 0 = .ok (.aload_n 0, 1) := by decide +kernel
theorem dX6_read_1 : decode cX6_read 1 = .ok (.getfield 24, 3) := by decide +kernel
theorem dX6_read_4 : decode cX6_read 4 = .ok (.invokevirtual 147, 3) := by decide +kernel
theorem dX6_read_7 : decode cX6_read 7 = .ok (.iconst 0, 1) := by decide +kernel
theorem dX6_read_8 : decode cX6_read 8 = .ok (.istore 5, 2) := by decide +kernel
theorem dX6_read_10 : decode cX6_read 10 = .ok (.iload 5, 2) := by decide +kernel
theorem dX6_read_12 : decode cX6_read 12 = .ok (.aload_n 0, 1) := by decide +kernel
theorem dX6_read_13 : decode cX6_read 13 = .ok (.getfield 17, 3) := by decide +kernel
theorem dX6_read_16 : decode cX6_read 16 = .ok (.if_icmp .ge 52, 3) := by decide +kernel
theorem dX6_read_19 : decode cX6_read 19 = .ok (.aload_n 0, 1) := by decide +kernel
theorem dX6_read_20 : decode cX6_read 20 = .ok (.iload 5, 2) := by decide +kernel
theorem dX6_read_22 : decode cX6_read 22 = .ok (.invokevirtual 28, 3) := by decide +kernel
theorem dX6_read_25 : decode cX6_read 25 = .ok (.astore 6, 2) := by decide +kernel
theorem dX6_read_27 : decode cX6_read 27 = .ok (.aload 6, 2) := by decide +kernel
theorem dX6_read_29 : decode cX6_read 29 = .ok (.ifnull 33, 3) := by decide +kernel
theorem dX6_read_32 : decode cX6_read 32 = .ok (.aload 6, 2) := by decide +kernel
theorem dX6_read_34 : decode cX6_read 34 = .ok (.iload 4, 2) := by decide +kernel
theorem dX6_read_36 : decode cX6_read 36 = .ok (.invokevirtual 104, 3) := by decide +kernel
theorem dX6_read_39 : decode cX6_read 39 = .ok (.ifCond .eq 23, 3) := by decide +kernel
theorem dX6_read_42 : decode cX6_read 42 = .ok (.aload 6, 2) := by decide +kernel
theorem dX6_read_44 : decode cX6_read 44 = .ok (.lload_n 1, 1) := by decide +kernel
theorem dX6_read_45 : decode cX6_read 45 = .ok (.iload_n 3, 1) := by decide +kernel
theorem dX6_read_46 : decode cX6_read 46 = .ok (.invokevirtual 150, 3) := by decide +kernel
theorem dX6_read_49 : decode cX6_read 49 = .ok (.ifCond .eq 13, 3) := by decide +kernel
theorem dX6_read_52 : decode cX6_read 52 = .ok (.aload_n 0, 1) := by decide +kernel
theorem dX6_read_53 : decode cX6_read 53 = .ok (.getfield 24, 3) := by decide +kernel
theorem dX6_read_56 : decode cX6_read 56 = .ok (.aload 6, 2) := by decide +kernel
theorem dX6_read_58 : decode cX6_read 58 = .ok (.iload_n 3, 1) := by decide +kernel
theorem dX6_read_59 : decode cX6_read 59 = .ok (.invokevirtual 153, 3) := by decide +kernel
theorem dX6_read_62 : decode cX6_read 62 = .ok (.iinc 5 1, 3) := by decide +kernel
theorem dX6_read_65 : decode cX6_read 65 = .ok (.goto (-55), 3) := by decide +kernel
theorem dX6_read_68 : decode cX6_read 68 = .ok (.aload_n 0, 1) := by decide +kernel
theorem dX6_read_69 : decode cX6_read 69 = .ok (.getfield 24, 3) := by decide +kernel
theorem dX6_read_72 : decode cX6_read 72 = .ok (.areturn, 1) := by decide +kernel
theorem dX6_roomOf_0 : decode cX6_roomOf 0 = .ok (.lconst 0, 1) := by decide +kernel
theorem dX6_roomOf_1 : decode cX6_roomOf 1 = .ok (.lstore_n 3, 1) := by decide +kernel
theorem dX6_roomOf_2 : decode cX6_roomOf 2 = .ok (.iconst 0, 1) := by decide +kernel
theorem dX6_roomOf_3 : decode cX6_roomOf 3 = .ok (.istore 5, 2) := by decide +kernel
theorem dX6_roomOf_5 : decode cX6_roomOf 5 = .ok (.iload 5, 2) := by decide +kernel
theorem dX6_roomOf_7 : decode cX6_roomOf 7 = .ok (.aload_n 0, 1) := by decide +kernel
theorem dX6_roomOf_8 : decode cX6_roomOf 8 = .ok (.getfield 17, 3) := by decide +kernel
theorem dX6_roomOf_11 : decode cX6_roomOf 11 = .ok (.if_icmp .ge 40, 3) := by decide +kernel
theorem dX6_roomOf_14 : decode cX6_roomOf 14 = .ok (.aload_n 0, 1) := by decide +kernel
theorem dX6_roomOf_15 : decode cX6_roomOf 15 = .ok (.iload 5, 2) := by decide +kernel
theorem dX6_roomOf_17 : decode cX6_roomOf 17 = .ok (.invokevirtual 157, 3) := by decide +kernel
theorem dX6_roomOf_20 : decode cX6_roomOf 20 = .ok (.astore 6, 2) := by decide +kernel
theorem dX6_roomOf_22 : decode cX6_roomOf 22 = .ok (.aload 6, 2) := by decide +kernel
theorem dX6_roomOf_24 : decode cX6_roomOf 24 = .ok (.ifnull 21, 3) := by decide +kernel
theorem dX6_roomOf_27 : decode cX6_roomOf 27 = .ok (.aload 6, 2) := by decide +kernel
theorem dX6_roomOf_29 : decode cX6_roomOf 29 = .ok (.getfield 56, 3) := by decide +kernel
theorem dX6_roomOf_32 : decode cX6_roomOf 32 = .ok (.iload_n 1, 1) := by decide +kernel
theorem dX6_roomOf_33 : decode cX6_roomOf 33 = .ok (.if_icmp .ne 12, 3) := by decide +kernel
theorem dX6_roomOf_36 : decode cX6_roomOf 36 = .ok (.lload_n 3, 1) := by decide +kernel
theorem dX6_roomOf_37 : decode cX6_roomOf 37 = .ok (.aload 6, 2) := by decide +kernel
theorem dX6_roomOf_39 : decode cX6_roomOf 39 = .ok (.iload_n 2, 1) := by decide +kernel
theorem dX6_roomOf_40 : decode cX6_roomOf 40 = .ok (.invokevirtual 160, 3) := by decide +kernel
theorem dX6_roomOf_43 : decode cX6_roomOf 43 = .ok (.ladd, 1) := by decide +kernel
theorem dX6_roomOf_44 : decode cX6_roomOf 44 = .ok (.lstore_n 3, 1) := by decide +kernel
theorem dX6_roomOf_45 : decode cX6_roomOf 45 = .ok (.iinc 5 1, 3) := by decide +kernel
theorem dX6_roomOf_48 : decode cX6_roomOf 48 = .ok (.goto (-43), 3) := by decide +kernel
theorem dX6_roomOf_51 : decode cX6_roomOf 51 = .ok (.lload_n 3, 1) := by decide +kernel
theorem dX6_roomOf_52 : decode cX6_roomOf 52 = .ok (.lreturn, 1) := by decide +kernel
theorem dX6_nextTurn_0 : decode cX6_nextTurn 0 = .ok (.sipush 2001, 3) := by decide +kernel
theorem dX6_nextTurn_3 : decode cX6_nextTurn 3 = .ok (.istore_n 3, 1) := by decide +kernel
theorem dX6_nextTurn_4 : decode cX6_nextTurn 4 = .ok (.iconst 0, 1) := by decide +kernel
theorem dX6_nextTurn_5 : decode cX6_nextTurn 5 = .ok (.istore 4, 2) := by decide +kernel
theorem dX6_nextTurn_7 : decode cX6_nextTurn 7 = .ok (.iload 4, 2) := by decide +kernel
theorem dX6_nextTurn_9 : decode cX6_nextTurn 9 = .ok (.aload_n 0, 1) := by decide +kernel
theorem dX6_nextTurn_10 : decode cX6_nextTurn 10 = .ok (.getfield 17, 3) := by decide +kernel
theorem dX6_nextTurn_13 : decode cX6_nextTurn 13 = .ok (.if_icmp .ge 72, 3) := by decide +kernel
theorem dX6_nextTurn_16 : decode cX6_nextTurn 16 = .ok (.aload_n 0, 1) := by decide +kernel
theorem dX6_nextTurn_17 : decode cX6_nextTurn 17 = .ok (.iload 4, 2) := by decide +kernel
theorem dX6_nextTurn_19 : decode cX6_nextTurn 19 = .ok (.invokevirtual 157, 3) := by decide +kernel
theorem dX6_nextTurn_22 : decode cX6_nextTurn 22 = .ok (.astore 5, 2) := by decide +kernel
theorem dX6_nextTurn_24 : decode cX6_nextTurn 24 = .ok (.aload 5, 2) := by decide +kernel
theorem dX6_nextTurn_26 : decode cX6_nextTurn 26 = .ok (.ifnull 53, 3) := by decide +kernel
theorem dX6_nextTurn_29 : decode cX6_nextTurn 29 = .ok (.aload 5, 2) := by decide +kernel
theorem dX6_nextTurn_31 : decode cX6_nextTurn 31 = .ok (.getfield 56, 3) := by decide +kernel
theorem dX6_nextTurn_34 : decode cX6_nextTurn 34 = .ok (.iload_n 1, 1) := by decide +kernel
theorem dX6_nextTurn_35 : decode cX6_nextTurn 35 = .ok (.if_icmp .ne 44, 3) := by decide +kernel
theorem dX6_nextTurn_38 : decode cX6_nextTurn 38 = .ok (.iload_n 3, 1) := by decide +kernel
theorem dX6_nextTurn_39 : decode cX6_nextTurn 39 = .ok (.aload 5, 2) := by decide +kernel
theorem dX6_nextTurn_41 : decode cX6_nextTurn 41 = .ok (.getfield 53, 3) := by decide +kernel
theorem dX6_nextTurn_44 : decode cX6_nextTurn 44 = .ok (.invokestatic 164, 3) := by decide +kernel
theorem dX6_nextTurn_47 : decode cX6_nextTurn 47 = .ok (.iload_n 2, 1) := by decide +kernel
theorem dX6_nextTurn_48 : decode cX6_nextTurn 48 = .ok (.invokestatic 167, 3) := by decide +kernel
theorem dX6_nextTurn_51 : decode cX6_nextTurn 51 = .ok (.istore_n 3, 1) := by decide +kernel
theorem dX6_nextTurn_52 : decode cX6_nextTurn 52 = .ok (.aload 5, 2) := by decide +kernel
theorem dX6_nextTurn_54 : decode cX6_nextTurn 54 = .ok (.getfield 75, 3) := by decide +kernel
theorem dX6_nextTurn_57 : decode cX6_nextTurn 57 = .ok (.iconst (-1), 1) := by decide +kernel
theorem dX6_nextTurn_58 : decode cX6_nextTurn 58 = .ok (.if_icmp .ne 7, 3) := by decide +kernel
theorem dX6_nextTurn_61 : decode cX6_nextTurn 61 = .ok (.iload_n 3, 1) := by decide +kernel
theorem dX6_nextTurn_62 : decode cX6_nextTurn 62 = .ok (.goto 16, 3) := by decide +kernel
theorem dX6_nextTurn_65 : decode cX6_nextTurn 65 = .ok (.iload_n 3, 1) := by decide +kernel
theorem dX6_nextTurn_66 : decode cX6_nextTurn 66 = .ok (.aload 5, 2) := by decide +kernel
theorem dX6_nextTurn_68 : decode cX6_nextTurn 68 = .ok (.getfield 75, 3) := by decide +kernel
theorem dX6_nextTurn_71 : decode cX6_nextTurn 71 = .ok (.invokestatic 164, 3) := by decide +kernel
theorem dX6_nextTurn_74 : decode cX6_nextTurn 74 = .ok (.iload_n 2, 1) := by decide +kernel
theorem dX6_nextTurn_75 : decode cX6_nextTurn 75 = .ok (.invokestatic 167, 3) := by decide +kernel
theorem dX6_nextTurn_78 : decode cX6_nextTurn 78 = .ok (.istore_n 3, 1) := by decide +kernel
theorem dX6_nextTurn_79 : decode cX6_nextTurn 79 = .ok (.iinc 4 1, 3) := by decide +kernel
theorem dX6_nextTurn_82 : decode cX6_nextTurn 82 = .ok (.goto (-75), 3) := by decide +kernel
theorem dX6_nextTurn_85 : decode cX6_nextTurn 85 = .ok (.iload_n 3, 1) := by decide +kernel
theorem dX6_nextTurn_86 : decode cX6_nextTurn 86 = .ok (.ireturn, 1) := by decide +kernel
theorem dX6_sooner_0 : decode cX6_sooner 0 = .ok (.iload_n 1, 1) := by decide +kernel
theorem dX6_sooner_1 : decode cX6_sooner 1 = .ok (.iload_n 2, 1) := by decide +kernel
theorem dX6_sooner_2 : decode cX6_sooner 2 = .ok (.if_icmp .le 12, 3) := by decide +kernel
theorem dX6_sooner_5 : decode cX6_sooner 5 = .ok (.iload_n 1, 1) := by decide +kernel
theorem dX6_sooner_6 : decode cX6_sooner 6 = .ok (.iload_n 0, 1) := by decide +kernel
theorem dX6_sooner_7 : decode cX6_sooner 7 = .ok (.if_icmp .ge 7, 3) := by decide +kernel
theorem dX6_sooner_10 : decode cX6_sooner 10 = .ok (.iload_n 1, 1) := by decide +kernel
theorem dX6_sooner_11 : decode cX6_sooner 11 = .ok (.goto 4, 3) := by decide +kernel
theorem dX6_sooner_14 : decode cX6_sooner 14 = .ok (.iload_n 0, 1) := by decide +kernel
theorem dX6_sooner_15 : decode cX6_sooner 15 = .ok (.ireturn, 1) := by decide +kernel
theorem dX6_clashesOn_0 : decode cX6_clashesOn 0 = .ok (.iconst 0, 1) := by decide +kernel
theorem dX6_clashesOn_1 : decode cX6_clashesOn 1 = .ok (.istore_n 3, 1) := by decide +kernel
theorem dX6_clashesOn_2 : decode cX6_clashesOn 2 = .ok (.iload_n 3, 1) := by decide +kernel
theorem dX6_clashesOn_3 : decode cX6_clashesOn 3 = .ok (.aload_n 0, 1) := by decide +kernel
theorem dX6_clashesOn_4 : decode cX6_clashesOn 4 = .ok (.getfield 17, 3) := by decide +kernel
theorem dX6_clashesOn_7 : decode cX6_clashesOn 7 = .ok (.if_icmp .ge 41, 3) := by decide +kernel
theorem dX6_clashesOn_10 : decode cX6_clashesOn 10 = .ok (.aload_n 0, 1) := by decide +kernel
theorem dX6_clashesOn_11 : decode cX6_clashesOn 11 = .ok (.iload_n 3, 1) := by decide +kernel
theorem dX6_clashesOn_12 : decode cX6_clashesOn 12 = .ok (.invokevirtual 28, 3) := by decide +kernel
theorem dX6_clashesOn_15 : decode cX6_clashesOn 15 = .ok (.astore 4, 2) := by decide +kernel
theorem dX6_clashesOn_17 : decode cX6_clashesOn 17 = .ok (.aload 4, 2) := by decide +kernel
theorem dX6_clashesOn_19 : decode cX6_clashesOn 19 = .ok (.ifnull 23, 3) := by decide +kernel
theorem dX6_clashesOn_22 : decode cX6_clashesOn 22 = .ok (.aload 4, 2) := by decide +kernel
theorem dX6_clashesOn_24 : decode cX6_clashesOn 24 = .ok (.iload_n 2, 1) := by decide +kernel
theorem dX6_clashesOn_25 : decode cX6_clashesOn 25 = .ok (.invokevirtual 104, 3) := by decide +kernel
theorem dX6_clashesOn_28 : decode cX6_clashesOn 28 = .ok (.ifCond .eq 14, 3) := by decide +kernel
theorem dX6_clashesOn_31 : decode cX6_clashesOn 31 = .ok (.aload 4, 2) := by decide +kernel
theorem dX6_clashesOn_33 : decode cX6_clashesOn 33 = .ok (.aload_n 1, 1) := by decide +kernel
theorem dX6_clashesOn_34 : decode cX6_clashesOn 34 = .ok (.invokevirtual 39, 3) := by decide +kernel
theorem dX6_clashesOn_37 : decode cX6_clashesOn 37 = .ok (.ifCond .eq 5, 3) := by decide +kernel
theorem dX6_clashesOn_40 : decode cX6_clashesOn 40 = .ok (.iconst 1, 1) := by decide +kernel
theorem dX6_clashesOn_41 : decode cX6_clashesOn 41 = .ok (.ireturn, 1) := by decide +kernel
theorem dX6_clashesOn_42 : decode cX6_clashesOn 42 = .ok (.iinc 3 1, 3) := by decide +kernel
theorem dX6_clashesOn_45 : decode cX6_clashesOn 45 = .ok (.goto (-43), 3) := by decide +kernel
theorem dX6_clashesOn_48 : decode cX6_clashesOn 48 = .ok (.iconst 0, 1) := by decide +kernel
theorem dX6_clashesOn_49 : decode cX6_clashesOn 49 = .ok (.ireturn, 1) := by decide +kernel
theorem dX7_init_0 : decode cX7_init 0 = .ok (.aload_n 0, 1) := by decide +kernel
theorem dX7_init_1 : decode cX7_init 1 = .ok (.invokespecial 1, 3) := by decide +kernel
theorem dX7_init_4 : decode cX7_init 4 = .ok (.aload_n 0, 1) := by decide +kernel
theorem dX7_init_5 : decode cX7_init 5 = .ok (.iload_n 1, 1) := by decide +kernel
theorem dX7_init_6 : decode cX7_init 6 = .ok (.putfield 7, 3) := by decide +kernel
theorem dX7_init_9 : decode cX7_init 9 = .ok (.aload_n 0, 1) := by decide +kernel
theorem dX7_init_10 : decode cX7_init 10 = .ok (.iload_n 2, 1) := by decide +kernel
theorem dX7_init_11 : decode cX7_init 11 = .ok (.putfield 13, 3) := by decide +kernel
theorem dX7_init_14 : decode cX7_init 14 = .ok (.aload_n 0, 1) := by decide +kernel
theorem dX7_init_15 : decode cX7_init 15 = .ok (.aload_n 3, 1) := by decide +kernel
theorem dX7_init_16 : decode cX7_init 16 = .ok (.putfield 16, 3) := by decide +kernel
theorem dX7_init_19 : decode cX7_init 19 = .ok (.return_, 1) := by decide +kernel
theorem dX8_init_0 : decode cX8_init 0 = .ok (.aload_n 0, 1) := by decide +kernel
theorem dX8_init_1 : decode cX8_init 1 = .ok (.invokespecial 3, 3) := by decide +kernel
theorem dX8_init_4 : decode cX8_init 4 = .ok (.return_, 1) := by decide +kernel
theorem dX8_clear_0 : decode cX8_clear 0 = .ok (.aload_n 0, 1) := by decide +kernel
theorem dX8_clear_1 : decode cX8_clear 1 = .ok (.iconst 0, 1) := by decide +kernel
theorem dX8_clear_2 : decode cX8_clear 2 = .ok (.putfield 9, 3) := by decide +kernel
theorem dX8_clear_5 : decode cX8_clear 5 = .ok (.aload_n 0, 1) := by decide +kernel
theorem dX8_clear_6 : decode cX8_clear 6 = .ok (.iconst 0, 1) := by decide +kernel
theorem dX8_clear_7 : decode cX8_clear 7 = .ok (.putfield 15, 3) := by decide +kernel
theorem dX8_clear_10 : decode cX8_clear 10 = .ok (.aload_n 0, 1) := by decide +kernel
theorem dX8_clear_11 : decode cX8_clear 11 = .ok (.iconst (-1), 1) := by decide +kernel
theorem dX8_clear_12 : decode cX8_clear 12 = .ok (.putfield 19, 3) := by decide +kernel
theorem dX8_clear_15 : decode cX8_clear 15 = .ok (.aload_n 0, 1) := by decide +kernel
theorem dX8_clear_16 : decode cX8_clear 16 = .ok (.iconst (-1), 1) := by decide +kernel
theorem dX8_clear_17 : decode cX8_clear 17 = .ok (.putfield 22, 3) := by decide +kernel
theorem dX8_clear_20 : decode cX8_clear 20 = .ok (.return_, 1) := by decide +kernel
theorem dX8_add_0 : decode cX8_add 0 = .ok (.aload_n 0, 1) := by decide +kernel
theorem dX8_add_1 : decode cX8_add 1 = .ok (.aload_n 0, 1) := by decide +kernel
theorem dX8_add_2 : decode cX8_add 2 = .ok (.getfield 9, 3) := by decide +kernel
theorem dX8_add_5 : decode cX8_add 5 = .ok (.ifCond .ne 11, 3) := by decide +kernel
theorem dX8_add_8 : decode cX8_add 8 = .ok (.iload_n 2, 1) := by decide +kernel
theorem dX8_add_9 : decode cX8_add 9 = .ok (.aload_n 1, 1) := by decide +kernel
theorem dX8_add_10 : decode cX8_add 10 = .ok (.getfield 25, 3) := by decide +kernel
theorem dX8_add_13 : decode cX8_add 13 = .ok (.if_icmp .lt 7, 3) := by decide +kernel
theorem dX8_add_16 : decode cX8_add 16 = .ok (.iconst 1, 1) := by decide +kernel
theorem dX8_add_17 : decode cX8_add 17 = .ok (.goto 4, 3) := by decide +kernel
theorem dX8_add_20 : decode cX8_add 20 = .ok (.iconst 0, 1) := by decide +kernel
theorem dX8_add_21 : decode cX8_add 21 = .ok (.putfield 9, 3) := by decide +kernel
theorem dX8_add_24 : decode cX8_add 24 = .ok (.iload_n 2, 1) := by decide +kernel
theorem dX8_add_25 : decode cX8_add 25 = .ok (.aload_n 1, 1) := by decide +kernel
theorem dX8_add_26 : decode cX8_add 26 = .ok (.getfield 30, 3) := by decide +kernel
theorem dX8_add_29 : decode cX8_add 29 = .ok (.if_icmp .ge 69, 3) := by decide +kernel
theorem dX8_add_32 : decode cX8_add 32 = .ok (.iconst 1, 1) := by decide +kernel
theorem dX8_add_33 : decode cX8_add 33 = .ok (.aload_n 1, 1) := by decide +kernel
theorem dX8_add_34 : decode cX8_add 34 = .ok (.getfield 25, 3) := by decide +kernel
theorem dX8_add_37 : decode cX8_add 37 = .ok (.iload_n 2, 1) := by decide +kernel
theorem dX8_add_38 : decode cX8_add 38 = .ok (.isub, 1) := by decide +kernel
theorem dX8_add_39 : decode cX8_add 39 = .ok (.invokestatic 33, 3) := by decide +kernel
theorem dX8_add_42 : decode cX8_add 42 = .ok (.istore_n 3, 1) := by decide +kernel
theorem dX8_add_43 : decode cX8_add 43 = .ok (.aload_n 0, 1) := by decide +kernel
theorem dX8_add_44 : decode cX8_add 44 = .ok (.aload_n 0, 1) := by decide +kernel
theorem dX8_add_45 : decode cX8_add 45 = .ok (.getfield 19, 3) := by decide +kernel
theorem dX8_add_48 : decode cX8_add 48 = .ok (.iconst (-1), 1) := by decide +kernel
theorem dX8_add_49 : decode cX8_add 49 = .ok (.if_icmp .ne 7, 3) := by decide +kernel
theorem dX8_add_52 : decode cX8_add 52 = .ok (.iload_n 3, 1) := by decide +kernel
theorem dX8_add_53 : decode cX8_add 53 = .ok (.goto 11, 3) := by decide +kernel
theorem dX8_add_56 : decode cX8_add 56 = .ok (.aload_n 0, 1) := by decide +kernel
theorem dX8_add_57 : decode cX8_add 57 = .ok (.getfield 19, 3) := by decide +kernel
theorem dX8_add_60 : decode cX8_add 60 = .ok (.iload_n 3, 1) := by decide +kernel
theorem dX8_add_61 : decode cX8_add 61 = .ok (.invokestatic 39, 3) := by decide +kernel
theorem dX8_add_64 : decode cX8_add 64 = .ok (.putfield 19, 3) := by decide +kernel
theorem dX8_add_67 : decode cX8_add 67 = .ok (.aload_n 0, 1) := by decide +kernel
theorem dX8_add_68 : decode cX8_add 68 = .ok (.aload_n 0, 1) := by decide +kernel
theorem dX8_add_69 : decode cX8_add 69 = .ok (.getfield 22, 3) := by decide +kernel
theorem dX8_add_72 : decode cX8_add 72 = .ok (.aload_n 1, 1) := by decide +kernel
theorem dX8_add_73 : decode cX8_add 73 = .ok (.getfield 30, 3) := by decide +kernel
theorem dX8_add_76 : decode cX8_add 76 = .ok (.iload_n 2, 1) := by decide +kernel
theorem dX8_add_77 : decode cX8_add 77 = .ok (.isub, 1) := by decide +kernel
theorem dX8_add_78 : decode cX8_add 78 = .ok (.invokestatic 33, 3) := by decide +kernel
theorem dX8_add_81 : decode cX8_add 81 = .ok (.putfield 22, 3) := by decide +kernel
theorem dX8_add_84 : decode cX8_add 84 = .ok (.aload_n 0, 1) := by decide +kernel
theorem dX8_add_85 : decode cX8_add 85 = .ok (.dup, 1) := by decide +kernel
theorem dX8_add_86 : decode cX8_add 86 = .ok (.getfield 15, 3) := by decide +kernel
theorem dX8_add_89 : decode cX8_add 89 = .ok (.aload_n 1, 1) := by decide +kernel
theorem dX8_add_90 : decode cX8_add 90 = .ok (.iload_n 2, 1) := by decide +kernel
theorem dX8_add_91 : decode cX8_add 91 = .ok (.invokevirtual 42, 3) := by decide +kernel
theorem dX8_add_94 : decode cX8_add 94 = .ok (.ior, 1) := by decide +kernel
theorem dX8_add_95 : decode cX8_add 95 = .ok (.putfield 15, 3) := by decide +kernel
theorem dX8_add_98 : decode cX8_add 98 = .ok (.return_, 1) := by decide +kernel
theorem dX8_answer_0 : decode cX8_answer 0 = .ok (.aload_n 0, 1) := by decide +kernel
theorem dX8_answer_1 : decode cX8_answer 1 = .ok (.getfield 9, 3) := by decide +kernel
theorem dX8_answer_4 : decode cX8_answer 4 = .ok (.ifCond .eq 17, 3) := by decide +kernel
theorem dX8_answer_7 : decode cX8_answer 7 = .ok (.aload_n 0, 1) := by decide +kernel
theorem dX8_answer_8 : decode cX8_answer 8 = .ok (.getfield 22, 3) := by decide +kernel
theorem dX8_answer_11 : decode cX8_answer 11 = .ok (.iconst (-1), 1) := by decide +kernel
theorem dX8_answer_12 : decode cX8_answer 12 = .ok (.if_icmp .ne 7, 3) := by decide +kernel
theorem dX8_answer_15 : decode cX8_answer 15 = .ok (.iconst 1, 1) := by decide +kernel
theorem dX8_answer_16 : decode cX8_answer 16 = .ok (.goto 4, 3) := by decide +kernel
theorem dX8_answer_19 : decode cX8_answer 19 = .ok (.iconst 2, 1) := by decide +kernel
theorem dX8_answer_20 : decode cX8_answer 20 = .ok (.ireturn, 1) := by decide +kernel
theorem dX8_answer_21 : decode cX8_answer 21 = .ok (.aload_n 0, 1) := by decide +kernel
theorem dX8_answer_22 : decode cX8_answer 22 = .ok (.getfield 22, 3) := by decide +kernel
theorem dX8_answer_25 : decode cX8_answer 25 = .ok (.iconst (-1), 1) := by decide +kernel
theorem dX8_answer_26 : decode cX8_answer 26 = .ok (.if_icmp .ne 7, 3) := by decide +kernel
theorem dX8_answer_29 : decode cX8_answer 29 = .ok (.iconst 3, 1) := by decide +kernel
theorem dX8_answer_30 : decode cX8_answer 30 = .ok (.goto 4, 3) := by decide +kernel
theorem dX8_answer_33 : decode cX8_answer 33 = .ok (.iconst 0, 1) := by decide +kernel
theorem dX8_answer_34 : decode cX8_answer 34 = .ok (.ireturn, 1) := by decide +kernel
theorem dX9_init_0 : decode cX9_init 0 = .ok (.aload_n 0, 1) := by decide +kernel
theorem dX9_init_1 : decode cX9_init 1 = .ok (.invokespecial 3, 3) := by decide +kernel
theorem dX9_init_4 : decode cX9_init 4 = .ok (.aload_n 0, 1) := by decide +kernel
theorem dX9_init_5 : decode cX9_init 5 = .ok (.aload_n 1, 1) := by decide +kernel
theorem dX9_init_6 : decode cX9_init 6 = .ok (.putfield 9, 3) := by decide +kernel
theorem dX9_init_9 : decode cX9_init 9 = .ok (.aload_n 0, 1) := by decide +kernel
theorem dX9_init_10 : decode cX9_init 10 = .ok (.bipush 16, 2) := by decide +kernel
theorem dX9_init_12 : decode cX9_init 12 = .ok (.anewarray 15, 3) := by decide +kernel
theorem dX9_init_15 : decode cX9_init 15 = .ok (.putfield 17, 3) := by decide +kernel
theorem dX9_init_18 : decode cX9_init 18 = .ok (.iconst 0, 1) := by decide +kernel
theorem dX9_init_19 : decode cX9_init 19 = .ok (.istore_n 2, 1) := by decide +kernel
theorem dX9_init_20 : decode cX9_init 20 = .ok (.iload_n 2, 1) := by decide +kernel
theorem dX9_init_21 : decode cX9_init 21 = .ok (.bipush 16, 2) := by decide +kernel
theorem dX9_init_23 : decode cX9_init 23 = .ok (.if_icmp .ge 23, 3) := by decide +kernel
theorem dX9_init_26 : decode cX9_init 26 = .ok (.aload_n 0, 1) := by decide +kernel
theorem dX9_init_27 : decode cX9_init 27 = .ok (.getfield 17, 3) := by decide +kernel
theorem dX9_init_30 : decode cX9_init 30 = .ok (.iload_n 2, 1) := by decide +kernel
theorem dX9_init_31 : decode cX9_init 31 = .ok (.new 15, 3) := by decide +kernel
theorem dX9_init_34 : decode cX9_init 34 = .ok (.dup, 1) := by decide +kernel
theorem dX9_init_35 : decode cX9_init 35 = .ok (.iload_n 2, 1) := by decide +kernel
theorem dX9_init_36 : decode cX9_init 36 = .ok (.invokespecial 21, 3) := by decide +kernel
theorem dX9_init_39 : decode cX9_init 39 = .ok (.aastore, 1) := by decide +kernel
theorem dX9_init_40 : decode cX9_init 40 = .ok (.iinc 2 1, 3) := by decide +kernel
theorem dX9_init_43 : decode cX9_init 43 = .ok (.goto (-23), 3) := by decide +kernel
theorem dX9_init_46 : decode cX9_init 46 = .ok (.aload_n 0, 1) := by decide +kernel
theorem dX9_init_47 : decode cX9_init 47 = .ok (.bipush 8, 2) := by decide +kernel
theorem dX9_init_49 : decode cX9_init 49 = .ok (.anewarray 24, 3) := by decide +kernel
theorem dX9_init_52 : decode cX9_init 52 = .ok (.putfield 26, 3) := by decide +kernel
theorem dX9_init_55 : decode cX9_init 55 = .ok (.aload_n 0, 1) := by decide +kernel
theorem dX9_init_56 : decode cX9_init 56 = .ok (.sipush 249, 3) := by decide +kernel
theorem dX9_init_59 : decode cX9_init 59 = .ok (.newarray .int, 2) := by decide +kernel
theorem dX9_init_61 : decode cX9_init 61 = .ok (.putfield 30, 3) := by decide +kernel
theorem dX9_init_64 : decode cX9_init 64 = .ok (.aload_n 0, 1) := by decide +kernel
theorem dX9_init_65 : decode cX9_init 65 = .ok (.sipush 249, 3) := by decide +kernel
theorem dX9_init_68 : decode cX9_init 68 = .ok (.newarray .long, 2) := by decide +kernel
theorem dX9_init_70 : decode cX9_init 70 = .ok (.putfield 34, 3) := by decide +kernel
theorem dX9_init_73 : decode cX9_init 73 = .ok (.return_, 1) := by decide +kernel
theorem dX9_demandOf_0 : decode cX9_demandOf 0 = .ok (.iload_n 1, 1) := by decide +kernel
theorem dX9_demandOf_1 : decode cX9_demandOf 1 = .ok (.ifCond .lt 21, 3) := by decide +kernel
theorem dX9_demandOf_4 : decode cX9_demandOf 4 = .ok (.iload_n 1, 1) := by decide +kernel
theorem dX9_demandOf_5 : decode cX9_demandOf 5 = .ok (.aload_n 0, 1) := by decide +kernel
theorem dX9_demandOf_6 : decode cX9_demandOf 6 = .ok (.getfield 17, 3) := by decide +kernel
theorem dX9_demandOf_9 : decode cX9_demandOf 9 = .ok (.arraylength, 1) := by decide +kernel
theorem dX9_demandOf_10 : decode cX9_demandOf 10 = .ok (.if_icmp .ge 12, 3) := by decide +kernel
theorem dX9_demandOf_13 : decode cX9_demandOf 13 = .ok (.aload_n 0, 1) := by decide +kernel
theorem dX9_demandOf_14 : decode cX9_demandOf 14 = .ok (.getfield 17, 3) := by decide +kernel
theorem dX9_demandOf_17 : decode cX9_demandOf 17 = .ok (.iload_n 1, 1) := by decide +kernel
theorem dX9_demandOf_18 : decode cX9_demandOf 18 = .ok (.aaload, 1) := by decide +kernel
theorem dX9_demandOf_19 : decode cX9_demandOf 19 = .ok (.goto 4, 3) := by decide +kernel
theorem dX9_demandOf_22 : decode cX9_demandOf 22 = .ok (.aconst_null, 1) := by decide +kernel
theorem dX9_demandOf_23 : decode cX9_demandOf 23 = .ok (.areturn, 1) := by decide +kernel
theorem dX9_optionAt_0 : decode cX9_optionAt 0 = .ok (.iload_n 1, 1) := by decide +kernel
theorem dX9_optionAt_1 : decode cX9_optionAt 1 = .ok (.ifCond .lt 29, 3) := by decide +kernel
theorem dX9_optionAt_4 : decode cX9_optionAt 4 = .ok (.iload_n 1, 1) := by decide +kernel
theorem dX9_optionAt_5 : decode cX9_optionAt 5 = .ok (.aload_n 0, 1) := by decide +kernel
theorem dX9_optionAt_6 : decode cX9_optionAt 6 = .ok (.getfield 38, 3) := by decide +kernel
theorem dX9_optionAt_9 : decode cX9_optionAt 9 = .ok (.if_icmp .ge 21, 3) := by decide +kernel
theorem dX9_optionAt_12 : decode cX9_optionAt 12 = .ok (.iload_n 1, 1) := by decide +kernel
theorem dX9_optionAt_13 : decode cX9_optionAt 13 = .ok (.aload_n 0, 1) := by decide +kernel
theorem dX9_optionAt_14 : decode cX9_optionAt 14 = .ok (.getfield 26, 3) := by decide +kernel
theorem dX9_optionAt_17 : decode cX9_optionAt 17 = .ok (.arraylength, 1) := by decide +kernel
theorem dX9_optionAt_18 : decode cX9_optionAt 18 = .ok (.if_icmp .ge 12, 3) := by decide +kernel
theorem dX9_optionAt_21 : decode cX9_optionAt 21 = .ok (.aload_n 0, 1) := by decide +kernel
theorem dX9_optionAt_22 : decode cX9_optionAt 22 = .ok (.getfield 26, 3) := by decide +kernel
theorem dX9_optionAt_25 : decode cX9_optionAt 25 = .ok (.iload_n 1, 1) := by decide +kernel
theorem dX9_optionAt_26 : decode cX9_optionAt 26 = .ok (.aaload, 1) := by decide +kernel
theorem dX9_optionAt_27 : decode cX9_optionAt 27 = .ok (.goto 4, 3) := by decide +kernel
theorem dX9_optionAt_30 : decode cX9_optionAt 30 = .ok (.aconst_null, 1) := by decide +kernel
theorem dX9_optionAt_31 : decode cX9_optionAt 31 = .ok (.areturn, 1) := by decide +kernel
theorem dX9_offer_0 : decode cX9_offer 0 = .ok (.aload_n 0, 1) := by decide +kernel
theorem dX9_offer_1 : decode cX9_offer 1 = .ok (.getfield 38, 3) := by decide +kernel
theorem dX9_offer_4 : decode cX9_offer 4 = .ok (.aload_n 0, 1) := by decide +kernel
theorem dX9_offer_5 : decode cX9_offer 5 = .ok (.getfield 26, 3) := by decide +kernel
theorem dX9_offer_8 : decode cX9_offer 8 = .ok (.arraylength, 1) := by decide +kernel
theorem dX9_offer_9 : decode cX9_offer 9 = .ok (.if_icmp .lt 6, 3) := by decide +kernel
theorem dX9_offer_12 : decode cX9_offer 12 = .ok (.bipush (-3), 2) := by decide +kernel
theorem dX9_offer_14 : decode cX9_offer 14 = .ok (.ireturn, 1) := by decide +kernel
theorem dX9_offer_15 : decode cX9_offer 15 = .ok (.aload_n 0, 1) := by decide +kernel
theorem dX9_offer_16 : decode cX9_offer 16 = .ok (.getfield 26, 3) := by decide +kernel
theorem dX9_offer_19 : decode cX9_offer 19 = .ok (.aload_n 0, 1) := by decide +kernel
theorem dX9_offer_20 : decode cX9_offer 20 = .ok (.getfield 38, 3) := by decide +kernel
theorem dX9_offer_23 : decode cX9_offer 23 = .ok (.aload_n 1, 1) := by decide +kernel
theorem dX9_offer_24 : decode cX9_offer 24 = .ok (.aastore, 1) := by decide +kernel
theorem dX9_offer_25 : decode cX9_offer 25 = .ok (.aload_n 0, 1) := by decide +kernel
theorem dX9_offer_26 : decode cX9_offer 26 = .ok (.dup, 1) := by decide +kernel
theorem dX9_offer_27 : decode cX9_offer 27 = .ok (.getfield 38, 3) := by decide +kernel
theorem dX9_offer_30 : decode cX9_offer 30 = .ok (.iconst 1, 1) := by decide +kernel
theorem dX9_offer_31 : decode cX9_offer 31 = .ok (.iadd, 1) := by decide +kernel
theorem dX9_offer_32 : decode cX9_offer 32 = .ok (.putfield 38, 3) := by decide +kernel
theorem dX9_offer_35 : decode cX9_offer 35 = .ok (.aload_n 0, 1) := by decide +kernel
theorem dX9_offer_36 : decode cX9_offer 36 = .ok (.getfield 38, 3) := by decide +kernel
theorem dX9_offer_39 : decode cX9_offer 39 = .ok (.iconst 1, 1) := by decide +kernel
theorem dX9_offer_40 : decode cX9_offer 40 = .ok (.isub, 1) := by decide +kernel
theorem dX9_offer_41 : decode cX9_offer 41 = .ok (.ireturn, 1) := by decide +kernel
theorem dX9_withdraw_0 : decode cX9_withdraw 0 = .ok (.iload_n 1, 1) := by decide +kernel
theorem dX9_withdraw_1 : decode cX9_withdraw 1 = .ok (.ifCond .lt 23, 3) := by decide +kernel
theorem dX9_withdraw_4 : decode cX9_withdraw 4 = .ok (.iload_n 1, 1) := by decide +kernel
theorem dX9_withdraw_5 : decode cX9_withdraw 5 = .ok (.aload_n 0, 1) := by decide +kernel
theorem dX9_withdraw_6 : decode cX9_withdraw 6 = .ok (.getfield 38, 3) := by decide +kernel
theorem dX9_withdraw_9 : decode cX9_withdraw 9 = .ok (.if_icmp .ge 15, 3) := by decide +kernel
theorem dX9_withdraw_12 : decode cX9_withdraw 12 = .ok (.aload_n 0, 1) := by decide +kernel
theorem dX9_withdraw_13 : decode cX9_withdraw 13 = .ok (.getfield 38, 3) := by decide +kernel
theorem dX9_withdraw_16 : decode cX9_withdraw 16 = .ok (.aload_n 0, 1) := by decide +kernel
theorem dX9_withdraw_17 : decode cX9_withdraw 17 = .ok (.getfield 26, 3) := by decide +kernel
theorem dX9_withdraw_20 : decode cX9_withdraw 20 = .ok (.arraylength, 1) := by decide +kernel
theorem dX9_withdraw_21 : decode cX9_withdraw 21 = .ok (.if_icmp .le 4, 3) := by decide +kernel
theorem dX9_withdraw_24 : decode cX9_withdraw 24 = .ok (.return_, 1) := by decide +kernel
theorem dX9_withdraw_25 : decode cX9_withdraw 25 = .ok (.iload_n 1, 1) := by decide +kernel
theorem dX9_withdraw_26 : decode cX9_withdraw 26 = .ok (.iconst 1, 1) := by decide +kernel
theorem dX9_withdraw_27 : decode cX9_withdraw 27 = .ok (.iadd, 1) := by decide +kernel
theorem dX9_withdraw_28 : decode cX9_withdraw 28 = .ok (.istore_n 2, 1) := by decide +kernel
theorem dX9_withdraw_29 : decode cX9_withdraw 29 = .ok (.iload_n 2, 1) := by decide +kernel
theorem dX9_withdraw_30 : decode cX9_withdraw 30 = .ok (.aload_n 0, 1) := by decide +kernel
theorem dX9_withdraw_31 : decode cX9_withdraw 31 = .ok (.getfield 38, 3) := by decide +kernel
theorem dX9_withdraw_34 : decode cX9_withdraw 34 = .ok (.if_icmp .ge 23, 3) := by decide +kernel
theorem dX9_withdraw_37 : decode cX9_withdraw 37 = .ok (.aload_n 0, 1) := by decide +kernel
theorem dX9_withdraw_38 : decode cX9_withdraw 38 = .ok (.getfield 26, 3) := by decide +kernel
theorem dX9_withdraw_41 : decode cX9_withdraw 41 = .ok (.iload_n 2, 1) := by decide +kernel
theorem dX9_withdraw_42 : decode cX9_withdraw 42 = .ok (.iconst 1, 1) := by decide +kernel
theorem dX9_withdraw_43 : decode cX9_withdraw 43 = .ok (.isub, 1) := by decide +kernel
theorem dX9_withdraw_44 : decode cX9_withdraw 44 = .ok (.aload_n 0, 1) := by decide +kernel
theorem dX9_withdraw_45 : decode cX9_withdraw 45 = .ok (.getfield 26, 3) := by decide +kernel
theorem dX9_withdraw_48 : decode cX9_withdraw 48 = .ok (.iload_n 2, 1) := by decide +kernel
theorem dX9_withdraw_49 : decode cX9_withdraw 49 = .ok (.aaload, 1) := by decide +kernel
theorem dX9_withdraw_50 : decode cX9_withdraw 50 = .ok (.aastore, 1) := by decide +kernel
theorem dX9_withdraw_51 : decode cX9_withdraw 51 = .ok (.iinc 2 1, 3) := by decide +kernel
theorem dX9_withdraw_54 : decode cX9_withdraw 54 = .ok (.goto (-25), 3) := by decide +kernel
theorem dX9_withdraw_57 : decode cX9_withdraw 57 = .ok (.aload_n 0, 1) := by decide +kernel
theorem dX9_withdraw_58 : decode cX9_withdraw 58 = .ok (.dup, 1) := by decide +kernel
theorem dX9_withdraw_59 : decode cX9_withdraw 59 = .ok (.getfield 38, 3) := by decide +kernel
theorem dX9_withdraw_62 : decode cX9_withdraw 62 = .ok (.iconst 1, 1) := by decide +kernel
theorem dX9_withdraw_63 : decode cX9_withdraw 63 = .ok (.isub, 1) := by decide +kernel
theorem dX9_withdraw_64 : decode cX9_withdraw 64 = .ok (.putfield 38, 3) := by decide +kernel
theorem dX9_withdraw_67 : decode cX9_withdraw 67 = .ok (.aload_n 0, 1) := by decide +kernel
theorem dX9_withdraw_68 : decode cX9_withdraw 68 = .ok (.getfield 26, 3) := by decide +kernel
theorem dX9_withdraw_71 : decode cX9_withdraw 71 = .ok (.aload_n 0, 1) := by decide +kernel
theorem dX9_withdraw_72 : decode cX9_withdraw 72 = .ok (.getfield 38, 3) := by decide +kernel
theorem dX9_withdraw_75 : decode cX9_withdraw 75 = .ok (.aconst_null, 1) := by decide +kernel
theorem dX9_withdraw_76 : decode cX9_withdraw 76 = .ok (.aastore, 1) := by decide +kernel
theorem dX9_withdraw_77 : decode cX9_withdraw 77 = .ok (.return_, 1) := by decide +kernel
theorem dX9_firstShort_0 : decode cX9_firstShort 0 = .ok (.iload_n 2, 1) := by decide +kernel
theorem dX9_firstShort_1 : decode cX9_firstShort 1 = .ok (.istore_n 3, 1) := by decide +kernel
theorem dX9_firstShort_2 : decode cX9_firstShort 2 = .ok (.iload_n 3, 1) := by decide +kernel
theorem dX9_firstShort_3 : decode cX9_firstShort 3 = .ok (.sipush 2000, 3) := by decide +kernel
theorem dX9_firstShort_6 : decode cX9_firstShort 6 = .ok (.if_icmp .gt 61, 3) := by decide +kernel
theorem dX9_firstShort_9 : decode cX9_firstShort 9 = .ok (.aload_n 0, 1) := by decide +kernel
theorem dX9_firstShort_10 : decode cX9_firstShort 10 = .ok (.getfield 9, 3) := by decide +kernel
theorem dX9_firstShort_13 : decode cX9_firstShort 13 = .ok (.aload_n 1, 1) := by decide +kernel
theorem dX9_firstShort_14 : decode cX9_firstShort 14 = .ok (.getfield 42, 3) := by decide +kernel
theorem dX9_firstShort_17 : decode cX9_firstShort 17 = .ok (.iload_n 3, 1) := by decide +kernel
theorem dX9_firstShort_18 : decode cX9_firstShort 18 = .ok (.invokevirtual 45, 3) := by decide +kernel
theorem dX9_firstShort_21 : decode cX9_firstShort 21 = .ok (.istore 4, 2) := by decide +kernel
theorem dX9_firstShort_23 : decode cX9_firstShort 23 = .ok (.aload_n 1, 1) := by decide +kernel
theorem dX9_firstShort_24 : decode cX9_firstShort 24 = .ok (.aload_n 0, 1) := by decide +kernel
theorem dX9_firstShort_25 : decode cX9_firstShort 25 = .ok (.getfield 9, 3) := by decide +kernel
theorem dX9_firstShort_28 : decode cX9_firstShort 28 = .ok (.aload_n 1, 1) := by decide +kernel
theorem dX9_firstShort_29 : decode cX9_firstShort 29 = .ok (.getfield 42, 3) := by decide +kernel
theorem dX9_firstShort_32 : decode cX9_firstShort 32 = .ok (.bipush 7, 2) := by decide +kernel
theorem dX9_firstShort_34 : decode cX9_firstShort 34 = .ok (.iload_n 3, 1) := by decide +kernel
theorem dX9_firstShort_35 : decode cX9_firstShort 35 = .ok (.imul, 1) := by decide +kernel
theorem dX9_firstShort_36 : decode cX9_firstShort 36 = .ok (.invokevirtual 51, 3) := by decide +kernel
theorem dX9_firstShort_39 : decode cX9_firstShort 39 = .ok (.iload_n 3, 1) := by decide +kernel
theorem dX9_firstShort_40 : decode cX9_firstShort 40 = .ok (.invokevirtual 55, 3) := by decide +kernel
theorem dX9_firstShort_43 : decode cX9_firstShort 43 = .ok (.istore 5, 2) := by decide +kernel
theorem dX9_firstShort_45 : decode cX9_firstShort 45 = .ok (.iload 5, 2) := by decide +kernel
theorem dX9_firstShort_47 : decode cX9_firstShort 47 = .ok (.iload 4, 2) := by decide +kernel
theorem dX9_firstShort_49 : decode cX9_firstShort 49 = .ok (.if_icmp .ge 6, 3) := by decide +kernel
theorem dX9_firstShort_52 : decode cX9_firstShort 52 = .ok (.iload 5, 2) := by decide +kernel
theorem dX9_firstShort_54 : decode cX9_firstShort 54 = .ok (.ireturn, 1) := by decide +kernel
theorem dX9_firstShort_55 : decode cX9_firstShort 55 = .ok (.iload_n 3, 1) := by decide +kernel
theorem dX9_firstShort_56 : decode cX9_firstShort 56 = .ok (.iconst 1, 1) := by decide +kernel
theorem dX9_firstShort_57 : decode cX9_firstShort 57 = .ok (.iadd, 1) := by decide +kernel
theorem dX9_firstShort_58 : decode cX9_firstShort 58 = .ok (.iload 4, 2) := by decide +kernel
theorem dX9_firstShort_60 : decode cX9_firstShort 60 = .ok (.invokestatic 59, 3) := by decide +kernel
theorem dX9_firstShort_63 : decode cX9_firstShort 63 = .ok (.istore_n 3, 1) := by decide +kernel
theorem dX9_firstShort_64 : decode cX9_firstShort 64 = .ok (.goto (-62), 3) := by decide +kernel
theorem dX9_firstShort_67 : decode cX9_firstShort 67 = .ok (.iconst (-1), 1) := by decide +kernel
theorem dX9_firstShort_68 : decode cX9_firstShort 68 = .ok (.ireturn, 1) := by decide +kernel
theorem dX9_cheapestRelief_0 : decode cX9_cheapestRelief 0 = .ok (.aload_n 0, 1) := by decide +kernel
theorem dX9_cheapestRelief_1 : decode cX9_cheapestRelief 1 = .ok (.aload_n 1, 1) := by decide +kernel
theorem dX9_cheapestRelief_2 : decode cX9_cheapestRelief 2 = .ok (.iload_n 3, 1) := by decide +kernel
theorem dX9_cheapestRelief_3 : decode cX9_cheapestRelief 3 = .ok (.bipush 7, 2) := by decide +kernel
theorem dX9_cheapestRelief_5 : decode cX9_cheapestRelief 5 = .ok (.idiv, 1) := by decide +kernel
theorem dX9_cheapestRelief_6 : decode cX9_cheapestRelief 6 = .ok (.invokevirtual 64, 3) := by decide +kernel
theorem dX9_cheapestRelief_9 : decode cX9_cheapestRelief 9 = .ok (.istore 4, 2) := by decide +kernel
theorem dX9_cheapestRelief_11 : decode cX9_cheapestRelief 11 = .ok (.iload 4, 2) := by decide +kernel
theorem dX9_cheapestRelief_13 : decode cX9_cheapestRelief 13 = .ok (.iconst (-1), 1) := by decide +kernel
theorem dX9_cheapestRelief_14 : decode cX9_cheapestRelief 14 = .ok (.if_icmp .ne 5, 3) := by decide +kernel
theorem dX9_cheapestRelief_17 : decode cX9_cheapestRelief 17 = .ok (.iconst (-1), 1) := by decide +kernel
theorem dX9_cheapestRelief_18 : decode cX9_cheapestRelief 18 = .ok (.ireturn, 1) := by decide +kernel
theorem dX9_cheapestRelief_19 : decode cX9_cheapestRelief 19 = .ok (.aload_n 0, 1) := by decide +kernel
theorem dX9_cheapestRelief_20 : decode cX9_cheapestRelief 20 = .ok (.aload_n 1, 1) := by decide +kernel
theorem dX9_cheapestRelief_21 : decode cX9_cheapestRelief 21 = .ok (.iload 4, 2) := by decide +kernel
theorem dX9_cheapestRelief_23 : decode cX9_cheapestRelief 23 = .ok (.sipush 2000, 3) := by decide +kernel
theorem dX9_cheapestRelief_26 : decode cX9_cheapestRelief 26 = .ok (.iload 4, 2) := by decide +kernel
theorem dX9_cheapestRelief_28 : decode cX9_cheapestRelief 28 = .ok (.iload_n 2, 1) := by decide +kernel
theorem dX9_cheapestRelief_29 : decode cX9_cheapestRelief 29 = .ok (.iadd, 1) := by decide +kernel
theorem dX9_cheapestRelief_30 : decode cX9_cheapestRelief 30 = .ok (.iconst 1, 1) := by decide +kernel
theorem dX9_cheapestRelief_31 : decode cX9_cheapestRelief 31 = .ok (.isub, 1) := by decide +kernel
theorem dX9_cheapestRelief_32 : decode cX9_cheapestRelief 32 = .ok (.invokestatic 68, 3) := by decide +kernel
theorem dX9_cheapestRelief_35 : decode cX9_cheapestRelief 35 = .ok (.invokevirtual 71, 3) := by decide +kernel
theorem dX9_cheapestRelief_38 : decode cX9_cheapestRelief 38 = .ok (.aload_n 0, 1) := by decide +kernel
theorem dX9_cheapestRelief_39 : decode cX9_cheapestRelief 39 = .ok (.aload_n 1, 1) := by decide +kernel
theorem dX9_cheapestRelief_40 : decode cX9_cheapestRelief 40 = .ok (.getfield 42, 3) := by decide +kernel
theorem dX9_cheapestRelief_43 : decode cX9_cheapestRelief 43 = .ok (.iload_n 3, 1) := by decide +kernel
theorem dX9_cheapestRelief_44 : decode cX9_cheapestRelief 44 = .ok (.invokevirtual 75, 3) := by decide +kernel
theorem dX9_cheapestRelief_47 : decode cX9_cheapestRelief 47 = .ok (.istore 5, 2) := by decide +kernel
theorem dX9_cheapestRelief_49 : decode cX9_cheapestRelief 49 = .ok (.iconst (-1), 1) := by decide +kernel
theorem dX9_cheapestRelief_50 : decode cX9_cheapestRelief 50 = .ok (.istore 6, 2) := by decide +kernel
theorem dX9_cheapestRelief_52 : decode cX9_cheapestRelief 52 = .ok (.iconst 0, 1) := by decide +kernel
theorem dX9_cheapestRelief_53 : decode cX9_cheapestRelief 53 = .ok (.istore 7, 2) := by decide +kernel
theorem dX9_cheapestRelief_55 : decode cX9_cheapestRelief 55 = .ok (.iconst 1, 1) := by decide +kernel
theorem dX9_cheapestRelief_56 : decode cX9_cheapestRelief 56 = .ok (.istore 8, 2) := by decide +kernel
theorem dX9_cheapestRelief_58 : decode cX9_cheapestRelief 58 = .ok (.iload 8, 2) := by decide +kernel
theorem dX9_cheapestRelief_60 : decode cX9_cheapestRelief 60 = .ok (.iconst 1, 1) := by decide +kernel
theorem dX9_cheapestRelief_61 : decode cX9_cheapestRelief 61 = .ok (.aload_n 0, 1) := by decide +kernel
theorem dX9_cheapestRelief_62 : decode cX9_cheapestRelief 62 = .ok (.getfield 38, 3) := by decide +kernel
theorem dX9_cheapestRelief_65 : decode cX9_cheapestRelief 65 = .ok (.ishl, 1) := by decide +kernel
theorem dX9_cheapestRelief_66 : decode cX9_cheapestRelief 66 = .ok (.if_icmp .ge 81, 3) := by decide +kernel
theorem dX9_cheapestRelief_69 : decode cX9_cheapestRelief 69 = .ok (.iload 8, 2) := by decide +kernel
theorem dX9_cheapestRelief_71 : decode cX9_cheapestRelief 71 = .ok (.iload 5, 2) := by decide +kernel
theorem dX9_cheapestRelief_73 : decode cX9_cheapestRelief 73 = .ok (.iconst (-1), 1) := by decide +kernel
theorem dX9_cheapestRelief_74 : decode cX9_cheapestRelief 74 = .ok (.ixor, 1) := by decide +kernel
theorem dX9_cheapestRelief_75 : decode cX9_cheapestRelief 75 = .ok (.iand, 1) := by decide +kernel
theorem dX9_cheapestRelief_76 : decode cX9_cheapestRelief 76 = .ok (.ifCond .ne 65, 3) := by decide +kernel
theorem dX9_cheapestRelief_79 : decode cX9_cheapestRelief 79 = .ok (.aload_n 0, 1) := by decide +kernel
theorem dX9_cheapestRelief_80 : decode cX9_cheapestRelief 80 = .ok (.iload 8, 2) := by decide +kernel
theorem dX9_cheapestRelief_82 : decode cX9_cheapestRelief 82 = .ok (.invokevirtual 78, 3) := by decide +kernel
theorem dX9_cheapestRelief_85 : decode cX9_cheapestRelief 85 = .ok (.istore 9, 2) := by decide +kernel
theorem dX9_cheapestRelief_87 : decode cX9_cheapestRelief 87 = .ok (.iload 6, 2) := by decide +kernel
theorem dX9_cheapestRelief_89 : decode cX9_cheapestRelief 89 = .ok (.iconst (-1), 1) := by decide +kernel
theorem dX9_cheapestRelief_90 : decode cX9_cheapestRelief 90 = .ok (.if_icmp .eq 10, 3) := by decide +kernel
theorem dX9_cheapestRelief_93 : decode cX9_cheapestRelief 93 = .ok (.iload 9, 2) := by decide +kernel
theorem dX9_cheapestRelief_95 : decode cX9_cheapestRelief 95 = .ok (.iload 7, 2) := by decide +kernel
theorem dX9_cheapestRelief_97 : decode cX9_cheapestRelief 97 = .ok (.if_icmp .ge 44, 3) := by decide +kernel
theorem dX9_cheapestRelief_100 : decode cX9_cheapestRelief 100 = .ok (.aload_n 0, 1) := by decide +kernel
theorem dX9_cheapestRelief_101 : decode cX9_cheapestRelief 101 = .ok (.getfield 9, 3) := by decide +kernel
theorem dX9_cheapestRelief_104 : decode cX9_cheapestRelief 104 = .ok (.iload 8, 2) := by decide +kernel
theorem dX9_cheapestRelief_106 : decode cX9_cheapestRelief 106 = .ok (.invokestatic 82, 3) := by decide +kernel
theorem dX9_cheapestRelief_109 : decode cX9_cheapestRelief 109 = .ok (.invokevirtual 87, 3) := by decide +kernel
theorem dX9_cheapestRelief_112 : decode cX9_cheapestRelief 112 = .ok (.ifCond .eq 29, 3) := by decide +kernel
theorem dX9_cheapestRelief_115 : decode cX9_cheapestRelief 115 = .ok (.aload_n 0, 1) := by decide +kernel
theorem dX9_cheapestRelief_116 : decode cX9_cheapestRelief 116 = .ok (.iload 8, 2) := by decide +kernel
theorem dX9_cheapestRelief_118 : decode cX9_cheapestRelief 118 = .ok (.invokevirtual 91, 3) := by decide +kernel
theorem dX9_cheapestRelief_121 : decode cX9_cheapestRelief 121 = .ok (.ifCond .eq 20, 3) := by decide +kernel
theorem dX9_cheapestRelief_124 : decode cX9_cheapestRelief 124 = .ok (.aload_n 0, 1) := by decide +kernel
theorem dX9_cheapestRelief_125 : decode cX9_cheapestRelief 125 = .ok (.iload 8, 2) := by decide +kernel
theorem dX9_cheapestRelief_127 : decode cX9_cheapestRelief 127 = .ok (.invokevirtual 94, 3) := by decide +kernel
theorem dX9_cheapestRelief_130 : decode cX9_cheapestRelief 130 = .ok (.ifCond .eq 11, 3) := by decide +kernel
theorem dX9_cheapestRelief_133 : decode cX9_cheapestRelief 133 = .ok (.iload 8, 2) := by decide +kernel
theorem dX9_cheapestRelief_135 : decode cX9_cheapestRelief 135 = .ok (.istore 6, 2) := by decide +kernel
theorem dX9_cheapestRelief_137 : decode cX9_cheapestRelief 137 = .ok (.iload 9, 2) := by decide +kernel
theorem dX9_cheapestRelief_139 : decode cX9_cheapestRelief 139 = .ok (.istore 7, 2) := by decide +kernel
theorem dX9_cheapestRelief_141 : decode cX9_cheapestRelief 141 = .ok (.iinc 8 1, 3) := by decide +kernel
theorem dX9_cheapestRelief_144 : decode cX9_cheapestRelief 144 = .ok (.goto (-86), 3) := by decide +kernel
theorem dX9_cheapestRelief_147 : decode cX9_cheapestRelief 147 = .ok (.iload 6, 2) := by decide +kernel
theorem dX9_cheapestRelief_149 : decode cX9_cheapestRelief 149 = .ok (.ireturn, 1) := by decide +kernel
theorem dX9_noteLacks_0 : decode cX9_noteLacks 0 = .ok (.aload_n 0, 1) := by decide +kernel
theorem dX9_noteLacks_1 : decode cX9_noteLacks 1 = .ok (.iconst 0, 1) := by decide +kernel
theorem dX9_noteLacks_2 : decode cX9_noteLacks 2 = .ok (.putfield 97, 3) := by decide +kernel
theorem dX9_noteLacks_5 : decode cX9_noteLacks 5 = .ok (.iload_n 2, 1) := by decide +kernel
theorem dX9_noteLacks_6 : decode cX9_noteLacks 6 = .ok (.istore 4, 2) := by decide +kernel
theorem dX9_noteLacks_8 : decode cX9_noteLacks 8 = .ok (.iload 4, 2) := by decide +kernel
theorem dX9_noteLacks_10 : decode cX9_noteLacks 10 = .ok (.iload_n 3, 1) := by decide +kernel
theorem dX9_noteLacks_11 : decode cX9_noteLacks 11 = .ok (.if_icmp .gt 123, 3) := by decide +kernel
theorem dX9_noteLacks_14 : decode cX9_noteLacks 14 = .ok (.aload_n 0, 1) := by decide +kernel
theorem dX9_noteLacks_15 : decode cX9_noteLacks 15 = .ok (.aload_n 1, 1) := by decide +kernel
theorem dX9_noteLacks_16 : decode cX9_noteLacks 16 = .ok (.getfield 42, 3) := by decide +kernel
theorem dX9_noteLacks_19 : decode cX9_noteLacks 19 = .ok (.iload 4, 2) := by decide +kernel
theorem dX9_noteLacks_21 : decode cX9_noteLacks 21 = .ok (.invokevirtual 100, 3) := by decide +kernel
theorem dX9_noteLacks_24 : decode cX9_noteLacks 24 = .ok (.istore 5, 2) := by decide +kernel
theorem dX9_noteLacks_26 : decode cX9_noteLacks 26 = .ok (.aload_n 1, 1) := by decide +kernel
theorem dX9_noteLacks_27 : decode cX9_noteLacks 27 = .ok (.iload_n 3, 1) := by decide +kernel
theorem dX9_noteLacks_28 : decode cX9_noteLacks 28 = .ok (.iload 5, 2) := by decide +kernel
theorem dX9_noteLacks_30 : decode cX9_noteLacks 30 = .ok (.iconst 1, 1) := by decide +kernel
theorem dX9_noteLacks_31 : decode cX9_noteLacks 31 = .ok (.isub, 1) := by decide +kernel
theorem dX9_noteLacks_32 : decode cX9_noteLacks 32 = .ok (.invokestatic 68, 3) := by decide +kernel
theorem dX9_noteLacks_35 : decode cX9_noteLacks 35 = .ok (.invokevirtual 103, 3) := by decide +kernel
theorem dX9_noteLacks_38 : decode cX9_noteLacks 38 = .ok (.aload_n 0, 1) := by decide +kernel
theorem dX9_noteLacks_39 : decode cX9_noteLacks 39 = .ok (.getfield 9, 3) := by decide +kernel
theorem dX9_noteLacks_42 : decode cX9_noteLacks 42 = .ok (.aload_n 1, 1) := by decide +kernel
theorem dX9_noteLacks_43 : decode cX9_noteLacks 43 = .ok (.getfield 42, 3) := by decide +kernel
theorem dX9_noteLacks_46 : decode cX9_noteLacks 46 = .ok (.bipush 7, 2) := by decide +kernel
theorem dX9_noteLacks_48 : decode cX9_noteLacks 48 = .ok (.iload 4, 2) := by decide +kernel
theorem dX9_noteLacks_50 : decode cX9_noteLacks 50 = .ok (.imul, 1) := by decide +kernel
theorem dX9_noteLacks_51 : decode cX9_noteLacks 51 = .ok (.invokevirtual 51, 3) := by decide +kernel
theorem dX9_noteLacks_54 : decode cX9_noteLacks 54 = .ok (.lsub, 1) := by decide +kernel
theorem dX9_noteLacks_55 : decode cX9_noteLacks 55 = .ok (.lstore 6, 2) := by decide +kernel
theorem dX9_noteLacks_57 : decode cX9_noteLacks 57 = .ok (.lload 6, 2) := by decide +kernel
theorem dX9_noteLacks_59 : decode cX9_noteLacks 59 = .ok (.lconst 0, 1) := by decide +kernel
theorem dX9_noteLacks_60 : decode cX9_noteLacks 60 = .ok (.lcmp, 1) := by decide +kernel
theorem dX9_noteLacks_61 : decode cX9_noteLacks 61 = .ok (.ifCond .le 59, 3) := by decide +kernel
theorem dX9_noteLacks_64 : decode cX9_noteLacks 64 = .ok (.aload_n 0, 1) := by decide +kernel
theorem dX9_noteLacks_65 : decode cX9_noteLacks 65 = .ok (.getfield 97, 3) := by decide +kernel
theorem dX9_noteLacks_68 : decode cX9_noteLacks 68 = .ok (.aload_n 0, 1) := by decide +kernel
theorem dX9_noteLacks_69 : decode cX9_noteLacks 69 = .ok (.getfield 34, 3) := by decide +kernel
theorem dX9_noteLacks_72 : decode cX9_noteLacks 72 = .ok (.arraylength, 1) := by decide +kernel
theorem dX9_noteLacks_73 : decode cX9_noteLacks 73 = .ok (.if_icmp .ge 47, 3) := by decide +kernel
theorem dX9_noteLacks_76 : decode cX9_noteLacks 76 = .ok (.aload_n 0, 1) := by decide +kernel
theorem dX9_noteLacks_77 : decode cX9_noteLacks 77 = .ok (.getfield 97, 3) := by decide +kernel
theorem dX9_noteLacks_80 : decode cX9_noteLacks 80 = .ok (.aload_n 0, 1) := by decide +kernel
theorem dX9_noteLacks_81 : decode cX9_noteLacks 81 = .ok (.getfield 30, 3) := by decide +kernel
theorem dX9_noteLacks_84 : decode cX9_noteLacks 84 = .ok (.arraylength, 1) := by decide +kernel
theorem dX9_noteLacks_85 : decode cX9_noteLacks 85 = .ok (.if_icmp .ge 35, 3) := by decide +kernel
theorem dX9_noteLacks_88 : decode cX9_noteLacks 88 = .ok (.aload_n 0, 1) := by decide +kernel
theorem dX9_noteLacks_89 : decode cX9_noteLacks 89 = .ok (.getfield 30, 3) := by decide +kernel
theorem dX9_noteLacks_92 : decode cX9_noteLacks 92 = .ok (.aload_n 0, 1) := by decide +kernel
theorem dX9_noteLacks_93 : decode cX9_noteLacks 93 = .ok (.getfield 97, 3) := by decide +kernel
theorem dX9_noteLacks_96 : decode cX9_noteLacks 96 = .ok (.iload 4, 2) := by decide +kernel
theorem dX9_noteLacks_98 : decode cX9_noteLacks 98 = .ok (.iastore, 1) := by decide +kernel
theorem dX9_noteLacks_99 : decode cX9_noteLacks 99 = .ok (.aload_n 0, 1) := by decide +kernel
theorem dX9_noteLacks_100 : decode cX9_noteLacks 100 = .ok (.getfield 34, 3) := by decide +kernel
theorem dX9_noteLacks_103 : decode cX9_noteLacks 103 = .ok (.aload_n 0, 1) := by decide +kernel
theorem dX9_noteLacks_104 : decode cX9_noteLacks 104 = .ok (.getfield 97, 3) := by decide +kernel
theorem dX9_noteLacks_107 : decode cX9_noteLacks 107 = .ok (.lload 6, 2) := by decide +kernel
theorem dX9_noteLacks_109 : decode cX9_noteLacks 109 = .ok (.lastore, 1) := by decide +kernel
theorem dX9_noteLacks_110 : decode cX9_noteLacks 110 = .ok (.aload_n 0, 1) := by decide +kernel
theorem dX9_noteLacks_111 : decode cX9_noteLacks 111 = .ok (.dup, 1) := by decide +kernel
theorem dX9_noteLacks_112 : decode cX9_noteLacks 112 = .ok (.getfield 97, 3) := by decide +kernel
theorem dX9_noteLacks_115 : decode cX9_noteLacks 115 = .ok (.iconst 1, 1) := by decide +kernel
theorem dX9_noteLacks_116 : decode cX9_noteLacks 116 = .ok (.iadd, 1) := by decide +kernel
theorem dX9_noteLacks_117 : decode cX9_noteLacks 117 = .ok (.putfield 97, 3) := by decide +kernel
theorem dX9_noteLacks_120 : decode cX9_noteLacks 120 = .ok (.iload 4, 2) := by decide +kernel
theorem dX9_noteLacks_122 : decode cX9_noteLacks 122 = .ok (.iconst 1, 1) := by decide +kernel
theorem dX9_noteLacks_123 : decode cX9_noteLacks 123 = .ok (.iadd, 1) := by decide +kernel
theorem dX9_noteLacks_124 : decode cX9_noteLacks 124 = .ok (.iload 5, 2) := by decide +kernel
theorem dX9_noteLacks_126 : decode cX9_noteLacks 126 = .ok (.invokestatic 59, 3) := by decide +kernel
theorem dX9_noteLacks_129 : decode cX9_noteLacks 129 = .ok (.istore 4, 2) := by decide +kernel
theorem dX9_noteLacks_131 : decode cX9_noteLacks 131 = .ok (.goto (-123), 3) := by decide +kernel
theorem dX9_noteLacks_134 : decode cX9_noteLacks 134 = .ok (.return_, 1) := by decide +kernel
theorem dX9_nextTurnWithOptions_0 : decode cX9_nextTurnWithOptions 0 = .ok (.aload_n 0, 1) := by decide +kernel
theorem dX9_nextTurnWithOptions_1 : decode cX9_nextTurnWithOptions 1 = .ok (.getfield 9, 3) := by decide +kernel
theorem dX9_nextTurnWithOptions_4 : decode cX9_nextTurnWithOptions 4 = .ok (.iload_n 1, 1) := by decide +kernel
theorem dX9_nextTurnWithOptions_5 : decode cX9_nextTurnWithOptions 5 = .ok (.iload_n 2, 1) := by decide +kernel
theorem dX9_nextTurnWithOptions_6 : decode cX9_nextTurnWithOptions 6 = .ok (.invokevirtual 45, 3) := by decide +kernel
theorem dX9_nextTurnWithOptions_9 : decode cX9_nextTurnWithOptions 9 = .ok (.istore_n 3, 1) := by decide +kernel
theorem dX9_nextTurnWithOptions_10 : decode cX9_nextTurnWithOptions 10 = .ok (.iconst 0, 1) := by decide +kernel
theorem dX9_nextTurnWithOptions_11 : decode cX9_nextTurnWithOptions 11 = .ok (.istore 4, 2) := by decide +kernel
theorem dX9_nextTurnWithOptions_13 : decode cX9_nextTurnWithOptions 13 = .ok (.iload 4, 2) := by decide +kernel
theorem dX9_nextTurnWithOptions_15 : decode cX9_nextTurnWithOptions 15 = .ok (.aload_n 0, 1) := by decide +kernel
theorem dX9_nextTurnWithOptions_16 : decode cX9_nextTurnWithOptions 16 = .ok (.getfield 38, 3) := by decide +kernel
theorem dX9_nextTurnWithOptions_19 : decode cX9_nextTurnWithOptions 19 = .ok (.if_icmp .ge 39, 3) := by decide +kernel
theorem dX9_nextTurnWithOptions_22 : decode cX9_nextTurnWithOptions 22 = .ok (.aload_n 0, 1) := by decide +kernel
theorem dX9_nextTurnWithOptions_23 : decode cX9_nextTurnWithOptions 23 = .ok (.iload 4, 2) := by decide +kernel
theorem dX9_nextTurnWithOptions_25 : decode cX9_nextTurnWithOptions 25 = .ok (.invokevirtual 107, 3) := by decide +kernel
theorem dX9_nextTurnWithOptions_28 : decode cX9_nextTurnWithOptions 28 = .ok (.astore 5, 2) := by decide +kernel
theorem dX9_nextTurnWithOptions_30 : decode cX9_nextTurnWithOptions 30 = .ok (.aload 5, 2) := by decide +kernel
theorem dX9_nextTurnWithOptions_32 : decode cX9_nextTurnWithOptions 32 = .ok (.ifnull 20, 3) := by decide +kernel
theorem dX9_nextTurnWithOptions_35 : decode cX9_nextTurnWithOptions 35 = .ok (.iload_n 3, 1) := by decide +kernel
theorem dX9_nextTurnWithOptions_36 : decode cX9_nextTurnWithOptions 36 = .ok (.aload 5, 2) := by decide +kernel
theorem dX9_nextTurnWithOptions_38 : decode cX9_nextTurnWithOptions 38 = .ok (.getfield 111, 3) := by decide +kernel
theorem dX9_nextTurnWithOptions_41 : decode cX9_nextTurnWithOptions 41 = .ok (.getfield 115, 3) := by decide +kernel
theorem dX9_nextTurnWithOptions_44 : decode cX9_nextTurnWithOptions 44 = .ok (.invokestatic 120, 3) := by decide +kernel
theorem dX9_nextTurnWithOptions_47 : decode cX9_nextTurnWithOptions 47 = .ok (.iload_n 2, 1) := by decide +kernel
theorem dX9_nextTurnWithOptions_48 : decode cX9_nextTurnWithOptions 48 = .ok (.invokestatic 123, 3) := by decide +kernel
theorem dX9_nextTurnWithOptions_51 : decode cX9_nextTurnWithOptions 51 = .ok (.istore_n 3, 1) := by decide +kernel
theorem dX9_nextTurnWithOptions_52 : decode cX9_nextTurnWithOptions 52 = .ok (.iinc 4 1, 3) := by decide +kernel
theorem dX9_nextTurnWithOptions_55 : decode cX9_nextTurnWithOptions 55 = .ok (.goto (-42), 3) := by decide +kernel
theorem dX9_nextTurnWithOptions_58 : decode cX9_nextTurnWithOptions 58 = .ok (.iload_n 3, 1) := by decide +kernel
theorem dX9_nextTurnWithOptions_59 : decode cX9_nextTurnWithOptions 59 = .ok (.ireturn, 1) := by decide +kernel
theorem dX9_usableFor_0 : decode cX9_usableFor 0 = .ok (.iconst 0, 1) := by decide +kernel
theorem dX9_usableFor_1 : decode cX9_usableFor 1 = .ok (.istore_n 3, 1) := by decide +kernel
theorem dX9_usableFor_2 : decode cX9_usableFor 2 = .ok (.iconst 0, 1) := by decide +kernel
theorem dX9_usableFor_3 : decode cX9_usableFor 3 = .ok (.istore 4, 2) := by decide +kernel
theorem dX9_usableFor_5 : decode cX9_usableFor 5 = .ok (.iload 4, 2) := by decide +kernel
theorem dX9_usableFor_7 : decode cX9_usableFor 7 = .ok (.aload_n 0, 1) := by decide +kernel
theorem dX9_usableFor_8 : decode cX9_usableFor 8 = .ok (.getfield 38, 3) := by decide +kernel
theorem dX9_usableFor_11 : decode cX9_usableFor 11 = .ok (.if_icmp .ge 76, 3) := by decide +kernel
theorem dX9_usableFor_14 : decode cX9_usableFor 14 = .ok (.aload_n 0, 1) := by decide +kernel
theorem dX9_usableFor_15 : decode cX9_usableFor 15 = .ok (.iload 4, 2) := by decide +kernel
theorem dX9_usableFor_17 : decode cX9_usableFor 17 = .ok (.invokevirtual 107, 3) := by decide +kernel
theorem dX9_usableFor_20 : decode cX9_usableFor 20 = .ok (.astore 5, 2) := by decide +kernel
theorem dX9_usableFor_22 : decode cX9_usableFor 22 = .ok (.aload 5, 2) := by decide +kernel
theorem dX9_usableFor_24 : decode cX9_usableFor 24 = .ok (.ifnull 57, 3) := by decide +kernel
theorem dX9_usableFor_27 : decode cX9_usableFor 27 = .ok (.aload 5, 2) := by decide +kernel
theorem dX9_usableFor_29 : decode cX9_usableFor 29 = .ok (.getfield 111, 3) := by decide +kernel
theorem dX9_usableFor_32 : decode cX9_usableFor 32 = .ok (.getfield 127, 3) := by decide +kernel
theorem dX9_usableFor_35 : decode cX9_usableFor 35 = .ok (.iload_n 1, 1) := by decide +kernel
theorem dX9_usableFor_36 : decode cX9_usableFor 36 = .ok (.if_icmp .ne 45, 3) := by decide +kernel
theorem dX9_usableFor_39 : decode cX9_usableFor 39 = .ok (.aload 5, 2) := by decide +kernel
theorem dX9_usableFor_41 : decode cX9_usableFor 41 = .ok (.getfield 111, 3) := by decide +kernel
theorem dX9_usableFor_44 : decode cX9_usableFor 44 = .ok (.getfield 115, 3) := by decide +kernel
theorem dX9_usableFor_47 : decode cX9_usableFor 47 = .ok (.iload_n 2, 1) := by decide +kernel
theorem dX9_usableFor_48 : decode cX9_usableFor 48 = .ok (.if_icmp .lt 33, 3) := by decide +kernel
theorem dX9_usableFor_51 : decode cX9_usableFor 51 = .ok (.aload_n 0, 1) := by decide +kernel
theorem dX9_usableFor_52 : decode cX9_usableFor 52 = .ok (.getfield 9, 3) := by decide +kernel
theorem dX9_usableFor_55 : decode cX9_usableFor 55 = .ok (.aload 5, 2) := by decide +kernel
theorem dX9_usableFor_57 : decode cX9_usableFor 57 = .ok (.getfield 111, 3) := by decide +kernel
theorem dX9_usableFor_60 : decode cX9_usableFor 60 = .ok (.aload 5, 2) := by decide +kernel
theorem dX9_usableFor_62 : decode cX9_usableFor 62 = .ok (.getfield 111, 3) := by decide +kernel
theorem dX9_usableFor_65 : decode cX9_usableFor 65 = .ok (.getfield 115, 3) := by decide +kernel
theorem dX9_usableFor_68 : decode cX9_usableFor 68 = .ok (.invokevirtual 130, 3) := by decide +kernel
theorem dX9_usableFor_71 : decode cX9_usableFor 71 = .ok (.ifCond .ne 10, 3) := by decide +kernel
theorem dX9_usableFor_74 : decode cX9_usableFor 74 = .ok (.iload_n 3, 1) := by decide +kernel
theorem dX9_usableFor_75 : decode cX9_usableFor 75 = .ok (.iconst 1, 1) := by decide +kernel
theorem dX9_usableFor_76 : decode cX9_usableFor 76 = .ok (.iload 4, 2) := by decide +kernel
theorem dX9_usableFor_78 : decode cX9_usableFor 78 = .ok (.ishl, 1) := by decide +kernel
theorem dX9_usableFor_79 : decode cX9_usableFor 79 = .ok (.ior, 1) := by decide +kernel
theorem dX9_usableFor_80 : decode cX9_usableFor 80 = .ok (.istore_n 3, 1) := by decide +kernel
theorem dX9_usableFor_81 : decode cX9_usableFor 81 = .ok (.iinc 4 1, 3) := by decide +kernel
theorem dX9_usableFor_84 : decode cX9_usableFor 84 = .ok (.goto (-79), 3) := by decide +kernel
theorem dX9_usableFor_87 : decode cX9_usableFor 87 = .ok (.iload_n 3, 1) := by decide +kernel
theorem dX9_usableFor_88 : decode cX9_usableFor 88 = .ok (.ireturn, 1) := by decide +kernel
theorem dX9_costOf_0 : decode cX9_costOf 0 = .ok (.iconst 0, 1) := by decide +kernel
theorem dX9_costOf_1 : decode cX9_costOf 1 = .ok (.istore_n 2, 1) := by decide +kernel
theorem dX9_costOf_2 : decode cX9_costOf 2 = .ok (.iconst 0, 1) := by decide +kernel
theorem dX9_costOf_3 : decode cX9_costOf 3 = .ok (.istore_n 3, 1) := by decide +kernel
theorem dX9_costOf_4 : decode cX9_costOf 4 = .ok (.iload_n 3, 1) := by decide +kernel
theorem dX9_costOf_5 : decode cX9_costOf 5 = .ok (.aload_n 0, 1) := by decide +kernel
theorem dX9_costOf_6 : decode cX9_costOf 6 = .ok (.getfield 38, 3) := by decide +kernel
theorem dX9_costOf_9 : decode cX9_costOf 9 = .ok (.if_icmp .ge 37, 3) := by decide +kernel
theorem dX9_costOf_12 : decode cX9_costOf 12 = .ok (.aload_n 0, 1) := by decide +kernel
theorem dX9_costOf_13 : decode cX9_costOf 13 = .ok (.iload_n 3, 1) := by decide +kernel
theorem dX9_costOf_14 : decode cX9_costOf 14 = .ok (.invokevirtual 107, 3) := by decide +kernel
theorem dX9_costOf_17 : decode cX9_costOf 17 = .ok (.astore 4, 2) := by decide +kernel
theorem dX9_costOf_19 : decode cX9_costOf 19 = .ok (.aload 4, 2) := by decide +kernel
theorem dX9_costOf_21 : decode cX9_costOf 21 = .ok (.ifnull 19, 3) := by decide +kernel
theorem dX9_costOf_24 : decode cX9_costOf 24 = .ok (.iload_n 1, 1) := by decide +kernel
theorem dX9_costOf_25 : decode cX9_costOf 25 = .ok (.iload_n 3, 1) := by decide +kernel
theorem dX9_costOf_26 : decode cX9_costOf 26 = .ok (.ishr, 1) := by decide +kernel
theorem dX9_costOf_27 : decode cX9_costOf 27 = .ok (.iconst 1, 1) := by decide +kernel
theorem dX9_costOf_28 : decode cX9_costOf 28 = .ok (.iand, 1) := by decide +kernel
theorem dX9_costOf_29 : decode cX9_costOf 29 = .ok (.ifCond .eq 11, 3) := by decide +kernel
theorem dX9_costOf_32 : decode cX9_costOf 32 = .ok (.iload_n 2, 1) := by decide +kernel
theorem dX9_costOf_33 : decode cX9_costOf 33 = .ok (.aload 4, 2) := by decide +kernel
theorem dX9_costOf_35 : decode cX9_costOf 35 = .ok (.getfield 134, 3) := by decide +kernel
theorem dX9_costOf_38 : decode cX9_costOf 38 = .ok (.iadd, 1) := by decide +kernel
theorem dX9_costOf_39 : decode cX9_costOf 39 = .ok (.istore_n 2, 1) := by decide +kernel
theorem dX9_costOf_40 : decode cX9_costOf 40 = .ok (.iinc 3 1, 3) := by decide +kernel
theorem dX9_costOf_43 : decode cX9_costOf 43 = .ok (.goto (-39), 3) := by decide +kernel
theorem dX9_costOf_46 : decode cX9_costOf 46 = .ok (.iload_n 2, 1) := by decide +kernel
theorem dX9_costOf_47 : decode cX9_costOf 47 = .ok (.ireturn, 1) := by decide +kernel
theorem dX9_isWithoutPair_0 : decode cX9_isWithoutPair 0 = .ok (.iconst 0, 1) := by decide +kernel
theorem dX9_isWithoutPair_1 : decode cX9_isWithoutPair 1 = .ok (.istore_n 2, 1) := by decide +kernel
theorem dX9_isWithoutPair_2 : decode cX9_isWithoutPair 2 = .ok (.iload_n 2, 1) := by decide +kernel
theorem dX9_isWithoutPair_3 : decode cX9_isWithoutPair 3 = .ok (.aload_n 0, 1) := by decide +kernel
theorem dX9_isWithoutPair_4 : decode cX9_isWithoutPair 4 = .ok (.getfield 38, 3) := by decide +kernel
theorem dX9_isWithoutPair_7 : decode cX9_isWithoutPair 7 = .ok (.if_icmp .ge 86, 3) := by decide +kernel
theorem dX9_isWithoutPair_10 : decode cX9_isWithoutPair 10 = .ok (.aload_n 0, 1) := by decide +kernel
theorem dX9_isWithoutPair_11 : decode cX9_isWithoutPair 11 = .ok (.iload_n 2, 1) := by decide +kernel
theorem dX9_isWithoutPair_12 : decode cX9_isWithoutPair 12 = .ok (.invokevirtual 107, 3) := by decide +kernel
theorem dX9_isWithoutPair_15 : decode cX9_isWithoutPair 15 = .ok (.astore_n 3, 1) := by decide +kernel
theorem dX9_isWithoutPair_16 : decode cX9_isWithoutPair 16 = .ok (.iload_n 2, 1) := by decide +kernel
theorem dX9_isWithoutPair_17 : decode cX9_isWithoutPair 17 = .ok (.iconst 1, 1) := by decide +kernel
theorem dX9_isWithoutPair_18 : decode cX9_isWithoutPair 18 = .ok (.iadd, 1) := by decide +kernel
theorem dX9_isWithoutPair_19 : decode cX9_isWithoutPair 19 = .ok (.istore 4, 2) := by decide +kernel
theorem dX9_isWithoutPair_21 : decode cX9_isWithoutPair 21 = .ok (.iload 4, 2) := by decide +kernel
theorem dX9_isWithoutPair_23 : decode cX9_isWithoutPair 23 = .ok (.aload_n 0, 1) := by decide +kernel
theorem dX9_isWithoutPair_24 : decode cX9_isWithoutPair 24 = .ok (.getfield 38, 3) := by decide +kernel
theorem dX9_isWithoutPair_27 : decode cX9_isWithoutPair 27 = .ok (.if_icmp .ge 60, 3) := by decide +kernel
theorem dX9_isWithoutPair_30 : decode cX9_isWithoutPair 30 = .ok (.aload_n 0, 1) := by decide +kernel
theorem dX9_isWithoutPair_31 : decode cX9_isWithoutPair 31 = .ok (.iload 4, 2) := by decide +kernel
theorem dX9_isWithoutPair_33 : decode cX9_isWithoutPair 33 = .ok (.invokevirtual 107, 3) := by decide +kernel
theorem dX9_isWithoutPair_36 : decode cX9_isWithoutPair 36 = .ok (.astore 5, 2) := by decide +kernel
theorem dX9_isWithoutPair_38 : decode cX9_isWithoutPair 38 = .ok (.aload_n 3, 1) := by decide +kernel
theorem dX9_isWithoutPair_39 : decode cX9_isWithoutPair 39 = .ok (.ifnull 42, 3) := by decide +kernel
theorem dX9_isWithoutPair_42 : decode cX9_isWithoutPair 42 = .ok (.aload 5, 2) := by decide +kernel
theorem dX9_isWithoutPair_44 : decode cX9_isWithoutPair 44 = .ok (.ifnull 37, 3) := by decide +kernel
theorem dX9_isWithoutPair_47 : decode cX9_isWithoutPair 47 = .ok (.iload_n 1, 1) := by decide +kernel
theorem dX9_isWithoutPair_48 : decode cX9_isWithoutPair 48 = .ok (.iload_n 2, 1) := by decide +kernel
theorem dX9_isWithoutPair_49 : decode cX9_isWithoutPair 49 = .ok (.ishr, 1) := by decide +kernel
theorem dX9_isWithoutPair_50 : decode cX9_isWithoutPair 50 = .ok (.iconst 1, 1) := by decide +kernel
theorem dX9_isWithoutPair_51 : decode cX9_isWithoutPair 51 = .ok (.iand, 1) := by decide +kernel
theorem dX9_isWithoutPair_52 : decode cX9_isWithoutPair 52 = .ok (.ifCond .eq 29, 3) := by decide +kernel
theorem dX9_isWithoutPair_55 : decode cX9_isWithoutPair 55 = .ok (.iload_n 1, 1) := by decide +kernel
theorem dX9_isWithoutPair_56 : decode cX9_isWithoutPair 56 = .ok (.iload 4, 2) := by decide +kernel
theorem dX9_isWithoutPair_58 : decode cX9_isWithoutPair 58 = .ok (.ishr, 1) := by decide +kernel
theorem dX9_isWithoutPair_59 : decode cX9_isWithoutPair 59 = .ok (.iconst 1, 1) := by decide +kernel
theorem dX9_isWithoutPair_60 : decode cX9_isWithoutPair 60 = .ok (.iand, 1) := by decide +kernel
theorem dX9_isWithoutPair_61 : decode cX9_isWithoutPair 61 = .ok (.ifCond .eq 20, 3) := by decide +kernel
theorem dX9_isWithoutPair_64 : decode cX9_isWithoutPair 64 = .ok (.aload_n 3, 1) := by decide +kernel
theorem dX9_isWithoutPair_65 : decode cX9_isWithoutPair 65 = .ok (.getfield 111, 3) := by decide +kernel
theorem dX9_isWithoutPair_68 : decode cX9_isWithoutPair 68 = .ok (.aload 5, 2) := by decide +kernel
theorem dX9_isWithoutPair_70 : decode cX9_isWithoutPair 70 = .ok (.getfield 111, 3) := by decide +kernel
theorem dX9_isWithoutPair_73 : decode cX9_isWithoutPair 73 = .ok (.invokevirtual 137, 3) := by decide +kernel
theorem dX9_isWithoutPair_76 : decode cX9_isWithoutPair 76 = .ok (.ifCond .eq 5, 3) := by decide +kernel
theorem dX9_isWithoutPair_79 : decode cX9_isWithoutPair 79 = .ok (.iconst 0, 1) := by decide +kernel
theorem dX9_isWithoutPair_80 : decode cX9_isWithoutPair 80 = .ok (.ireturn, 1) := by decide +kernel
theorem dX9_isWithoutPair_81 : decode cX9_isWithoutPair 81 = .ok (.iinc 4 1, 3) := by decide +kernel
theorem dX9_isWithoutPair_84 : decode cX9_isWithoutPair 84 = .ok (.goto (-63), 3) := by decide +kernel
theorem dX9_isWithoutPair_87 : decode cX9_isWithoutPair 87 = .ok (.iinc 2 1, 3) := by decide +kernel
theorem dX9_isWithoutPair_90 : decode cX9_isWithoutPair 90 = .ok (.goto (-88), 3) := by decide +kernel
theorem dX9_isWithoutPair_93 : decode cX9_isWithoutPair 93 = .ok (.iconst 1, 1) := by decide +kernel
theorem dX9_isWithoutPair_94 : decode cX9_isWithoutPair 94 = .ok (.ireturn, 1) := by decide +kernel
theorem dX9_coversLacks_0 : decode cX9_coversLacks 0 = .ok (.iconst 0, 1) := by decide +kernel
theorem dX9_coversLacks_1 : decode cX9_coversLacks 1 = .ok (.istore_n 2, 1) := by decide +kernel
theorem dX9_coversLacks_2 : decode cX9_coversLacks 2 = .ok (.iload_n 2, 1) := by decide +kernel
theorem dX9_coversLacks_3 : decode cX9_coversLacks 3 = .ok (.aload_n 0, 1) := by decide +kernel
theorem dX9_coversLacks_4 : decode cX9_coversLacks 4 = .ok (.getfield 97, 3) := by decide +kernel
theorem dX9_coversLacks_7 : decode cX9_coversLacks 7 = .ok (.if_icmp .ge 53, 3) := by decide +kernel
theorem dX9_coversLacks_10 : decode cX9_coversLacks 10 = .ok (.iload_n 2, 1) := by decide +kernel
theorem dX9_coversLacks_11 : decode cX9_coversLacks 11 = .ok (.aload_n 0, 1) := by decide +kernel
theorem dX9_coversLacks_12 : decode cX9_coversLacks 12 = .ok (.getfield 34, 3) := by decide +kernel
theorem dX9_coversLacks_15 : decode cX9_coversLacks 15 = .ok (.arraylength, 1) := by decide +kernel
theorem dX9_coversLacks_16 : decode cX9_coversLacks 16 = .ok (.if_icmp .ge 44, 3) := by decide +kernel
theorem dX9_coversLacks_19 : decode cX9_coversLacks 19 = .ok (.iload_n 2, 1) := by decide +kernel
theorem dX9_coversLacks_20 : decode cX9_coversLacks 20 = .ok (.aload_n 0, 1) := by decide +kernel
theorem dX9_coversLacks_21 : decode cX9_coversLacks 21 = .ok (.getfield 30, 3) := by decide +kernel
theorem dX9_coversLacks_24 : decode cX9_coversLacks 24 = .ok (.arraylength, 1) := by decide +kernel
theorem dX9_coversLacks_25 : decode cX9_coversLacks 25 = .ok (.if_icmp .ge 35, 3) := by decide +kernel
theorem dX9_coversLacks_28 : decode cX9_coversLacks 28 = .ok (.aload_n 0, 1) := by decide +kernel
theorem dX9_coversLacks_29 : decode cX9_coversLacks 29 = .ok (.iload_n 1, 1) := by decide +kernel
theorem dX9_coversLacks_30 : decode cX9_coversLacks 30 = .ok (.bipush 7, 2) := by decide +kernel
theorem dX9_coversLacks_32 : decode cX9_coversLacks 32 = .ok (.aload_n 0, 1) := by decide +kernel
theorem dX9_coversLacks_33 : decode cX9_coversLacks 33 = .ok (.getfield 30, 3) := by decide +kernel
theorem dX9_coversLacks_36 : decode cX9_coversLacks 36 = .ok (.iload_n 2, 1) := by decide +kernel
theorem dX9_coversLacks_37 : decode cX9_coversLacks 37 = .ok (.iaload, 1) := by decide +kernel
theorem dX9_coversLacks_38 : decode cX9_coversLacks 38 = .ok (.imul, 1) := by decide +kernel
theorem dX9_coversLacks_39 : decode cX9_coversLacks 39 = .ok (.invokevirtual 141, 3) := by decide +kernel
theorem dX9_coversLacks_42 : decode cX9_coversLacks 42 = .ok (.aload_n 0, 1) := by decide +kernel
theorem dX9_coversLacks_43 : decode cX9_coversLacks 43 = .ok (.getfield 34, 3) := by decide +kernel
theorem dX9_coversLacks_46 : decode cX9_coversLacks 46 = .ok (.iload_n 2, 1) := by decide +kernel
theorem dX9_coversLacks_47 : decode cX9_coversLacks 47 = .ok (.laload, 1) := by decide +kernel
theorem dX9_coversLacks_48 : decode cX9_coversLacks 48 = .ok (.lcmp, 1) := by decide +kernel
theorem dX9_coversLacks_49 : decode cX9_coversLacks 49 = .ok (.ifCond .ge 5, 3) := by decide +kernel
theorem dX9_coversLacks_52 : decode cX9_coversLacks 52 = .ok (.iconst 0, 1) := by decide +kernel
theorem dX9_coversLacks_53 : decode cX9_coversLacks 53 = .ok (.ireturn, 1) := by decide +kernel
theorem dX9_coversLacks_54 : decode cX9_coversLacks 54 = .ok (.iinc 2 1, 3) := by decide +kernel
theorem dX9_coversLacks_57 : decode cX9_coversLacks 57 = .ok (.goto (-55), 3) := by decide +kernel
theorem dX9_coversLacks_60 : decode cX9_coversLacks 60 = .ok (.iconst 1, 1) := by decide +kernel
theorem dX9_coversLacks_61 : decode cX9_coversLacks 61 = .ok (.ireturn, 1) := by decide +kernel
theorem dX9_roomBy_0 : decode cX9_roomBy 0 = .ok (.lconst 0, 1) := by decide +kernel
theorem dX9_roomBy_1 : decode cX9_roomBy 1 = .ok (.lstore_n 3, 1) := by decide +kernel
theorem dX9_roomBy_2 : decode cX9_roomBy 2 = .ok (.iconst 0, 1) := by decide +kernel
theorem dX9_roomBy_3 : decode cX9_roomBy 3 = .ok (.istore 5, 2) := by decide +kernel
theorem dX9_roomBy_5 : decode cX9_roomBy 5 = .ok (.iload 5, 2) := by decide +kernel
theorem dX9_roomBy_7 : decode cX9_roomBy 7 = .ok (.aload_n 0, 1) := by decide +kernel
theorem dX9_roomBy_8 : decode cX9_roomBy 8 = .ok (.getfield 38, 3) := by decide +kernel
theorem dX9_roomBy_11 : decode cX9_roomBy 11 = .ok (.if_icmp .ge 43, 3) := by decide +kernel
theorem dX9_roomBy_14 : decode cX9_roomBy 14 = .ok (.aload_n 0, 1) := by decide +kernel
theorem dX9_roomBy_15 : decode cX9_roomBy 15 = .ok (.iload 5, 2) := by decide +kernel
theorem dX9_roomBy_17 : decode cX9_roomBy 17 = .ok (.invokevirtual 107, 3) := by decide +kernel
theorem dX9_roomBy_20 : decode cX9_roomBy 20 = .ok (.astore 6, 2) := by decide +kernel
theorem dX9_roomBy_22 : decode cX9_roomBy 22 = .ok (.aload 6, 2) := by decide +kernel
theorem dX9_roomBy_24 : decode cX9_roomBy 24 = .ok (.ifnull 24, 3) := by decide +kernel
theorem dX9_roomBy_27 : decode cX9_roomBy 27 = .ok (.iload_n 1, 1) := by decide +kernel
theorem dX9_roomBy_28 : decode cX9_roomBy 28 = .ok (.iload 5, 2) := by decide +kernel
theorem dX9_roomBy_30 : decode cX9_roomBy 30 = .ok (.ishr, 1) := by decide +kernel
theorem dX9_roomBy_31 : decode cX9_roomBy 31 = .ok (.iconst 1, 1) := by decide +kernel
theorem dX9_roomBy_32 : decode cX9_roomBy 32 = .ok (.iand, 1) := by decide +kernel
